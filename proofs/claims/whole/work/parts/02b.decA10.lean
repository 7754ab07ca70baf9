theorem dX0_init_0 : decode cX0_init 0 = .ok (.aload_n 0, 1) := by decide +kernel
theorem dX0_init_1 : decode cX0_init 1 = .ok (.invokespecial 3, 3) := by decide +kernel
theorem dX0_init_4 : decode cX0_init 4 = .ok (.aload_n 0, 1) := by decide +kernel
theorem dX0_init_5 : decode cX0_init 5 = .ok (.sipush 360, 3) := by decide +kernel
theorem dX0_init_8 : decode cX0_init 8 = .ok (.newarray .int, 2) := by decide +kernel
theorem dX0_init_10 : decode cX0_init 10 = .ok (.putfield 11, 3) := by decide +kernel
theorem dX0_init_13 : decode cX0_init 13 = .ok (.aload_n 0, 1) := by decide +kernel
theorem dX0_init_14 : decode cX0_init 14 = .ok (.iconst 0, 1) := by decide +kernel
theorem dX0_init_15 : decode cX0_init 15 = .ok (.putfield 15, 3) := by decide +kernel
theorem dX0_init_18 : decode cX0_init 18 = .ok (.aload_n 0, 1) := by decide +kernel
theorem dX0_init_19 : decode cX0_init 19 = .ok (.iconst 0, 1) := by decide +kernel
theorem dX0_init_20 : decode cX0_init 20 = .ok (.putfield 19, 3) := by decide +kernel
theorem dX0_init_23 : decode cX0_init 23 = .ok (.aload_n 0, 1) := by decide +kernel
theorem dX0_init_24 : decode cX0_init 24 = .ok (.iconst 0, 1) := by decide +kernel
theorem dX0_init_25 : decode cX0_init 25 = .ok (.putfield 22, 3) := by decide +kernel
theorem dX0_init_28 : decode cX0_init 28 = .ok (.return_, 1) := by decide +kernel
theorem dX0_add_0 : decode cX0_add 0 = .ok (.aload_n 0, 1) := by decide +kernel
theorem dX0_add_1 : decode cX0_add 1 = .ok (.getfield 19, 3) := by decide +kernel
theorem dX0_add_4 : decode cX0_add 4 = .ok (.bipush 60, 2) := by decide +kernel
theorem dX0_add_6 : decode cX0_add 6 = .ok (.invokestatic 25, 3) := by decide +kernel
theorem dX0_add_9 : decode cX0_add 9 = .ok (.bipush 6, 2) := by decide +kernel
theorem dX0_add_11 : decode cX0_add 11 = .ok (.imul, 1) := by decide +kernel
theorem dX0_add_12 : decode cX0_add 12 = .ok (.istore 7, 2) := by decide +kernel
theorem dX0_add_14 : decode cX0_add 14 = .ok (.aload_n 0, 1) := by decide +kernel
theorem dX0_add_15 : decode cX0_add 15 = .ok (.getfield 11, 3) := by decide +kernel
theorem dX0_add_18 : decode cX0_add 18 = .ok (.iload 7, 2) := by decide +kernel
theorem dX0_add_20 : decode cX0_add 20 = .ok (.iconst 0, 1) := by decide +kernel
theorem dX0_add_21 : decode cX0_add 21 = .ok (.iadd, 1) := by decide +kernel
theorem dX0_add_22 : decode cX0_add 22 = .ok (.iload_n 1, 1) := by decide +kernel
theorem dX0_add_23 : decode cX0_add 23 = .ok (.iastore, 1) := by decide +kernel
theorem dX0_add_24 : decode cX0_add 24 = .ok (.aload_n 0, 1) := by decide +kernel
theorem dX0_add_25 : decode cX0_add 25 = .ok (.getfield 11, 3) := by decide +kernel
theorem dX0_add_28 : decode cX0_add 28 = .ok (.iload 7, 2) := by decide +kernel
theorem dX0_add_30 : decode cX0_add 30 = .ok (.iconst 1, 1) := by decide +kernel
theorem dX0_add_31 : decode cX0_add 31 = .ok (.iadd, 1) := by decide +kernel
theorem dX0_add_32 : decode cX0_add 32 = .ok (.iload_n 2, 1) := by decide +kernel
theorem dX0_add_33 : decode cX0_add 33 = .ok (.iastore, 1) := by decide +kernel
theorem dX0_add_34 : decode cX0_add 34 = .ok (.aload_n 0, 1) := by decide +kernel
theorem dX0_add_35 : decode cX0_add 35 = .ok (.getfield 11, 3) := by decide +kernel
theorem dX0_add_38 : decode cX0_add 38 = .ok (.iload 7, 2) := by decide +kernel
theorem dX0_add_40 : decode cX0_add 40 = .ok (.iconst 2, 1) := by decide +kernel
theorem dX0_add_41 : decode cX0_add 41 = .ok (.iadd, 1) := by decide +kernel
theorem dX0_add_42 : decode cX0_add 42 = .ok (.iload_n 3, 1) := by decide +kernel
theorem dX0_add_43 : decode cX0_add 43 = .ok (.iastore, 1) := by decide +kernel
theorem dX0_add_44 : decode cX0_add 44 = .ok (.aload_n 0, 1) := by decide +kernel
theorem dX0_add_45 : decode cX0_add 45 = .ok (.getfield 11, 3) := by decide +kernel
theorem dX0_add_48 : decode cX0_add 48 = .ok (.iload 7, 2) := by decide +kernel
theorem dX0_add_50 : decode cX0_add 50 = .ok (.iconst 3, 1) := by decide +kernel
theorem dX0_add_51 : decode cX0_add 51 = .ok (.iadd, 1) := by decide +kernel
theorem dX0_add_52 : decode cX0_add 52 = .ok (.iload 4, 2) := by decide +kernel
theorem dX0_add_54 : decode cX0_add 54 = .ok (.iastore, 1) := by decide +kernel
theorem dX0_add_55 : decode cX0_add 55 = .ok (.aload_n 0, 1) := by decide +kernel
theorem dX0_add_56 : decode cX0_add 56 = .ok (.getfield 11, 3) := by decide +kernel
theorem dX0_add_59 : decode cX0_add 59 = .ok (.iload 7, 2) := by decide +kernel
theorem dX0_add_61 : decode cX0_add 61 = .ok (.iconst 4, 1) := by decide +kernel
theorem dX0_add_62 : decode cX0_add 62 = .ok (.iadd, 1) := by decide +kernel
theorem dX0_add_63 : decode cX0_add 63 = .ok (.iload 5, 2) := by decide +kernel
theorem dX0_add_65 : decode cX0_add 65 = .ok (.iastore, 1) := by decide +kernel
theorem dX0_add_66 : decode cX0_add 66 = .ok (.aload_n 0, 1) := by decide +kernel
theorem dX0_add_67 : decode cX0_add 67 = .ok (.getfield 11, 3) := by decide +kernel
theorem dX0_add_70 : decode cX0_add 70 = .ok (.iload 7, 2) := by decide +kernel
theorem dX0_add_72 : decode cX0_add 72 = .ok (.iconst 5, 1) := by decide +kernel
theorem dX0_add_73 : decode cX0_add 73 = .ok (.iadd, 1) := by decide +kernel
theorem dX0_add_74 : decode cX0_add 74 = .ok (.iload 6, 2) := by decide +kernel
theorem dX0_add_76 : decode cX0_add 76 = .ok (.iastore, 1) := by decide +kernel
theorem dX0_add_77 : decode cX0_add 77 = .ok (.aload_n 0, 1) := by decide +kernel
theorem dX0_add_78 : decode cX0_add 78 = .ok (.dup, 1) := by decide +kernel
theorem dX0_add_79 : decode cX0_add 79 = .ok (.getfield 19, 3) := by decide +kernel
theorem dX0_add_82 : decode cX0_add 82 = .ok (.iconst 1, 1) := by decide +kernel
theorem dX0_add_83 : decode cX0_add 83 = .ok (.iadd, 1) := by decide +kernel
theorem dX0_add_84 : decode cX0_add 84 = .ok (.putfield 19, 3) := by decide +kernel
theorem dX0_add_87 : decode cX0_add 87 = .ok (.aload_n 0, 1) := by decide +kernel
theorem dX0_add_88 : decode cX0_add 88 = .ok (.getfield 15, 3) := by decide +kernel
theorem dX0_add_91 : decode cX0_add 91 = .ok (.bipush 60, 2) := by decide +kernel
theorem dX0_add_93 : decode cX0_add 93 = .ok (.if_icmp .ge 13, 3) := by decide +kernel
theorem dX0_add_96 : decode cX0_add 96 = .ok (.aload_n 0, 1) := by decide +kernel
theorem dX0_add_97 : decode cX0_add 97 = .ok (.dup, 1) := by decide +kernel
theorem dX0_add_98 : decode cX0_add 98 = .ok (.getfield 15, 3) := by decide +kernel
theorem dX0_add_101 : decode cX0_add 101 = .ok (.iconst 1, 1) := by decide +kernel
theorem dX0_add_102 : decode cX0_add 102 = .ok (.iadd, 1) := by decide +kernel
theorem dX0_add_103 : decode cX0_add 103 = .ok (.putfield 15, 3) := by decide +kernel
theorem dX0_add_106 : decode cX0_add 106 = .ok (.return_, 1) := by decide +kernel
theorem dX0_word_0 : decode cX0_word 0 = .ok (.iload_n 1, 1) := by decide +kernel
theorem dX0_word_1 : decode cX0_word 1 = .ok (.ifCond .lt 21, 3) := by decide +kernel
theorem dX0_word_4 : decode cX0_word 4 = .ok (.iload_n 1, 1) := by decide +kernel
theorem dX0_word_5 : decode cX0_word 5 = .ok (.aload_n 0, 1) := by decide +kernel
theorem dX0_word_6 : decode cX0_word 6 = .ok (.getfield 15, 3) := by decide +kernel
theorem dX0_word_9 : decode cX0_word 9 = .ok (.if_icmp .ge 13, 3) := by decide +kernel
theorem dX0_word_12 : decode cX0_word 12 = .ok (.iload_n 2, 1) := by decide +kernel
theorem dX0_word_13 : decode cX0_word 13 = .ok (.ifCond .lt 9, 3) := by decide +kernel
theorem dX0_word_16 : decode cX0_word 16 = .ok (.iload_n 2, 1) := by decide +kernel
theorem dX0_word_17 : decode cX0_word 17 = .ok (.bipush 6, 2) := by decide +kernel
theorem dX0_word_19 : decode cX0_word 19 = .ok (.if_icmp .lt 6, 3) := by decide +kernel
theorem dX0_word_22 : decode cX0_word 22 = .ok (.bipush (-2), 2) := by decide +kernel
theorem dX0_word_24 : decode cX0_word 24 = .ok (.ireturn, 1) := by decide +kernel
theorem dX0_word_25 : decode cX0_word 25 = .ok (.aload_n 0, 1) := by decide +kernel
theorem dX0_word_26 : decode cX0_word 26 = .ok (.getfield 11, 3) := by decide +kernel
theorem dX0_word_29 : decode cX0_word 29 = .ok (.aload_n 0, 1) := by decide +kernel
theorem dX0_word_30 : decode cX0_word 30 = .ok (.getfield 19, 3) := by decide +kernel
theorem dX0_word_33 : decode cX0_word 33 = .ok (.aload_n 0, 1) := by decide +kernel
theorem dX0_word_34 : decode cX0_word 34 = .ok (.getfield 15, 3) := by decide +kernel
theorem dX0_word_37 : decode cX0_word 37 = .ok (.isub, 1) := by decide +kernel
theorem dX0_word_38 : decode cX0_word 38 = .ok (.iload_n 1, 1) := by decide +kernel
theorem dX0_word_39 : decode cX0_word 39 = .ok (.iadd, 1) := by decide +kernel
theorem dX0_word_40 : decode cX0_word 40 = .ok (.bipush 60, 2) := by decide +kernel
theorem dX0_word_42 : decode cX0_word 42 = .ok (.invokestatic 25, 3) := by decide +kernel
theorem dX0_word_45 : decode cX0_word 45 = .ok (.bipush 6, 2) := by decide +kernel
theorem dX0_word_47 : decode cX0_word 47 = .ok (.imul, 1) := by decide +kernel
theorem dX0_word_48 : decode cX0_word 48 = .ok (.iload_n 2, 1) := by decide +kernel
theorem dX0_word_49 : decode cX0_word 49 = .ok (.iadd, 1) := by decide +kernel
theorem dX0_word_50 : decode cX0_word 50 = .ok (.iaload, 1) := by decide +kernel
theorem dX0_word_51 : decode cX0_word 51 = .ok (.ireturn, 1) := by decide +kernel
theorem dX1_init_0 : decode cX1_init 0 = .ok (.aload_n 0, 1) := by decide +kernel
theorem dX1_init_1 : decode cX1_init 1 = .ok (.invokespecial 3, 3) := by decide +kernel
theorem dX1_init_4 : decode cX1_init 4 = .ok (.aload_n 0, 1) := by decide +kernel
theorem dX1_init_5 : decode cX1_init 5 = .ok (.sipush 300, 3) := by decide +kernel
theorem dX1_init_8 : decode cX1_init 8 = .ok (.anewarray 11, 3) := by decide +kernel
theorem dX1_init_11 : decode cX1_init 11 = .ok (.putfield 13, 3) := by decide +kernel
theorem dX1_init_14 : decode cX1_init 14 = .ok (.aload_n 0, 1) := by decide +kernel
theorem dX1_init_15 : decode cX1_init 15 = .ok (.sipush 300, 3) := by decide +kernel
theorem dX1_init_18 : decode cX1_init 18 = .ok (.newarray .int, 2) := by decide +kernel
theorem dX1_init_20 : decode cX1_init 20 = .ok (.putfield 17, 3) := by decide +kernel
theorem dX1_init_23 : decode cX1_init 23 = .ok (.aload_n 0, 1) := by decide +kernel
theorem dX1_init_24 : decode cX1_init 24 = .ok (.sipush 300, 3) := by decide +kernel
theorem dX1_init_27 : decode cX1_init 27 = .ok (.newarray .int, 2) := by decide +kernel
theorem dX1_init_29 : decode cX1_init 29 = .ok (.putfield 21, 3) := by decide +kernel
theorem dX1_init_32 : decode cX1_init 32 = .ok (.aload_n 0, 1) := by decide +kernel
theorem dX1_init_33 : decode cX1_init 33 = .ok (.sipush 300, 3) := by decide +kernel
theorem dX1_init_36 : decode cX1_init 36 = .ok (.newarray .int, 2) := by decide +kernel
theorem dX1_init_38 : decode cX1_init 38 = .ok (.putfield 24, 3) := by decide +kernel
theorem dX1_init_41 : decode cX1_init 41 = .ok (.aload_n 0, 1) := by decide +kernel
theorem dX1_init_42 : decode cX1_init 42 = .ok (.sipush 256, 3) := by decide +kernel
theorem dX1_init_45 : decode cX1_init 45 = .ok (.newarray .int, 2) := by decide +kernel
theorem dX1_init_47 : decode cX1_init 47 = .ok (.putfield 27, 3) := by decide +kernel
theorem dX1_init_50 : decode cX1_init 50 = .ok (.aload_n 0, 1) := by decide +kernel
theorem dX1_init_51 : decode cX1_init 51 = .ok (.bipush 6, 2) := by decide +kernel
theorem dX1_init_53 : decode cX1_init 53 = .ok (.newarray .int, 2) := by decide +kernel
theorem dX1_init_55 : decode cX1_init 55 = .ok (.putfield 30, 3) := by decide +kernel
theorem dX1_init_58 : decode cX1_init 58 = .ok (.aload_n 0, 1) := by decide +kernel
theorem dX1_init_59 : decode cX1_init 59 = .ok (.iconst 0, 1) := by decide +kernel
theorem dX1_init_60 : decode cX1_init 60 = .ok (.putfield 33, 3) := by decide +kernel
theorem dX1_init_63 : decode cX1_init 63 = .ok (.aload_n 0, 1) := by decide +kernel
theorem dX1_init_64 : decode cX1_init 64 = .ok (.iconst 0, 1) := by decide +kernel
theorem dX1_init_65 : decode cX1_init 65 = .ok (.putfield 37, 3) := by decide +kernel
theorem dX1_init_68 : decode cX1_init 68 = .ok (.aload_n 0, 1) := by decide +kernel
theorem dX1_init_69 : decode cX1_init 69 = .ok (.iconst 0, 1) := by decide +kernel
theorem dX1_init_70 : decode cX1_init 70 = .ok (.putfield 40, 3) := by decide +kernel
theorem dX1_init_73 : decode cX1_init 73 = .ok (.aload_n 0, 1) := by decide +kernel
theorem dX1_init_74 : decode cX1_init 74 = .ok (.iconst 0, 1) := by decide +kernel
theorem dX1_init_75 : decode cX1_init 75 = .ok (.putfield 43, 3) := by decide +kernel
theorem dX1_init_78 : decode cX1_init 78 = .ok (.aload_n 0, 1) := by decide +kernel
theorem dX1_init_79 : decode cX1_init 79 = .ok (.iconst 0, 1) := by decide +kernel
theorem dX1_init_80 : decode cX1_init 80 = .ok (.putfield 46, 3) := by decide +kernel
theorem dX1_init_83 : decode cX1_init 83 = .ok (.aload_n 0, 1) := by decide +kernel
theorem dX1_init_84 : decode cX1_init 84 = .ok (.iconst 0, 1) := by decide +kernel
theorem dX1_init_85 : decode cX1_init 85 = .ok (.putfield 49, 3) := by decide +kernel
theorem dX1_init_88 : decode cX1_init 88 = .ok (.aload_n 0, 1) := by decide +kernel
theorem dX1_init_89 : decode cX1_init 89 = .ok (.iconst 0, 1) := by decide +kernel
theorem dX1_init_90 : decode cX1_init 90 = .ok (.putfield 52, 3) := by decide +kernel
theorem dX1_init_93 : decode cX1_init 93 = .ok (.aload_n 0, 1) := by decide +kernel
theorem dX1_init_94 : decode cX1_init 94 = .ok (.iconst 0, 1) := by decide +kernel
theorem dX1_init_95 : decode cX1_init 95 = .ok (.putfield 55, 3) := by decide +kernel
theorem dX1_init_98 : decode cX1_init 98 = .ok (.aload_n 0, 1) := by decide +kernel
theorem dX1_init_99 : decode cX1_init 99 = .ok (.iconst 0, 1) := by decide +kernel
theorem dX1_init_100 : decode cX1_init 100 = .ok (.putfield 58, 3) := by decide +kernel
theorem dX1_init_103 : decode cX1_init 103 = .ok (.aload_n 0, 1) := by decide +kernel
theorem dX1_init_104 : decode cX1_init 104 = .ok (.aload_n 1, 1) := by decide +kernel
theorem dX1_init_105 : decode cX1_init 105 = .ok (.putfield 61, 3) := by decide +kernel
theorem dX1_init_108 : decode cX1_init 108 = .ok (.aload_n 0, 1) := by decide +kernel
theorem dX1_init_109 : decode cX1_init 109 = .ok (.aload_n 2, 1) := by decide +kernel
theorem dX1_init_110 : decode cX1_init 110 = .ok (.putfield 65, 3) := by decide +kernel
theorem dX1_init_113 : decode cX1_init 113 = .ok (.aload_n 0, 1) := by decide +kernel
theorem dX1_init_114 : decode cX1_init 114 = .ok (.new 11, 3) := by decide +kernel
theorem dX1_init_117 : decode cX1_init 117 = .ok (.dup, 1) := by decide +kernel
theorem dX1_init_118 : decode cX1_init 118 = .ok (.aload_n 1, 1) := by decide +kernel
theorem dX1_init_119 : decode cX1_init 119 = .ok (.aconst_null, 1) := by decide +kernel
theorem dX1_init_120 : decode cX1_init 120 = .ok (.invokespecial 69, 3) := by decide +kernel
theorem dX1_init_123 : decode cX1_init 123 = .ok (.putfield 72, 3) := by decide +kernel
theorem dX1_init_126 : decode cX1_init 126 = .ok (.return_, 1) := by decide +kernel
theorem dX1_aim_0 : decode cX1_aim 0 = .ok (.aload_n 0, 1) := by decide +kernel
theorem dX1_aim_1 : decode cX1_aim 1 = .ok (.iload_n 1, 1) := by decide +kernel
theorem dX1_aim_2 : decode cX1_aim 2 = .ok (.putfield 37, 3) := by decide +kernel
theorem dX1_aim_5 : decode cX1_aim 5 = .ok (.aload_n 0, 1) := by decide +kernel
theorem dX1_aim_6 : decode cX1_aim 6 = .ok (.iload_n 2, 1) := by decide +kernel
theorem dX1_aim_7 : decode cX1_aim 7 = .ok (.putfield 40, 3) := by decide +kernel
theorem dX1_aim_10 : decode cX1_aim 10 = .ok (.aload_n 0, 1) := by decide +kernel
theorem dX1_aim_11 : decode cX1_aim 11 = .ok (.iload_n 3, 1) := by decide +kernel
theorem dX1_aim_12 : decode cX1_aim 12 = .ok (.putfield 43, 3) := by decide +kernel
theorem dX1_aim_15 : decode cX1_aim 15 = .ok (.aload_n 0, 1) := by decide +kernel
theorem dX1_aim_16 : decode cX1_aim 16 = .ok (.iload 4, 2) := by decide +kernel
theorem dX1_aim_18 : decode cX1_aim 18 = .ok (.putfield 46, 3) := by decide +kernel
theorem dX1_aim_21 : decode cX1_aim 21 = .ok (.return_, 1) := by decide +kernel
theorem dX1_search_0 : decode cX1_search 0 = .ok (.aload_n 0, 1) := by decide +kernel
theorem dX1_search_1 : decode cX1_search 1 = .ok (.getfield 27, 3) := by decide +kernel
theorem dX1_search_4 : decode cX1_search 4 = .ok (.iconst (-1), 1) := by decide +kernel
theorem dX1_search_5 : decode cX1_search 5 = .ok (.invokestatic 75, 3) := by decide +kernel
theorem dX1_search_8 : decode cX1_search 8 = .ok (.aload_n 0, 1) := by decide +kernel
theorem dX1_search_9 : decode cX1_search 9 = .ok (.iconst 0, 1) := by decide +kernel
theorem dX1_search_10 : decode cX1_search 10 = .ok (.putfield 33, 3) := by decide +kernel
theorem dX1_search_13 : decode cX1_search 13 = .ok (.aload_n 0, 1) := by decide +kernel
theorem dX1_search_14 : decode cX1_search 14 = .ok (.getfield 72, 3) := by decide +kernel
theorem dX1_search_17 : decode cX1_search 17 = .ok (.aload_n 0, 1) := by decide +kernel
theorem dX1_search_18 : decode cX1_search 18 = .ok (.getfield 65, 3) := by decide +kernel
theorem dX1_search_21 : decode cX1_search 21 = .ok (.invokevirtual 81, 3) := by decide +kernel
theorem dX1_search_24 : decode cX1_search 24 = .ok (.aload_n 0, 1) := by decide +kernel
theorem dX1_search_25 : decode cX1_search 25 = .ok (.invokevirtual 85, 3) := by decide +kernel
theorem dX1_search_28 : decode cX1_search 28 = .ok (.ifCond .eq 10, 3) := by decide +kernel
theorem dX1_search_31 : decode cX1_search 31 = .ok (.aload_n 0, 1) := by decide +kernel
theorem dX1_search_32 : decode cX1_search 32 = .ok (.iconst 1, 1) := by decide +kernel
theorem dX1_search_33 : decode cX1_search 33 = .ok (.putfield 33, 3) := by decide +kernel
theorem dX1_search_36 : decode cX1_search 36 = .ok (.iconst 0, 1) := by decide +kernel
theorem dX1_search_37 : decode cX1_search 37 = .ok (.ireturn, 1) := by decide +kernel
theorem dX1_search_38 : decode cX1_search 38 = .ok (.aload_n 0, 1) := by decide +kernel
theorem dX1_search_39 : decode cX1_search 39 = .ok (.iconst 0, 1) := by decide +kernel
theorem dX1_search_40 : decode cX1_search 40 = .ok (.iconst (-1), 1) := by decide +kernel
theorem dX1_search_41 : decode cX1_search 41 = .ok (.invokevirtual 89, 3) := by decide +kernel
theorem dX1_search_44 : decode cX1_search 44 = .ok (.pop, 1) := by decide +kernel
theorem dX1_search_45 : decode cX1_search 45 = .ok (.iconst 0, 1) := by decide +kernel
theorem dX1_search_46 : decode cX1_search 46 = .ok (.istore_n 2, 1) := by decide +kernel
theorem dX1_search_47 : decode cX1_search 47 = .ok (.iconst 1, 1) := by decide +kernel
theorem dX1_search_48 : decode cX1_search 48 = .ok (.istore_n 3, 1) := by decide +kernel
theorem dX1_search_49 : decode cX1_search 49 = .ok (.iload_n 3, 1) := by decide +kernel
theorem dX1_search_50 : decode cX1_search 50 = .ok (.iload_n 1, 1) := by decide +kernel
theorem dX1_search_51 : decode cX1_search 51 = .ok (.if_icmp .gt 59, 3) := by decide +kernel
theorem dX1_search_54 : decode cX1_search 54 = .ok (.aload_n 0, 1) := by decide +kernel
theorem dX1_search_55 : decode cX1_search 55 = .ok (.getfield 33, 3) := by decide +kernel
theorem dX1_search_58 : decode cX1_search 58 = .ok (.istore 4, 2) := by decide +kernel
theorem dX1_search_60 : decode cX1_search 60 = .ok (.iload_n 2, 1) := by decide +kernel
theorem dX1_search_61 : decode cX1_search 61 = .ok (.istore 5, 2) := by decide +kernel
theorem dX1_search_63 : decode cX1_search 63 = .ok (.iload 5, 2) := by decide +kernel
theorem dX1_search_65 : decode cX1_search 65 = .ok (.iload 4, 2) := by decide +kernel
theorem dX1_search_67 : decode cX1_search 67 = .ok (.if_icmp .ge 34, 3) := by decide +kernel
theorem dX1_search_70 : decode cX1_search 70 = .ok (.aload_n 0, 1) := by decide +kernel
theorem dX1_search_71 : decode cX1_search 71 = .ok (.iload 5, 2) := by decide +kernel
theorem dX1_search_73 : decode cX1_search 73 = .ok (.invokevirtual 93, 3) := by decide +kernel
theorem dX1_search_76 : decode cX1_search 76 = .ok (.istore 6, 2) := by decide +kernel
theorem dX1_search_78 : decode cX1_search 78 = .ok (.iload 6, 2) := by decide +kernel
theorem dX1_search_80 : decode cX1_search 80 = .ok (.iconst 1, 1) := by decide +kernel
theorem dX1_search_81 : decode cX1_search 81 = .ok (.if_icmp .ne 5, 3) := by decide +kernel
theorem dX1_search_84 : decode cX1_search 84 = .ok (.iload_n 3, 1) := by decide +kernel
theorem dX1_search_85 : decode cX1_search 85 = .ok (.ireturn, 1) := by decide +kernel
theorem dX1_search_86 : decode cX1_search 86 = .ok (.iload 6, 2) := by decide +kernel
theorem dX1_search_88 : decode cX1_search 88 = .ok (.iconst 2, 1) := by decide +kernel
theorem dX1_search_89 : decode cX1_search 89 = .ok (.if_icmp .ne 6, 3) := by decide +kernel
theorem dX1_search_92 : decode cX1_search 92 = .ok (.bipush (-4), 2) := by decide +kernel
theorem dX1_search_94 : decode cX1_search 94 = .ok (.ireturn, 1) := by decide +kernel
theorem dX1_search_95 : decode cX1_search 95 = .ok (.iinc 5 1, 3) := by decide +kernel
theorem dX1_search_98 : decode cX1_search 98 = .ok (.goto (-35), 3) := by decide +kernel
theorem dX1_search_101 : decode cX1_search 101 = .ok (.iload 4, 2) := by decide +kernel
theorem dX1_search_103 : decode cX1_search 103 = .ok (.istore_n 2, 1) := by decide +kernel
theorem dX1_search_104 : decode cX1_search 104 = .ok (.iinc 3 1, 3) := by decide +kernel
theorem dX1_search_107 : decode cX1_search 107 = .ok (.goto (-58), 3) := by decide +kernel
theorem dX1_search_110 : decode cX1_search 110 = .ok (.iconst (-1), 1) := by decide +kernel
theorem dX1_search_111 : decode cX1_search 111 = .ok (.ireturn, 1) := by decide +kernel
theorem dX1_tell_0 : decode cX1_tell 0 = .ok (.aload_n 0, 1) := by decide +kernel
theorem dX1_tell_1 : decode cX1_tell 1 = .ok (.aload_n 0, 1) := by decide +kernel
theorem dX1_tell_2 : decode cX1_tell 2 = .ok (.getfield 33, 3) := by decide +kernel
theorem dX1_tell_5 : decode cX1_tell 5 = .ok (.putfield 58, 3) := by decide +kernel
theorem dX1_tell_8 : decode cX1_tell 8 = .ok (.aload_n 0, 1) := by decide +kernel
theorem dX1_tell_9 : decode cX1_tell 9 = .ok (.iload_n 1, 1) := by decide +kernel
theorem dX1_tell_10 : decode cX1_tell 10 = .ok (.ifCond .le 13, 3) := by decide +kernel
theorem dX1_tell_13 : decode cX1_tell 13 = .ok (.iload_n 1, 1) := by decide +kernel
theorem dX1_tell_14 : decode cX1_tell 14 = .ok (.bipush 6, 2) := by decide +kernel
theorem dX1_tell_16 : decode cX1_tell 16 = .ok (.if_icmp .gt 7, 3) := by decide +kernel
theorem dX1_tell_19 : decode cX1_tell 19 = .ok (.iload_n 1, 1) := by decide +kernel
theorem dX1_tell_20 : decode cX1_tell 20 = .ok (.goto 4, 3) := by decide +kernel
theorem dX1_tell_23 : decode cX1_tell 23 = .ok (.iconst 0, 1) := by decide +kernel
theorem dX1_tell_24 : decode cX1_tell 24 = .ok (.putfield 55, 3) := by decide +kernel
theorem dX1_tell_27 : decode cX1_tell 27 = .ok (.aload_n 0, 1) := by decide +kernel
theorem dX1_tell_28 : decode cX1_tell 28 = .ok (.getfield 49, 3) := by decide +kernel
theorem dX1_tell_31 : decode cX1_tell 31 = .ok (.istore_n 2, 1) := by decide +kernel
theorem dX1_tell_32 : decode cX1_tell 32 = .ok (.aload_n 0, 1) := by decide +kernel
theorem dX1_tell_33 : decode cX1_tell 33 = .ok (.getfield 52, 3) := by decide +kernel
theorem dX1_tell_36 : decode cX1_tell 36 = .ok (.istore_n 3, 1) := by decide +kernel
theorem dX1_tell_37 : decode cX1_tell 37 = .ok (.aload_n 0, 1) := by decide +kernel
theorem dX1_tell_38 : decode cX1_tell 38 = .ok (.getfield 55, 3) := by decide +kernel
theorem dX1_tell_41 : decode cX1_tell 41 = .ok (.iconst 1, 1) := by decide +kernel
theorem dX1_tell_42 : decode cX1_tell 42 = .ok (.isub, 1) := by decide +kernel
theorem dX1_tell_43 : decode cX1_tell 43 = .ok (.istore 4, 2) := by decide +kernel
theorem dX1_tell_45 : decode cX1_tell 45 = .ok (.iload 4, 2) := by decide +kernel
theorem dX1_tell_47 : decode cX1_tell 47 = .ok (.ifCond .lt 42, 3) := by decide +kernel
theorem dX1_tell_50 : decode cX1_tell 50 = .ok (.aload_n 0, 1) := by decide +kernel
theorem dX1_tell_51 : decode cX1_tell 51 = .ok (.getfield 30, 3) := by decide +kernel
theorem dX1_tell_54 : decode cX1_tell 54 = .ok (.iload 4, 2) := by decide +kernel
theorem dX1_tell_56 : decode cX1_tell 56 = .ok (.iload_n 3, 1) := by decide +kernel
theorem dX1_tell_57 : decode cX1_tell 57 = .ok (.iastore, 1) := by decide +kernel
theorem dX1_tell_58 : decode cX1_tell 58 = .ok (.iload_n 2, 1) := by decide +kernel
theorem dX1_tell_59 : decode cX1_tell 59 = .ok (.ifCond .lt 24, 3) := by decide +kernel
theorem dX1_tell_62 : decode cX1_tell 62 = .ok (.iload_n 2, 1) := by decide +kernel
theorem dX1_tell_63 : decode cX1_tell 63 = .ok (.sipush 300, 3) := by decide +kernel
theorem dX1_tell_66 : decode cX1_tell 66 = .ok (.if_icmp .ge 17, 3) := by decide +kernel
theorem dX1_tell_69 : decode cX1_tell 69 = .ok (.aload_n 0, 1) := by decide +kernel
theorem dX1_tell_70 : decode cX1_tell 70 = .ok (.getfield 21, 3) := by decide +kernel
theorem dX1_tell_73 : decode cX1_tell 73 = .ok (.iload_n 2, 1) := by decide +kernel
theorem dX1_tell_74 : decode cX1_tell 74 = .ok (.iaload, 1) := by decide +kernel
theorem dX1_tell_75 : decode cX1_tell 75 = .ok (.istore_n 3, 1) := by decide +kernel
theorem dX1_tell_76 : decode cX1_tell 76 = .ok (.aload_n 0, 1) := by decide +kernel
theorem dX1_tell_77 : decode cX1_tell 77 = .ok (.getfield 17, 3) := by decide +kernel
theorem dX1_tell_80 : decode cX1_tell 80 = .ok (.iload_n 2, 1) := by decide +kernel
theorem dX1_tell_81 : decode cX1_tell 81 = .ok (.iaload, 1) := by decide +kernel
theorem dX1_tell_82 : decode cX1_tell 82 = .ok (.istore_n 2, 1) := by decide +kernel
theorem dX1_tell_83 : decode cX1_tell 83 = .ok (.iinc 4 (-1), 3) := by decide +kernel
theorem dX1_tell_86 : decode cX1_tell 86 = .ok (.goto (-41), 3) := by decide +kernel
theorem dX1_tell_89 : decode cX1_tell 89 = .ok (.return_, 1) := by decide +kernel
theorem dX1_toldMove_0 : decode cX1_toldMove 0 = .ok (.iload_n 1, 1) := by decide +kernel
theorem dX1_toldMove_1 : decode cX1_toldMove 1 = .ok (.ifCond .lt 26, 3) := by decide +kernel
theorem dX1_toldMove_4 : decode cX1_toldMove 4 = .ok (.iload_n 1, 1) := by decide +kernel
theorem dX1_toldMove_5 : decode cX1_toldMove 5 = .ok (.aload_n 0, 1) := by decide +kernel
theorem dX1_toldMove_6 : decode cX1_toldMove 6 = .ok (.getfield 55, 3) := by decide +kernel
theorem dX1_toldMove_9 : decode cX1_toldMove 9 = .ok (.if_icmp .ge 18, 3) := by decide +kernel
theorem dX1_toldMove_12 : decode cX1_toldMove 12 = .ok (.iload_n 1, 1) := by decide +kernel
theorem dX1_toldMove_13 : decode cX1_toldMove 13 = .ok (.bipush 6, 2) := by decide +kernel
theorem dX1_toldMove_15 : decode cX1_toldMove 15 = .ok (.if_icmp .ge 12, 3) := by decide +kernel
theorem dX1_toldMove_18 : decode cX1_toldMove 18 = .ok (.aload_n 0, 1) := by decide +kernel
theorem dX1_toldMove_19 : decode cX1_toldMove 19 = .ok (.getfield 30, 3) := by decide +kernel
theorem dX1_toldMove_22 : decode cX1_toldMove 22 = .ok (.iload_n 1, 1) := by decide +kernel
theorem dX1_toldMove_23 : decode cX1_toldMove 23 = .ok (.iaload, 1) := by decide +kernel
theorem dX1_toldMove_24 : decode cX1_toldMove 24 = .ok (.goto 4, 3) := by decide +kernel
theorem dX1_toldMove_27 : decode cX1_toldMove 27 = .ok (.iconst (-1), 1) := by decide +kernel
theorem dX1_toldMove_28 : decode cX1_toldMove 28 = .ok (.ireturn, 1) := by decide +kernel
theorem dX1_lastLetIn_0 : decode cX1_lastLetIn 0 = .ok (.iconst (-1), 1) := by decide +kernel
theorem dX1_lastLetIn_1 : decode cX1_lastLetIn 1 = .ok (.istore 4, 2) := by decide +kernel
theorem dX1_lastLetIn_3 : decode cX1_lastLetIn 3 = .ok (.aload_n 0, 1) := by decide +kernel
theorem dX1_lastLetIn_4 : decode cX1_lastLetIn 4 = .ok (.getfield 72, 3) := by decide +kernel
theorem dX1_lastLetIn_7 : decode cX1_lastLetIn 7 = .ok (.aload_n 0, 1) := by decide +kernel
theorem dX1_lastLetIn_8 : decode cX1_lastLetIn 8 = .ok (.getfield 65, 3) := by decide +kernel
theorem dX1_lastLetIn_11 : decode cX1_lastLetIn 11 = .ok (.invokevirtual 81, 3) := by decide +kernel
theorem dX1_lastLetIn_14 : decode cX1_lastLetIn 14 = .ok (.iconst 0, 1) := by decide +kernel
theorem dX1_lastLetIn_15 : decode cX1_lastLetIn 15 = .ok (.istore 5, 2) := by decide +kernel
theorem dX1_lastLetIn_17 : decode cX1_lastLetIn 17 = .ok (.iload 5, 2) := by decide +kernel
theorem dX1_lastLetIn_19 : decode cX1_lastLetIn 19 = .ok (.sipush 1100, 3) := by decide +kernel
theorem dX1_lastLetIn_22 : decode cX1_lastLetIn 22 = .ok (.if_icmp .gt 33, 3) := by decide +kernel
theorem dX1_lastLetIn_25 : decode cX1_lastLetIn 25 = .ok (.aload_n 0, 1) := by decide +kernel
theorem dX1_lastLetIn_26 : decode cX1_lastLetIn 26 = .ok (.getfield 72, 3) := by decide +kernel
theorem dX1_lastLetIn_29 : decode cX1_lastLetIn 29 = .ok (.iload_n 2, 1) := by decide +kernel
theorem dX1_lastLetIn_30 : decode cX1_lastLetIn 30 = .ok (.iload_n 1, 1) := by decide +kernel
theorem dX1_lastLetIn_31 : decode cX1_lastLetIn 31 = .ok (.iload_n 3, 1) := by decide +kernel
theorem dX1_lastLetIn_32 : decode cX1_lastLetIn 32 = .ok (.invokevirtual 97, 3) := by decide +kernel
theorem dX1_lastLetIn_35 : decode cX1_lastLetIn 35 = .ok (.ifCond .ne 7, 3) := by decide +kernel
theorem dX1_lastLetIn_38 : decode cX1_lastLetIn 38 = .ok (.iload 5, 2) := by decide +kernel
theorem dX1_lastLetIn_40 : decode cX1_lastLetIn 40 = .ok (.istore 4, 2) := by decide +kernel
theorem dX1_lastLetIn_42 : decode cX1_lastLetIn 42 = .ok (.aload_n 0, 1) := by decide +kernel
theorem dX1_lastLetIn_43 : decode cX1_lastLetIn 43 = .ok (.getfield 72, 3) := by decide +kernel
theorem dX1_lastLetIn_46 : decode cX1_lastLetIn 46 = .ok (.invokevirtual 101, 3) := by decide +kernel
theorem dX1_lastLetIn_49 : decode cX1_lastLetIn 49 = .ok (.iinc 5 1, 3) := by decide +kernel
theorem dX1_lastLetIn_52 : decode cX1_lastLetIn 52 = .ok (.goto (-35), 3) := by decide +kernel
theorem dX1_lastLetIn_55 : decode cX1_lastLetIn 55 = .ok (.iload 4, 2) := by decide +kernel
theorem dX1_lastLetIn_57 : decode cX1_lastLetIn 57 = .ok (.ireturn, 1) := by decide +kernel
theorem dX1_expand_0 : decode cX1_expand 0 = .ok (.iload_n 1, 1) := by decide +kernel
theorem dX1_expand_1 : decode cX1_expand 1 = .ok (.ifCond .lt 19, 3) := by decide +kernel
theorem dX1_expand_4 : decode cX1_expand 4 = .ok (.iload_n 1, 1) := by decide +kernel
theorem dX1_expand_5 : decode cX1_expand 5 = .ok (.sipush 300, 3) := by decide +kernel
theorem dX1_expand_8 : decode cX1_expand 8 = .ok (.if_icmp .ge 12, 3) := by decide +kernel
theorem dX1_expand_11 : decode cX1_expand 11 = .ok (.aload_n 0, 1) := by decide +kernel
theorem dX1_expand_12 : decode cX1_expand 12 = .ok (.getfield 13, 3) := by decide +kernel
theorem dX1_expand_15 : decode cX1_expand 15 = .ok (.iload_n 1, 1) := by decide +kernel
theorem dX1_expand_16 : decode cX1_expand 16 = .ok (.aaload, 1) := by decide +kernel
theorem dX1_expand_17 : decode cX1_expand 17 = .ok (.ifnonnull 5, 3) := by decide +kernel
theorem dX1_expand_20 : decode cX1_expand 20 = .ok (.iconst 0, 1) := by decide +kernel
theorem dX1_expand_21 : decode cX1_expand 21 = .ok (.ireturn, 1) := by decide +kernel
theorem dX1_expand_22 : decode cX1_expand 22 = .ok (.aload_n 0, 1) := by decide +kernel
theorem dX1_expand_23 : decode cX1_expand 23 = .ok (.getfield 13, 3) := by decide +kernel
theorem dX1_expand_26 : decode cX1_expand 26 = .ok (.iload_n 1, 1) := by decide +kernel
theorem dX1_expand_27 : decode cX1_expand 27 = .ok (.aaload, 1) := by decide +kernel
theorem dX1_expand_28 : decode cX1_expand 28 = .ok (.astore_n 2, 1) := by decide +kernel
theorem dX1_expand_29 : decode cX1_expand 29 = .ok (.aload_n 0, 1) := by decide +kernel
theorem dX1_expand_30 : decode cX1_expand 30 = .ok (.iload_n 1, 1) := by decide +kernel
theorem dX1_expand_31 : decode cX1_expand 31 = .ok (.aload_n 2, 1) := by decide +kernel
theorem dX1_expand_32 : decode cX1_expand 32 = .ok (.invokevirtual 104, 3) := by decide +kernel
theorem dX1_expand_35 : decode cX1_expand 35 = .ok (.istore_n 3, 1) := by decide +kernel
theorem dX1_expand_36 : decode cX1_expand 36 = .ok (.iload_n 3, 1) := by decide +kernel
theorem dX1_expand_37 : decode cX1_expand 37 = .ok (.ifCond .ne 10, 3) := by decide +kernel
theorem dX1_expand_40 : decode cX1_expand 40 = .ok (.aload_n 0, 1) := by decide +kernel
theorem dX1_expand_41 : decode cX1_expand 41 = .ok (.iload_n 1, 1) := by decide +kernel
theorem dX1_expand_42 : decode cX1_expand 42 = .ok (.aload_n 2, 1) := by decide +kernel
theorem dX1_expand_43 : decode cX1_expand 43 = .ok (.invokevirtual 108, 3) := by decide +kernel
theorem dX1_expand_46 : decode cX1_expand 46 = .ok (.istore_n 3, 1) := by decide +kernel
theorem dX1_expand_47 : decode cX1_expand 47 = .ok (.iload_n 3, 1) := by decide +kernel
theorem dX1_expand_48 : decode cX1_expand 48 = .ok (.ifCond .ne 10, 3) := by decide +kernel
theorem dX1_expand_51 : decode cX1_expand 51 = .ok (.aload_n 0, 1) := by decide +kernel
theorem dX1_expand_52 : decode cX1_expand 52 = .ok (.iload_n 1, 1) := by decide +kernel
theorem dX1_expand_53 : decode cX1_expand 53 = .ok (.aload_n 2, 1) := by decide +kernel
theorem dX1_expand_54 : decode cX1_expand 54 = .ok (.invokevirtual 111, 3) := by decide +kernel
theorem dX1_expand_57 : decode cX1_expand 57 = .ok (.istore_n 3, 1) := by decide +kernel
theorem dX1_expand_58 : decode cX1_expand 58 = .ok (.iload_n 3, 1) := by decide +kernel
theorem dX1_expand_59 : decode cX1_expand 59 = .ok (.ifCond .ne 10, 3) := by decide +kernel
theorem dX1_expand_62 : decode cX1_expand 62 = .ok (.aload_n 0, 1) := by decide +kernel
theorem dX1_expand_63 : decode cX1_expand 63 = .ok (.iload_n 1, 1) := by decide +kernel
theorem dX1_expand_64 : decode cX1_expand 64 = .ok (.aload_n 2, 1) := by decide +kernel
theorem dX1_expand_65 : decode cX1_expand 65 = .ok (.invokevirtual 114, 3) := by decide +kernel
theorem dX1_expand_68 : decode cX1_expand 68 = .ok (.istore_n 3, 1) := by decide +kernel
theorem dX1_expand_69 : decode cX1_expand 69 = .ok (.iload_n 3, 1) := by decide +kernel
theorem dX1_expand_70 : decode cX1_expand 70 = .ok (.ifCond .ne 27, 3) := by decide +kernel
theorem dX1_expand_73 : decode cX1_expand 73 = .ok (.aload_n 0, 1) := by decide +kernel
theorem dX1_expand_74 : decode cX1_expand 74 = .ok (.getfield 72, 3) := by decide +kernel
theorem dX1_expand_77 : decode cX1_expand 77 = .ok (.aload_n 2, 1) := by decide +kernel
theorem dX1_expand_78 : decode cX1_expand 78 = .ok (.invokevirtual 81, 3) := by decide +kernel
theorem dX1_expand_81 : decode cX1_expand 81 = .ok (.aload_n 0, 1) := by decide +kernel
theorem dX1_expand_82 : decode cX1_expand 82 = .ok (.getfield 72, 3) := by decide +kernel
theorem dX1_expand_85 : decode cX1_expand 85 = .ok (.invokevirtual 101, 3) := by decide +kernel
theorem dX1_expand_88 : decode cX1_expand 88 = .ok (.aload_n 0, 1) := by decide +kernel
theorem dX1_expand_89 : decode cX1_expand 89 = .ok (.iload_n 1, 1) := by decide +kernel
theorem dX1_expand_90 : decode cX1_expand 90 = .ok (.sipush 600, 3) := by decide +kernel
theorem dX1_expand_93 : decode cX1_expand 93 = .ok (.invokevirtual 117, 3) := by decide +kernel
theorem dX1_expand_96 : decode cX1_expand 96 = .ok (.istore_n 3, 1) := by decide +kernel
theorem dX1_expand_97 : decode cX1_expand 97 = .ok (.iload_n 3, 1) := by decide +kernel
theorem dX1_expand_98 : decode cX1_expand 98 = .ok (.ireturn, 1) := by decide +kernel
theorem dX1_tryLetters_0 : decode cX1_tryLetters 0 = .ok (.iconst 0, 1) := by decide +kernel
theorem dX1_tryLetters_1 : decode cX1_tryLetters 1 = .ok (.istore_n 3, 1) := by decide +kernel
theorem dX1_tryLetters_2 : decode cX1_tryLetters 2 = .ok (.iconst 0, 1) := by decide +kernel
theorem dX1_tryLetters_3 : decode cX1_tryLetters 3 = .ok (.istore 4, 2) := by decide +kernel
theorem dX1_tryLetters_5 : decode cX1_tryLetters 5 = .ok (.iload 4, 2) := by decide +kernel
theorem dX1_tryLetters_7 : decode cX1_tryLetters 7 = .ok (.aload_n 2, 1) := by decide +kernel
theorem dX1_tryLetters_8 : decode cX1_tryLetters 8 = .ok (.invokevirtual 120, 3) := by decide +kernel
theorem dX1_tryLetters_11 : decode cX1_tryLetters 11 = .ok (.if_icmp .ge 39, 3) := by decide +kernel
theorem dX1_tryLetters_14 : decode cX1_tryLetters 14 = .ok (.iload_n 3, 1) := by decide +kernel
theorem dX1_tryLetters_15 : decode cX1_tryLetters 15 = .ok (.ifCond .ne 35, 3) := by decide +kernel
theorem dX1_tryLetters_18 : decode cX1_tryLetters 18 = .ok (.aload_n 0, 1) := by decide +kernel
theorem dX1_tryLetters_19 : decode cX1_tryLetters 19 = .ok (.getfield 72, 3) := by decide +kernel
theorem dX1_tryLetters_22 : decode cX1_tryLetters 22 = .ok (.aload_n 2, 1) := by decide +kernel
theorem dX1_tryLetters_23 : decode cX1_tryLetters 23 = .ok (.invokevirtual 81, 3) := by decide +kernel
theorem dX1_tryLetters_26 : decode cX1_tryLetters 26 = .ok (.aload_n 0, 1) := by decide +kernel
theorem dX1_tryLetters_27 : decode cX1_tryLetters 27 = .ok (.getfield 72, 3) := by decide +kernel
theorem dX1_tryLetters_30 : decode cX1_tryLetters 30 = .ok (.iload 4, 2) := by decide +kernel
theorem dX1_tryLetters_32 : decode cX1_tryLetters 32 = .ok (.invokevirtual 124, 3) := by decide +kernel
theorem dX1_tryLetters_35 : decode cX1_tryLetters 35 = .ok (.pop, 1) := by decide +kernel
theorem dX1_tryLetters_36 : decode cX1_tryLetters 36 = .ok (.aload_n 0, 1) := by decide +kernel
theorem dX1_tryLetters_37 : decode cX1_tryLetters 37 = .ok (.iload_n 1, 1) := by decide +kernel
theorem dX1_tryLetters_38 : decode cX1_tryLetters 38 = .ok (.iload 4, 2) := by decide +kernel
theorem dX1_tryLetters_40 : decode cX1_tryLetters 40 = .ok (.invokevirtual 117, 3) := by decide +kernel
theorem dX1_tryLetters_43 : decode cX1_tryLetters 43 = .ok (.istore_n 3, 1) := by decide +kernel
theorem dX1_tryLetters_44 : decode cX1_tryLetters 44 = .ok (.iinc 4 1, 3) := by decide +kernel
theorem dX1_tryLetters_47 : decode cX1_tryLetters 47 = .ok (.goto (-42), 3) := by decide +kernel
theorem dX1_tryLetters_50 : decode cX1_tryLetters 50 = .ok (.iload_n 3, 1) := by decide +kernel
theorem dX1_tryLetters_51 : decode cX1_tryLetters 51 = .ok (.ireturn, 1) := by decide +kernel
theorem dX1_tryShows_0 : decode cX1_tryShows 0 = .ok (.iconst 0, 1) := by decide +kernel
theorem dX1_tryShows_1 : decode cX1_tryShows 1 = .ok (.istore_n 3, 1) := by decide +kernel
theorem dX1_tryShows_2 : decode cX1_tryShows 2 = .ok (.iload_n 3, 1) := by decide +kernel
theorem dX1_tryShows_3 : decode cX1_tryShows 3 = .ok (.aload_n 2, 1) := by decide +kernel
theorem dX1_tryShows_4 : decode cX1_tryShows 4 = .ok (.invokevirtual 127, 3) := by decide +kernel
theorem dX1_tryShows_7 : decode cX1_tryShows 7 = .ok (.if_icmp .ge 136, 3) := by decide +kernel
theorem dX1_tryShows_10 : decode cX1_tryShows 10 = .ok (.aload_n 2, 1) := by decide +kernel
theorem dX1_tryShows_11 : decode cX1_tryShows 11 = .ok (.iconst 4, 1) := by decide +kernel
theorem dX1_tryShows_12 : decode cX1_tryShows 12 = .ok (.iload_n 3, 1) := by decide +kernel
theorem dX1_tryShows_13 : decode cX1_tryShows 13 = .ok (.invokevirtual 130, 3) := by decide +kernel
theorem dX1_tryShows_16 : decode cX1_tryShows 16 = .ok (.ifCond .ne 6, 3) := by decide +kernel
theorem dX1_tryShows_19 : decode cX1_tryShows 19 = .ok (.goto 118, 3) := by decide +kernel
theorem dX1_tryShows_22 : decode cX1_tryShows 22 = .ok (.iconst 0, 1) := by decide +kernel
theorem dX1_tryShows_23 : decode cX1_tryShows 23 = .ok (.istore 4, 2) := by decide +kernel
theorem dX1_tryShows_25 : decode cX1_tryShows 25 = .ok (.iload 4, 2) := by decide +kernel
theorem dX1_tryShows_27 : decode cX1_tryShows 27 = .ok (.iconst 4, 1) := by decide +kernel
theorem dX1_tryShows_28 : decode cX1_tryShows 28 = .ok (.if_icmp .ge 109, 3) := by decide +kernel
theorem dX1_tryShows_31 : decode cX1_tryShows 31 = .ok (.aload_n 2, 1) := by decide +kernel
theorem dX1_tryShows_32 : decode cX1_tryShows 32 = .ok (.iload 4, 2) := by decide +kernel
theorem dX1_tryShows_34 : decode cX1_tryShows 34 = .ok (.iload_n 3, 1) := by decide +kernel
theorem dX1_tryShows_35 : decode cX1_tryShows 35 = .ok (.aload_n 0, 1) := by decide +kernel
theorem dX1_tryShows_36 : decode cX1_tryShows 36 = .ok (.getfield 46, 3) := by decide +kernel
theorem dX1_tryShows_39 : decode cX1_tryShows 39 = .ok (.invokevirtual 97, 3) := by decide +kernel
theorem dX1_tryShows_42 : decode cX1_tryShows 42 = .ok (.ifCond .eq 6, 3) := by decide +kernel
theorem dX1_tryShows_45 : decode cX1_tryShows 45 = .ok (.goto 86, 3) := by decide +kernel
theorem dX1_tryShows_48 : decode cX1_tryShows 48 = .ok (.bipush 100, 2) := by decide +kernel
theorem dX1_tryShows_50 : decode cX1_tryShows 50 = .ok (.iconst 4, 1) := by decide +kernel
theorem dX1_tryShows_51 : decode cX1_tryShows 51 = .ok (.iload_n 3, 1) := by decide +kernel
theorem dX1_tryShows_52 : decode cX1_tryShows 52 = .ok (.imul, 1) := by decide +kernel
theorem dX1_tryShows_53 : decode cX1_tryShows 53 = .ok (.iadd, 1) := by decide +kernel
theorem dX1_tryShows_54 : decode cX1_tryShows 54 = .ok (.iload 4, 2) := by decide +kernel
theorem dX1_tryShows_56 : decode cX1_tryShows 56 = .ok (.iadd, 1) := by decide +kernel
theorem dX1_tryShows_57 : decode cX1_tryShows 57 = .ok (.istore 5, 2) := by decide +kernel
theorem dX1_tryShows_59 : decode cX1_tryShows 59 = .ok (.aload_n 0, 1) := by decide +kernel
theorem dX1_tryShows_60 : decode cX1_tryShows 60 = .ok (.getfield 37, 3) := by decide +kernel
theorem dX1_tryShows_63 : decode cX1_tryShows 63 = .ok (.ifCond .ne 33, 3) := by decide +kernel
theorem dX1_tryShows_66 : decode cX1_tryShows 66 = .ok (.iload 4, 2) := by decide +kernel
theorem dX1_tryShows_68 : decode cX1_tryShows 68 = .ok (.aload_n 0, 1) := by decide +kernel
theorem dX1_tryShows_69 : decode cX1_tryShows 69 = .ok (.getfield 40, 3) := by decide +kernel
theorem dX1_tryShows_72 : decode cX1_tryShows 72 = .ok (.if_icmp .ne 24, 3) := by decide +kernel
theorem dX1_tryShows_75 : decode cX1_tryShows 75 = .ok (.aload_n 2, 1) := by decide +kernel
theorem dX1_tryShows_76 : decode cX1_tryShows 76 = .ok (.iload_n 3, 1) := by decide +kernel
theorem dX1_tryShows_77 : decode cX1_tryShows 77 = .ok (.iconst 1, 1) := by decide +kernel
theorem dX1_tryShows_78 : decode cX1_tryShows 78 = .ok (.invokevirtual 134, 3) := by decide +kernel
theorem dX1_tryShows_81 : decode cX1_tryShows 81 = .ok (.aload_n 0, 1) := by decide +kernel
theorem dX1_tryShows_82 : decode cX1_tryShows 82 = .ok (.getfield 43, 3) := by decide +kernel
theorem dX1_tryShows_85 : decode cX1_tryShows 85 = .ok (.if_icmp .ne 11, 3) := by decide +kernel
theorem dX1_tryShows_88 : decode cX1_tryShows 88 = .ok (.aload_n 0, 1) := by decide +kernel
theorem dX1_tryShows_89 : decode cX1_tryShows 89 = .ok (.iload_n 1, 1) := by decide +kernel
theorem dX1_tryShows_90 : decode cX1_tryShows 90 = .ok (.iload 5, 2) := by decide +kernel
theorem dX1_tryShows_92 : decode cX1_tryShows 92 = .ok (.invokevirtual 137, 3) := by decide +kernel
theorem dX1_tryShows_95 : decode cX1_tryShows 95 = .ok (.ireturn, 1) := by decide +kernel
theorem dX1_tryShows_96 : decode cX1_tryShows 96 = .ok (.aload_n 0, 1) := by decide +kernel
theorem dX1_tryShows_97 : decode cX1_tryShows 97 = .ok (.getfield 72, 3) := by decide +kernel
theorem dX1_tryShows_100 : decode cX1_tryShows 100 = .ok (.aload_n 2, 1) := by decide +kernel
theorem dX1_tryShows_101 : decode cX1_tryShows 101 = .ok (.invokevirtual 81, 3) := by decide +kernel
theorem dX1_tryShows_104 : decode cX1_tryShows 104 = .ok (.aload_n 0, 1) := by decide +kernel
theorem dX1_tryShows_105 : decode cX1_tryShows 105 = .ok (.getfield 72, 3) := by decide +kernel
theorem dX1_tryShows_108 : decode cX1_tryShows 108 = .ok (.iload 4, 2) := by decide +kernel
theorem dX1_tryShows_110 : decode cX1_tryShows 110 = .ok (.iload_n 3, 1) := by decide +kernel
theorem dX1_tryShows_111 : decode cX1_tryShows 111 = .ok (.invokevirtual 140, 3) := by decide +kernel
theorem dX1_tryShows_114 : decode cX1_tryShows 114 = .ok (.aload_n 0, 1) := by decide +kernel
theorem dX1_tryShows_115 : decode cX1_tryShows 115 = .ok (.iload_n 1, 1) := by decide +kernel
theorem dX1_tryShows_116 : decode cX1_tryShows 116 = .ok (.iload 5, 2) := by decide +kernel
theorem dX1_tryShows_118 : decode cX1_tryShows 118 = .ok (.invokevirtual 117, 3) := by decide +kernel
theorem dX1_tryShows_121 : decode cX1_tryShows 121 = .ok (.istore 6, 2) := by decide +kernel
theorem dX1_tryShows_123 : decode cX1_tryShows 123 = .ok (.iload 6, 2) := by decide +kernel
theorem dX1_tryShows_125 : decode cX1_tryShows 125 = .ok (.ifCond .eq 6, 3) := by decide +kernel
theorem dX1_tryShows_128 : decode cX1_tryShows 128 = .ok (.iload 6, 2) := by decide +kernel
theorem dX1_tryShows_130 : decode cX1_tryShows 130 = .ok (.ireturn, 1) := by decide +kernel
theorem dX1_tryShows_131 : decode cX1_tryShows 131 = .ok (.iinc 4 1, 3) := by decide +kernel
theorem dX1_tryShows_134 : decode cX1_tryShows 134 = .ok (.goto (-109), 3) := by decide +kernel
theorem dX1_tryShows_137 : decode cX1_tryShows 137 = .ok (.iinc 3 1, 3) := by decide +kernel
theorem dX1_tryShows_140 : decode cX1_tryShows 140 = .ok (.goto (-138), 3) := by decide +kernel
theorem dX1_tryShows_143 : decode cX1_tryShows 143 = .ok (.iconst 0, 1) := by decide +kernel
theorem dX1_tryShows_144 : decode cX1_tryShows 144 = .ok (.ireturn, 1) := by decide +kernel
theorem dX1_tryTurns_0 : decode cX1_tryTurns 0 = .ok (.iconst 0, 1) := by decide +kernel
theorem dX1_tryTurns_1 : decode cX1_tryTurns 1 = .ok (.istore_n 3, 1) := by decide +kernel
theorem dX1_tryTurns_2 : decode cX1_tryTurns 2 = .ok (.iconst 0, 1) := by decide +kernel
theorem dX1_tryTurns_3 : decode cX1_tryTurns 3 = .ok (.istore 4, 2) := by decide +kernel
theorem dX1_tryTurns_5 : decode cX1_tryTurns 5 = .ok (.iload 4, 2) := by decide +kernel
theorem dX1_tryTurns_7 : decode cX1_tryTurns 7 = .ok (.aload_n 2, 1) := by decide +kernel
theorem dX1_tryTurns_8 : decode cX1_tryTurns 8 = .ok (.invokevirtual 127, 3) := by decide +kernel
theorem dX1_tryTurns_11 : decode cX1_tryTurns 11 = .ok (.if_icmp .ge 70, 3) := by decide +kernel
theorem dX1_tryTurns_14 : decode cX1_tryTurns 14 = .ok (.iload_n 3, 1) := by decide +kernel
theorem dX1_tryTurns_15 : decode cX1_tryTurns 15 = .ok (.ifCond .ne 66, 3) := by decide +kernel
theorem dX1_tryTurns_18 : decode cX1_tryTurns 18 = .ok (.aload_n 2, 1) := by decide +kernel
theorem dX1_tryTurns_19 : decode cX1_tryTurns 19 = .ok (.iconst 4, 1) := by decide +kernel
theorem dX1_tryTurns_20 : decode cX1_tryTurns 20 = .ok (.iload 4, 2) := by decide +kernel
theorem dX1_tryTurns_22 : decode cX1_tryTurns 22 = .ok (.invokevirtual 130, 3) := by decide +kernel
theorem dX1_tryTurns_25 : decode cX1_tryTurns 25 = .ok (.ifCond .eq 50, 3) := by decide +kernel
theorem dX1_tryTurns_28 : decode cX1_tryTurns 28 = .ok (.aload_n 2, 1) := by decide +kernel
theorem dX1_tryTurns_29 : decode cX1_tryTurns 29 = .ok (.iload 4, 2) := by decide +kernel
theorem dX1_tryTurns_31 : decode cX1_tryTurns 31 = .ok (.iconst 0, 1) := by decide +kernel
theorem dX1_tryTurns_32 : decode cX1_tryTurns 32 = .ok (.invokevirtual 134, 3) := by decide +kernel
theorem dX1_tryTurns_35 : decode cX1_tryTurns 35 = .ok (.iconst 1, 1) := by decide +kernel
theorem dX1_tryTurns_36 : decode cX1_tryTurns 36 = .ok (.if_icmp .ne 39, 3) := by decide +kernel
theorem dX1_tryTurns_39 : decode cX1_tryTurns 39 = .ok (.aload_n 0, 1) := by decide +kernel
theorem dX1_tryTurns_40 : decode cX1_tryTurns 40 = .ok (.getfield 72, 3) := by decide +kernel
theorem dX1_tryTurns_43 : decode cX1_tryTurns 43 = .ok (.aload_n 2, 1) := by decide +kernel
theorem dX1_tryTurns_44 : decode cX1_tryTurns 44 = .ok (.invokevirtual 81, 3) := by decide +kernel
theorem dX1_tryTurns_47 : decode cX1_tryTurns 47 = .ok (.aload_n 0, 1) := by decide +kernel
theorem dX1_tryTurns_48 : decode cX1_tryTurns 48 = .ok (.getfield 72, 3) := by decide +kernel
theorem dX1_tryTurns_51 : decode cX1_tryTurns 51 = .ok (.iload 4, 2) := by decide +kernel
theorem dX1_tryTurns_53 : decode cX1_tryTurns 53 = .ok (.invokevirtual 144, 3) := by decide +kernel
theorem dX1_tryTurns_56 : decode cX1_tryTurns 56 = .ok (.ifCond .eq 17, 3) := by decide +kernel
theorem dX1_tryTurns_59 : decode cX1_tryTurns 59 = .ok (.aload_n 0, 1) := by decide +kernel
theorem dX1_tryTurns_60 : decode cX1_tryTurns 60 = .ok (.iload_n 1, 1) := by decide +kernel
theorem dX1_tryTurns_61 : decode cX1_tryTurns 61 = .ok (.sipush 300, 3) := by decide +kernel
theorem dX1_tryTurns_64 : decode cX1_tryTurns 64 = .ok (.iload 4, 2) := by decide +kernel
theorem dX1_tryTurns_66 : decode cX1_tryTurns 66 = .ok (.iadd, 1) := by decide +kernel
theorem dX1_tryTurns_67 : decode cX1_tryTurns 67 = .ok (.invokevirtual 117, 3) := by decide +kernel
theorem dX1_tryTurns_70 : decode cX1_tryTurns 70 = .ok (.goto 4, 3) := by decide +kernel
theorem dX1_tryTurns_73 : decode cX1_tryTurns 73 = .ok (.iconst 0, 1) := by decide +kernel
theorem dX1_tryTurns_74 : decode cX1_tryTurns 74 = .ok (.istore_n 3, 1) := by decide +kernel
theorem dX1_tryTurns_75 : decode cX1_tryTurns 75 = .ok (.iinc 4 1, 3) := by decide +kernel
theorem dX1_tryTurns_78 : decode cX1_tryTurns 78 = .ok (.goto (-73), 3) := by decide +kernel
theorem dX1_tryTurns_81 : decode cX1_tryTurns 81 = .ok (.iload_n 3, 1) := by decide +kernel
theorem dX1_tryTurns_82 : decode cX1_tryTurns 82 = .ok (.ireturn, 1) := by decide +kernel
theorem dX1_tryGives_0 : decode cX1_tryGives 0 = .ok (.iconst 0, 1) := by decide +kernel
theorem dX1_tryGives_1 : decode cX1_tryGives 1 = .ok (.istore_n 3, 1) := by decide +kernel
theorem dX1_tryGives_2 : decode cX1_tryGives 2 = .ok (.iconst 0, 1) := by decide +kernel
theorem dX1_tryGives_3 : decode cX1_tryGives 3 = .ok (.istore 4, 2) := by decide +kernel
theorem dX1_tryGives_5 : decode cX1_tryGives 5 = .ok (.iload 4, 2) := by decide +kernel
theorem dX1_tryGives_7 : decode cX1_tryGives 7 = .ok (.iconst 4, 1) := by decide +kernel
theorem dX1_tryGives_8 : decode cX1_tryGives 8 = .ok (.if_icmp .ge 108, 3) := by decide +kernel
theorem dX1_tryGives_11 : decode cX1_tryGives 11 = .ok (.iload_n 3, 1) := by decide +kernel
theorem dX1_tryGives_12 : decode cX1_tryGives 12 = .ok (.ifCond .ne 104, 3) := by decide +kernel
theorem dX1_tryGives_15 : decode cX1_tryGives 15 = .ok (.aload_n 2, 1) := by decide +kernel
theorem dX1_tryGives_16 : decode cX1_tryGives 16 = .ok (.iload 4, 2) := by decide +kernel
theorem dX1_tryGives_18 : decode cX1_tryGives 18 = .ok (.invokevirtual 148, 3) := by decide +kernel
theorem dX1_tryGives_21 : decode cX1_tryGives 21 = .ok (.istore 5, 2) := by decide +kernel
theorem dX1_tryGives_23 : decode cX1_tryGives 23 = .ok (.aload_n 2, 1) := by decide +kernel
theorem dX1_tryGives_24 : decode cX1_tryGives 24 = .ok (.iload 4, 2) := by decide +kernel
theorem dX1_tryGives_26 : decode cX1_tryGives 26 = .ok (.iload 5, 2) := by decide +kernel
theorem dX1_tryGives_28 : decode cX1_tryGives 28 = .ok (.invokevirtual 151, 3) := by decide +kernel
theorem dX1_tryGives_31 : decode cX1_tryGives 31 = .ok (.ifCond .ne 6, 3) := by decide +kernel
theorem dX1_tryGives_34 : decode cX1_tryGives 34 = .ok (.goto 76, 3) := by decide +kernel
theorem dX1_tryGives_37 : decode cX1_tryGives 37 = .ok (.iconst 0, 1) := by decide +kernel
theorem dX1_tryGives_38 : decode cX1_tryGives 38 = .ok (.istore 6, 2) := by decide +kernel
theorem dX1_tryGives_40 : decode cX1_tryGives 40 = .ok (.iload 6, 2) := by decide +kernel
theorem dX1_tryGives_42 : decode cX1_tryGives 42 = .ok (.aload_n 2, 1) := by decide +kernel
theorem dX1_tryGives_43 : decode cX1_tryGives 43 = .ok (.invokevirtual 127, 3) := by decide +kernel
theorem dX1_tryGives_46 : decode cX1_tryGives 46 = .ok (.if_icmp .ge 64, 3) := by decide +kernel
theorem dX1_tryGives_49 : decode cX1_tryGives 49 = .ok (.iload_n 3, 1) := by decide +kernel
theorem dX1_tryGives_50 : decode cX1_tryGives 50 = .ok (.ifCond .ne 60, 3) := by decide +kernel
theorem dX1_tryGives_53 : decode cX1_tryGives 53 = .ok (.aload_n 2, 1) := by decide +kernel
theorem dX1_tryGives_54 : decode cX1_tryGives 54 = .ok (.iconst 4, 1) := by decide +kernel
theorem dX1_tryGives_55 : decode cX1_tryGives 55 = .ok (.iload 6, 2) := by decide +kernel
theorem dX1_tryGives_57 : decode cX1_tryGives 57 = .ok (.invokevirtual 130, 3) := by decide +kernel
theorem dX1_tryGives_60 : decode cX1_tryGives 60 = .ok (.ifCond .eq 44, 3) := by decide +kernel
theorem dX1_tryGives_63 : decode cX1_tryGives 63 = .ok (.aload_n 0, 1) := by decide +kernel
theorem dX1_tryGives_64 : decode cX1_tryGives 64 = .ok (.getfield 72, 3) := by decide +kernel
theorem dX1_tryGives_67 : decode cX1_tryGives 67 = .ok (.aload_n 2, 1) := by decide +kernel
theorem dX1_tryGives_68 : decode cX1_tryGives 68 = .ok (.invokevirtual 81, 3) := by decide +kernel
theorem dX1_tryGives_71 : decode cX1_tryGives 71 = .ok (.aload_n 0, 1) := by decide +kernel
theorem dX1_tryGives_72 : decode cX1_tryGives 72 = .ok (.getfield 72, 3) := by decide +kernel
theorem dX1_tryGives_75 : decode cX1_tryGives 75 = .ok (.iload 4, 2) := by decide +kernel
theorem dX1_tryGives_77 : decode cX1_tryGives 77 = .ok (.iload 6, 2) := by decide +kernel
theorem dX1_tryGives_79 : decode cX1_tryGives 79 = .ok (.iconst (-1), 1) := by decide +kernel
theorem dX1_tryGives_80 : decode cX1_tryGives 80 = .ok (.iload 5, 2) := by decide +kernel
theorem dX1_tryGives_82 : decode cX1_tryGives 82 = .ok (.invokevirtual 154, 3) := by decide +kernel
theorem dX1_tryGives_85 : decode cX1_tryGives 85 = .ok (.pop, 1) := by decide +kernel
theorem dX1_tryGives_86 : decode cX1_tryGives 86 = .ok (.aload_n 0, 1) := by decide +kernel
theorem dX1_tryGives_87 : decode cX1_tryGives 87 = .ok (.iload_n 1, 1) := by decide +kernel
theorem dX1_tryGives_88 : decode cX1_tryGives 88 = .ok (.sipush 400, 3) := by decide +kernel
theorem dX1_tryGives_91 : decode cX1_tryGives 91 = .ok (.bipush 32, 2) := by decide +kernel
theorem dX1_tryGives_93 : decode cX1_tryGives 93 = .ok (.iload 4, 2) := by decide +kernel
theorem dX1_tryGives_95 : decode cX1_tryGives 95 = .ok (.imul, 1) := by decide +kernel
theorem dX1_tryGives_96 : decode cX1_tryGives 96 = .ok (.iadd, 1) := by decide +kernel
theorem dX1_tryGives_97 : decode cX1_tryGives 97 = .ok (.iload 6, 2) := by decide +kernel
theorem dX1_tryGives_99 : decode cX1_tryGives 99 = .ok (.iadd, 1) := by decide +kernel
theorem dX1_tryGives_100 : decode cX1_tryGives 100 = .ok (.invokevirtual 117, 3) := by decide +kernel
theorem dX1_tryGives_103 : decode cX1_tryGives 103 = .ok (.istore_n 3, 1) := by decide +kernel
theorem dX1_tryGives_104 : decode cX1_tryGives 104 = .ok (.iinc 6 1, 3) := by decide +kernel
theorem dX1_tryGives_107 : decode cX1_tryGives 107 = .ok (.goto (-67), 3) := by decide +kernel
theorem dX1_tryGives_110 : decode cX1_tryGives 110 = .ok (.iinc 4 1, 3) := by decide +kernel
theorem dX1_tryGives_113 : decode cX1_tryGives 113 = .ok (.goto (-108), 3) := by decide +kernel
theorem dX1_tryGives_116 : decode cX1_tryGives 116 = .ok (.iload_n 3, 1) := by decide +kernel
theorem dX1_tryGives_117 : decode cX1_tryGives 117 = .ok (.ireturn, 1) := by decide +kernel
theorem dX1_meet_0 : decode cX1_meet 0 = .ok (.aload_n 0, 1) := by decide +kernel
theorem dX1_meet_1 : decode cX1_meet 1 = .ok (.iload_n 1, 1) := by decide +kernel
theorem dX1_meet_2 : decode cX1_meet 2 = .ok (.putfield 49, 3) := by decide +kernel
theorem dX1_meet_5 : decode cX1_meet 5 = .ok (.aload_n 0, 1) := by decide +kernel
theorem dX1_meet_6 : decode cX1_meet 6 = .ok (.iload_n 2, 1) := by decide +kernel
theorem dX1_meet_7 : decode cX1_meet 7 = .ok (.putfield 52, 3) := by decide +kernel
theorem dX1_meet_10 : decode cX1_meet 10 = .ok (.iconst 1, 1) := by decide +kernel
theorem dX1_meet_11 : decode cX1_meet 11 = .ok (.ireturn, 1) := by decide +kernel
theorem dX1_reach_0 : decode cX1_reach 0 = .ok (.aload_n 0, 1) := by decide +kernel
theorem dX1_reach_1 : decode cX1_reach 1 = .ok (.invokevirtual 85, 3) := by decide +kernel
theorem dX1_reach_4 : decode cX1_reach 4 = .ok (.ifCond .eq 10, 3) := by decide +kernel
theorem dX1_reach_7 : decode cX1_reach 7 = .ok (.aload_n 0, 1) := by decide +kernel
theorem dX1_reach_8 : decode cX1_reach 8 = .ok (.iload_n 1, 1) := by decide +kernel
theorem dX1_reach_9 : decode cX1_reach 9 = .ok (.iload_n 2, 1) := by decide +kernel
theorem dX1_reach_10 : decode cX1_reach 10 = .ok (.invokevirtual 137, 3) := by decide +kernel
theorem dX1_reach_13 : decode cX1_reach 13 = .ok (.ireturn, 1) := by decide +kernel
theorem dX1_reach_14 : decode cX1_reach 14 = .ok (.aload_n 0, 1) := by decide +kernel
theorem dX1_reach_15 : decode cX1_reach 15 = .ok (.iload_n 1, 1) := by decide +kernel
theorem dX1_reach_16 : decode cX1_reach 16 = .ok (.iload_n 2, 1) := by decide +kernel
theorem dX1_reach_17 : decode cX1_reach 17 = .ok (.invokevirtual 89, 3) := by decide +kernel
theorem dX1_reach_20 : decode cX1_reach 20 = .ok (.ireturn, 1) := by decide +kernel
theorem dX1_isStrangeNoteTaken_0 : decode cX1_isStrangeNoteTaken 0 = .ok (.aload_n 0, 1) := by decide +kernel
theorem dX1_isStrangeNoteTaken_1 : decode cX1_isStrangeNoteTaken 1 = .ok (.getfield 37, 3) := by decide +kernel
theorem dX1_isStrangeNoteTaken_4 : decode cX1_isStrangeNoteTaken 4 = .ok (.iconst 1, 1) := by decide +kernel
theorem dX1_isStrangeNoteTaken_5 : decode cX1_isStrangeNoteTaken 5 = .ok (.if_icmp .eq 5, 3) := by decide +kernel
theorem dX1_isStrangeNoteTaken_8 : decode cX1_isStrangeNoteTaken 8 = .ok (.iconst 0, 1) := by decide +kernel
theorem dX1_isStrangeNoteTaken_9 : decode cX1_isStrangeNoteTaken 9 = .ok (.ireturn, 1) := by decide +kernel
theorem dX1_isStrangeNoteTaken_10 : decode cX1_isStrangeNoteTaken 10 = .ok (.iconst 0, 1) := by decide +kernel
theorem dX1_isStrangeNoteTaken_11 : decode cX1_isStrangeNoteTaken 11 = .ok (.istore_n 1, 1) := by decide +kernel
theorem dX1_isStrangeNoteTaken_12 : decode cX1_isStrangeNoteTaken 12 = .ok (.iload_n 1, 1) := by decide +kernel
theorem dX1_isStrangeNoteTaken_13 : decode cX1_isStrangeNoteTaken 13 = .ok (.aload_n 0, 1) := by decide +kernel
theorem dX1_isStrangeNoteTaken_14 : decode cX1_isStrangeNoteTaken 14 = .ok (.getfield 72, 3) := by decide +kernel
theorem dX1_isStrangeNoteTaken_17 : decode cX1_isStrangeNoteTaken 17 = .ok (.invokevirtual 127, 3) := by decide +kernel
theorem dX1_isStrangeNoteTaken_20 : decode cX1_isStrangeNoteTaken 20 = .ok (.if_icmp .ge 42, 3) := by decide +kernel
theorem dX1_isStrangeNoteTaken_23 : decode cX1_isStrangeNoteTaken 23 = .ok (.aload_n 0, 1) := by decide +kernel
theorem dX1_isStrangeNoteTaken_24 : decode cX1_isStrangeNoteTaken 24 = .ok (.getfield 72, 3) := by decide +kernel
theorem dX1_isStrangeNoteTaken_27 : decode cX1_isStrangeNoteTaken 27 = .ok (.aload_n 0, 1) := by decide +kernel
theorem dX1_isStrangeNoteTaken_28 : decode cX1_isStrangeNoteTaken 28 = .ok (.getfield 40, 3) := by decide +kernel
theorem dX1_isStrangeNoteTaken_31 : decode cX1_isStrangeNoteTaken 31 = .ok (.iload_n 1, 1) := by decide +kernel
theorem dX1_isStrangeNoteTaken_32 : decode cX1_isStrangeNoteTaken 32 = .ok (.invokevirtual 130, 3) := by decide +kernel
theorem dX1_isStrangeNoteTaken_35 : decode cX1_isStrangeNoteTaken 35 = .ok (.ifCond .eq 21, 3) := by decide +kernel
theorem dX1_isStrangeNoteTaken_38 : decode cX1_isStrangeNoteTaken 38 = .ok (.aload_n 0, 1) := by decide +kernel
theorem dX1_isStrangeNoteTaken_39 : decode cX1_isStrangeNoteTaken 39 = .ok (.getfield 72, 3) := by decide +kernel
theorem dX1_isStrangeNoteTaken_42 : decode cX1_isStrangeNoteTaken 42 = .ok (.iload_n 1, 1) := by decide +kernel
theorem dX1_isStrangeNoteTaken_43 : decode cX1_isStrangeNoteTaken 43 = .ok (.iconst 1, 1) := by decide +kernel
theorem dX1_isStrangeNoteTaken_44 : decode cX1_isStrangeNoteTaken 44 = .ok (.invokevirtual 134, 3) := by decide +kernel
theorem dX1_isStrangeNoteTaken_47 : decode cX1_isStrangeNoteTaken 47 = .ok (.aload_n 0, 1) := by decide +kernel
theorem dX1_isStrangeNoteTaken_48 : decode cX1_isStrangeNoteTaken 48 = .ok (.getfield 40, 3) := by decide +kernel
theorem dX1_isStrangeNoteTaken_51 : decode cX1_isStrangeNoteTaken 51 = .ok (.if_icmp .eq 5, 3) := by decide +kernel
theorem dX1_isStrangeNoteTaken_54 : decode cX1_isStrangeNoteTaken 54 = .ok (.iconst 1, 1) := by decide +kernel
theorem dX1_isStrangeNoteTaken_55 : decode cX1_isStrangeNoteTaken 55 = .ok (.ireturn, 1) := by decide +kernel
theorem dX1_isStrangeNoteTaken_56 : decode cX1_isStrangeNoteTaken 56 = .ok (.iinc 1 1, 3) := by decide +kernel
theorem dX1_isStrangeNoteTaken_59 : decode cX1_isStrangeNoteTaken 59 = .ok (.goto (-47), 3) := by decide +kernel
theorem dX1_isStrangeNoteTaken_62 : decode cX1_isStrangeNoteTaken 62 = .ok (.iconst 0, 1) := by decide +kernel
theorem dX1_isStrangeNoteTaken_63 : decode cX1_isStrangeNoteTaken 63 = .ok (.ireturn, 1) := by decide +kernel
theorem dX1_keepIfNew_0 : decode cX1_keepIfNew 0 = .ok (.aload_n 0, 1) := by decide +kernel
theorem dX1_keepIfNew_1 : decode cX1_keepIfNew 1 = .ok (.getfield 72, 3) := by decide +kernel
theorem dX1_keepIfNew_4 : decode cX1_keepIfNew 4 = .ok (.invokevirtual 158, 3) := by decide +kernel
theorem dX1_keepIfNew_7 : decode cX1_keepIfNew 7 = .ok (.sipush 255, 3) := by decide +kernel
theorem dX1_keepIfNew_10 : decode cX1_keepIfNew 10 = .ok (.iand, 1) := by decide +kernel
theorem dX1_keepIfNew_11 : decode cX1_keepIfNew 11 = .ok (.istore_n 3, 1) := by decide +kernel
theorem dX1_keepIfNew_12 : decode cX1_keepIfNew 12 = .ok (.aload_n 0, 1) := by decide +kernel
theorem dX1_keepIfNew_13 : decode cX1_keepIfNew 13 = .ok (.getfield 27, 3) := by decide +kernel
theorem dX1_keepIfNew_16 : decode cX1_keepIfNew 16 = .ok (.iload_n 3, 1) := by decide +kernel
theorem dX1_keepIfNew_17 : decode cX1_keepIfNew 17 = .ok (.iaload, 1) := by decide +kernel
theorem dX1_keepIfNew_18 : decode cX1_keepIfNew 18 = .ok (.istore 4, 2) := by decide +kernel
theorem dX1_keepIfNew_20 : decode cX1_keepIfNew 20 = .ok (.iconst 0, 1) := by decide +kernel
theorem dX1_keepIfNew_21 : decode cX1_keepIfNew 21 = .ok (.istore 5, 2) := by decide +kernel
theorem dX1_keepIfNew_23 : decode cX1_keepIfNew 23 = .ok (.iload 5, 2) := by decide +kernel
theorem dX1_keepIfNew_25 : decode cX1_keepIfNew 25 = .ok (.sipush 300, 3) := by decide +kernel
theorem dX1_keepIfNew_28 : decode cX1_keepIfNew 28 = .ok (.if_icmp .ge 60, 3) := by decide +kernel
theorem dX1_keepIfNew_31 : decode cX1_keepIfNew 31 = .ok (.iload 4, 2) := by decide +kernel
theorem dX1_keepIfNew_33 : decode cX1_keepIfNew 33 = .ok (.ifCond .lt 55, 3) := by decide +kernel
theorem dX1_keepIfNew_36 : decode cX1_keepIfNew 36 = .ok (.iload 4, 2) := by decide +kernel
theorem dX1_keepIfNew_38 : decode cX1_keepIfNew 38 = .ok (.sipush 300, 3) := by decide +kernel
theorem dX1_keepIfNew_41 : decode cX1_keepIfNew 41 = .ok (.if_icmp .ge 47, 3) := by decide +kernel
theorem dX1_keepIfNew_44 : decode cX1_keepIfNew 44 = .ok (.aload_n 0, 1) := by decide +kernel
theorem dX1_keepIfNew_45 : decode cX1_keepIfNew 45 = .ok (.getfield 13, 3) := by decide +kernel
theorem dX1_keepIfNew_48 : decode cX1_keepIfNew 48 = .ok (.iload 4, 2) := by decide +kernel
theorem dX1_keepIfNew_50 : decode cX1_keepIfNew 50 = .ok (.aaload, 1) := by decide +kernel
theorem dX1_keepIfNew_51 : decode cX1_keepIfNew 51 = .ok (.ifnull 22, 3) := by decide +kernel
theorem dX1_keepIfNew_54 : decode cX1_keepIfNew 54 = .ok (.aload_n 0, 1) := by decide +kernel
theorem dX1_keepIfNew_55 : decode cX1_keepIfNew 55 = .ok (.getfield 72, 3) := by decide +kernel
theorem dX1_keepIfNew_58 : decode cX1_keepIfNew 58 = .ok (.aload_n 0, 1) := by decide +kernel
theorem dX1_keepIfNew_59 : decode cX1_keepIfNew 59 = .ok (.getfield 13, 3) := by decide +kernel
theorem dX1_keepIfNew_62 : decode cX1_keepIfNew 62 = .ok (.iload 4, 2) := by decide +kernel
theorem dX1_keepIfNew_64 : decode cX1_keepIfNew 64 = .ok (.aaload, 1) := by decide +kernel
theorem dX1_keepIfNew_65 : decode cX1_keepIfNew 65 = .ok (.invokevirtual 161, 3) := by decide +kernel
theorem dX1_keepIfNew_68 : decode cX1_keepIfNew 68 = .ok (.ifCond .eq 5, 3) := by decide +kernel
theorem dX1_keepIfNew_71 : decode cX1_keepIfNew 71 = .ok (.iconst 0, 1) := by decide +kernel
theorem dX1_keepIfNew_72 : decode cX1_keepIfNew 72 = .ok (.ireturn, 1) := by decide +kernel
theorem dX1_keepIfNew_73 : decode cX1_keepIfNew 73 = .ok (.aload_n 0, 1) := by decide +kernel
theorem dX1_keepIfNew_74 : decode cX1_keepIfNew 74 = .ok (.getfield 24, 3) := by decide +kernel
theorem dX1_keepIfNew_77 : decode cX1_keepIfNew 77 = .ok (.iload 4, 2) := by decide +kernel
theorem dX1_keepIfNew_79 : decode cX1_keepIfNew 79 = .ok (.iaload, 1) := by decide +kernel
theorem dX1_keepIfNew_80 : decode cX1_keepIfNew 80 = .ok (.istore 4, 2) := by decide +kernel
theorem dX1_keepIfNew_82 : decode cX1_keepIfNew 82 = .ok (.iinc 5 1, 3) := by decide +kernel
theorem dX1_keepIfNew_85 : decode cX1_keepIfNew 85 = .ok (.goto (-62), 3) := by decide +kernel
theorem dX1_keepIfNew_88 : decode cX1_keepIfNew 88 = .ok (.aload_n 0, 1) := by decide +kernel
theorem dX1_keepIfNew_89 : decode cX1_keepIfNew 89 = .ok (.getfield 33, 3) := by decide +kernel
theorem dX1_keepIfNew_92 : decode cX1_keepIfNew 92 = .ok (.ifCond .lt 13, 3) := by decide +kernel
theorem dX1_keepIfNew_95 : decode cX1_keepIfNew 95 = .ok (.aload_n 0, 1) := by decide +kernel
theorem dX1_keepIfNew_96 : decode cX1_keepIfNew 96 = .ok (.getfield 33, 3) := by decide +kernel
theorem dX1_keepIfNew_99 : decode cX1_keepIfNew 99 = .ok (.sipush 300, 3) := by decide +kernel
theorem dX1_keepIfNew_102 : decode cX1_keepIfNew 102 = .ok (.if_icmp .lt 5, 3) := by decide +kernel
theorem dX1_keepIfNew_105 : decode cX1_keepIfNew 105 = .ok (.iconst 2, 1) := by decide +kernel
theorem dX1_keepIfNew_106 : decode cX1_keepIfNew 106 = .ok (.ireturn, 1) := by decide +kernel
theorem dX1_keepIfNew_107 : decode cX1_keepIfNew 107 = .ok (.aload_n 0, 1) := by decide +kernel
theorem dX1_keepIfNew_108 : decode cX1_keepIfNew 108 = .ok (.getfield 13, 3) := by decide +kernel
theorem dX1_keepIfNew_111 : decode cX1_keepIfNew 111 = .ok (.aload_n 0, 1) := by decide +kernel
theorem dX1_keepIfNew_112 : decode cX1_keepIfNew 112 = .ok (.getfield 33, 3) := by decide +kernel
theorem dX1_keepIfNew_115 : decode cX1_keepIfNew 115 = .ok (.aaload, 1) := by decide +kernel
theorem dX1_keepIfNew_116 : decode cX1_keepIfNew 116 = .ok (.ifnonnull 24, 3) := by decide +kernel
theorem dX1_keepIfNew_119 : decode cX1_keepIfNew 119 = .ok (.aload_n 0, 1) := by decide +kernel
theorem dX1_keepIfNew_120 : decode cX1_keepIfNew 120 = .ok (.getfield 13, 3) := by decide +kernel
theorem dX1_keepIfNew_123 : decode cX1_keepIfNew 123 = .ok (.aload_n 0, 1) := by decide +kernel
theorem dX1_keepIfNew_124 : decode cX1_keepIfNew 124 = .ok (.getfield 33, 3) := by decide +kernel
theorem dX1_keepIfNew_127 : decode cX1_keepIfNew 127 = .ok (.new 11, 3) := by decide +kernel
theorem dX1_keepIfNew_130 : decode cX1_keepIfNew 130 = .ok (.dup, 1) := by decide +kernel
theorem dX1_keepIfNew_131 : decode cX1_keepIfNew 131 = .ok (.aload_n 0, 1) := by decide +kernel
theorem dX1_keepIfNew_132 : decode cX1_keepIfNew 132 = .ok (.getfield 61, 3) := by decide +kernel
theorem dX1_keepIfNew_135 : decode cX1_keepIfNew 135 = .ok (.aconst_null, 1) := by decide +kernel
theorem dX1_keepIfNew_136 : decode cX1_keepIfNew 136 = .ok (.invokespecial 69, 3) := by decide +kernel
theorem dX1_keepIfNew_139 : decode cX1_keepIfNew 139 = .ok (.aastore, 1) := by decide +kernel
theorem dX1_keepIfNew_140 : decode cX1_keepIfNew 140 = .ok (.aload_n 0, 1) := by decide +kernel
theorem dX1_keepIfNew_141 : decode cX1_keepIfNew 141 = .ok (.getfield 13, 3) := by decide +kernel
theorem dX1_keepIfNew_144 : decode cX1_keepIfNew 144 = .ok (.aload_n 0, 1) := by decide +kernel
theorem dX1_keepIfNew_145 : decode cX1_keepIfNew 145 = .ok (.getfield 33, 3) := by decide +kernel
theorem dX1_keepIfNew_148 : decode cX1_keepIfNew 148 = .ok (.aaload, 1) := by decide +kernel
theorem dX1_keepIfNew_149 : decode cX1_keepIfNew 149 = .ok (.aload_n 0, 1) := by decide +kernel
theorem dX1_keepIfNew_150 : decode cX1_keepIfNew 150 = .ok (.getfield 72, 3) := by decide +kernel
theorem dX1_keepIfNew_153 : decode cX1_keepIfNew 153 = .ok (.invokevirtual 81, 3) := by decide +kernel
theorem dX1_keepIfNew_156 : decode cX1_keepIfNew 156 = .ok (.aload_n 0, 1) := by decide +kernel
theorem dX1_keepIfNew_157 : decode cX1_keepIfNew 157 = .ok (.getfield 17, 3) := by decide +kernel
theorem dX1_keepIfNew_160 : decode cX1_keepIfNew 160 = .ok (.aload_n 0, 1) := by decide +kernel
theorem dX1_keepIfNew_161 : decode cX1_keepIfNew 161 = .ok (.getfield 33, 3) := by decide +kernel
theorem dX1_keepIfNew_164 : decode cX1_keepIfNew 164 = .ok (.iload_n 1, 1) := by decide +kernel
theorem dX1_keepIfNew_165 : decode cX1_keepIfNew 165 = .ok (.iastore, 1) := by decide +kernel
theorem dX1_keepIfNew_166 : decode cX1_keepIfNew 166 = .ok (.aload_n 0, 1) := by decide +kernel
theorem dX1_keepIfNew_167 : decode cX1_keepIfNew 167 = .ok (.getfield 21, 3) := by decide +kernel
theorem dX1_keepIfNew_170 : decode cX1_keepIfNew 170 = .ok (.aload_n 0, 1) := by decide +kernel
theorem dX1_keepIfNew_171 : decode cX1_keepIfNew 171 = .ok (.getfield 33, 3) := by decide +kernel
theorem dX1_keepIfNew_174 : decode cX1_keepIfNew 174 = .ok (.iload_n 2, 1) := by decide +kernel
theorem dX1_keepIfNew_175 : decode cX1_keepIfNew 175 = .ok (.iastore, 1) := by decide +kernel
theorem dX1_keepIfNew_176 : decode cX1_keepIfNew 176 = .ok (.aload_n 0, 1) := by decide +kernel
theorem dX1_keepIfNew_177 : decode cX1_keepIfNew 177 = .ok (.getfield 24, 3) := by decide +kernel
theorem dX1_keepIfNew_180 : decode cX1_keepIfNew 180 = .ok (.aload_n 0, 1) := by decide +kernel
theorem dX1_keepIfNew_181 : decode cX1_keepIfNew 181 = .ok (.getfield 33, 3) := by decide +kernel
theorem dX1_keepIfNew_184 : decode cX1_keepIfNew 184 = .ok (.aload_n 0, 1) := by decide +kernel
theorem dX1_keepIfNew_185 : decode cX1_keepIfNew 185 = .ok (.getfield 27, 3) := by decide +kernel
theorem dX1_keepIfNew_188 : decode cX1_keepIfNew 188 = .ok (.iload_n 3, 1) := by decide +kernel
theorem dX1_keepIfNew_189 : decode cX1_keepIfNew 189 = .ok (.iaload, 1) := by decide +kernel
theorem dX1_keepIfNew_190 : decode cX1_keepIfNew 190 = .ok (.iastore, 1) := by decide +kernel
theorem dX1_keepIfNew_191 : decode cX1_keepIfNew 191 = .ok (.aload_n 0, 1) := by decide +kernel
theorem dX1_keepIfNew_192 : decode cX1_keepIfNew 192 = .ok (.getfield 27, 3) := by decide +kernel
theorem dX1_keepIfNew_195 : decode cX1_keepIfNew 195 = .ok (.iload_n 3, 1) := by decide +kernel
theorem dX1_keepIfNew_196 : decode cX1_keepIfNew 196 = .ok (.aload_n 0, 1) := by decide +kernel
theorem dX1_keepIfNew_197 : decode cX1_keepIfNew 197 = .ok (.getfield 33, 3) := by decide +kernel
theorem dX1_keepIfNew_200 : decode cX1_keepIfNew 200 = .ok (.iastore, 1) := by decide +kernel
theorem dX1_keepIfNew_201 : decode cX1_keepIfNew 201 = .ok (.aload_n 0, 1) := by decide +kernel
theorem dX1_keepIfNew_202 : decode cX1_keepIfNew 202 = .ok (.dup, 1) := by decide +kernel
theorem dX1_keepIfNew_203 : decode cX1_keepIfNew 203 = .ok (.getfield 33, 3) := by decide +kernel
theorem dX1_keepIfNew_206 : decode cX1_keepIfNew 206 = .ok (.iconst 1, 1) := by decide +kernel
theorem dX1_keepIfNew_207 : decode cX1_keepIfNew 207 = .ok (.iadd, 1) := by decide +kernel
theorem dX1_keepIfNew_208 : decode cX1_keepIfNew 208 = .ok (.putfield 33, 3) := by decide +kernel
theorem dX1_keepIfNew_211 : decode cX1_keepIfNew 211 = .ok (.iconst 0, 1) := by decide +kernel
theorem dX1_keepIfNew_212 : decode cX1_keepIfNew 212 = .ok (.ireturn, 1) := by decide +kernel
theorem dX2_init_0 : decode cX2_init 0 = .ok (.aload_n 0, 1) := by decide +kernel
theorem dX2_init_1 : decode cX2_init 1 = .ok (.invokespecial 3, 3) := by decide +kernel
theorem dX2_init_4 : decode cX2_init 4 = .ok (.aload_n 0, 1) := by decide +kernel
theorem dX2_init_5 : decode cX2_init 5 = .ok (.bipush 20, 2) := by decide +kernel
theorem dX2_init_7 : decode cX2_init 7 = .ok (.putfield 9, 3) := by decide +kernel
theorem dX2_init_10 : decode cX2_init 10 = .ok (.aload_n 0, 1) := by decide +kernel
theorem dX2_init_11 : decode cX2_init 11 = .ok (.sipush 200, 3) := by decide +kernel
theorem dX2_init_14 : decode cX2_init 14 = .ok (.putfield 15, 3) := by decide +kernel
theorem dX2_init_17 : decode cX2_init 17 = .ok (.aload_n 0, 1) := by decide +kernel
theorem dX2_init_18 : decode cX2_init 18 = .ok (.iconst 2, 1) := by decide +kernel
theorem dX2_init_19 : decode cX2_init 19 = .ok (.putfield 18, 3) := by decide +kernel
theorem dX2_init_22 : decode cX2_init 22 = .ok (.aload_n 0, 1) := by decide +kernel
theorem dX2_init_23 : decode cX2_init 23 = .ok (.bipush 10, 2) := by decide +kernel
theorem dX2_init_25 : decode cX2_init 25 = .ok (.putfield 21, 3) := by decide +kernel
theorem dX2_init_28 : decode cX2_init 28 = .ok (.aload_n 0, 1) := by decide +kernel
theorem dX2_init_29 : decode cX2_init 29 = .ok (.iconst 0, 1) := by decide +kernel
theorem dX2_init_30 : decode cX2_init 30 = .ok (.putfield 24, 3) := by decide +kernel
theorem dX2_init_33 : decode cX2_init 33 = .ok (.aload_n 0, 1) := by decide +kernel
theorem dX2_init_34 : decode cX2_init 34 = .ok (.iconst 5, 1) := by decide +kernel
theorem dX2_init_35 : decode cX2_init 35 = .ok (.putfield 27, 3) := by decide +kernel
theorem dX2_init_38 : decode cX2_init 38 = .ok (.aload_n 0, 1) := by decide +kernel
theorem dX2_init_39 : decode cX2_init 39 = .ok (.bipush 10, 2) := by decide +kernel
theorem dX2_init_41 : decode cX2_init 41 = .ok (.putfield 30, 3) := by decide +kernel
theorem dX2_init_44 : decode cX2_init 44 = .ok (.aload_n 0, 1) := by decide +kernel
theorem dX2_init_45 : decode cX2_init 45 = .ok (.sipush 255, 3) := by decide +kernel
theorem dX2_init_48 : decode cX2_init 48 = .ok (.putfield 33, 3) := by decide +kernel
theorem dX2_init_51 : decode cX2_init 51 = .ok (.aload_n 0, 1) := by decide +kernel
theorem dX2_init_52 : decode cX2_init 52 = .ok (.iconst 0, 1) := by decide +kernel
theorem dX2_init_53 : decode cX2_init 53 = .ok (.putfield 36, 3) := by decide +kernel
theorem dX2_init_56 : decode cX2_init 56 = .ok (.aload_n 0, 1) := by decide +kernel
theorem dX2_init_57 : decode cX2_init 57 = .ok (.iconst 1, 1) := by decide +kernel
theorem dX2_init_58 : decode cX2_init 58 = .ok (.putfield 39, 3) := by decide +kernel
theorem dX2_init_61 : decode cX2_init 61 = .ok (.aload_n 0, 1) := by decide +kernel
theorem dX2_init_62 : decode cX2_init 62 = .ok (.iconst 0, 1) := by decide +kernel
theorem dX2_init_63 : decode cX2_init 63 = .ok (.putfield 43, 3) := by decide +kernel
theorem dX2_init_66 : decode cX2_init 66 = .ok (.aload_n 0, 1) := by decide +kernel
theorem dX2_init_67 : decode cX2_init 67 = .ok (.iconst 0, 1) := by decide +kernel
theorem dX2_init_68 : decode cX2_init 68 = .ok (.putfield 46, 3) := by decide +kernel
theorem dX2_init_71 : decode cX2_init 71 = .ok (.aload_n 0, 1) := by decide +kernel
theorem dX2_init_72 : decode cX2_init 72 = .ok (.iconst 0, 1) := by decide +kernel
theorem dX2_init_73 : decode cX2_init 73 = .ok (.putfield 49, 3) := by decide +kernel
theorem dX2_init_76 : decode cX2_init 76 = .ok (.aload_n 0, 1) := by decide +kernel
theorem dX2_init_77 : decode cX2_init 77 = .ok (.iconst 0, 1) := by decide +kernel
theorem dX2_init_78 : decode cX2_init 78 = .ok (.putfield 52, 3) := by decide +kernel
theorem dX2_init_81 : decode cX2_init 81 = .ok (.aload_n 0, 1) := by decide +kernel
theorem dX2_init_82 : decode cX2_init 82 = .ok (.iconst 4, 1) := by decide +kernel
theorem dX2_init_83 : decode cX2_init 83 = .ok (.newarray .int, 2) := by decide +kernel
theorem dX2_init_85 : decode cX2_init 85 = .ok (.putfield 55, 3) := by decide +kernel
theorem dX2_init_88 : decode cX2_init 88 = .ok (.aload_n 0, 1) := by decide +kernel
theorem dX2_init_89 : decode cX2_init 89 = .ok (.iconst 4, 1) := by decide +kernel
theorem dX2_init_90 : decode cX2_init 90 = .ok (.newarray .int, 2) := by decide +kernel
theorem dX2_init_92 : decode cX2_init 92 = .ok (.putfield 59, 3) := by decide +kernel
theorem dX2_init_95 : decode cX2_init 95 = .ok (.aload_n 0, 1) := by decide +kernel
theorem dX2_init_96 : decode cX2_init 96 = .ok (.iconst 5, 1) := by decide +kernel
theorem dX2_init_97 : decode cX2_init 97 = .ok (.newarray .int, 2) := by decide +kernel
theorem dX2_init_99 : decode cX2_init 99 = .ok (.putfield 62, 3) := by decide +kernel
theorem dX2_init_102 : decode cX2_init 102 = .ok (.aload_n 0, 1) := by decide +kernel
theorem dX2_init_103 : decode cX2_init 103 = .ok (.getfield 62, 3) := by decide +kernel
theorem dX2_init_106 : decode cX2_init 106 = .ok (.iconst (-1), 1) := by decide +kernel
theorem dX2_init_107 : decode cX2_init 107 = .ok (.invokestatic 65, 3) := by decide +kernel
theorem dX2_init_110 : decode cX2_init 110 = .ok (.return_, 1) := by decide +kernel
theorem dX2_on_0 : decode cX2_on 0 = .ok (.aload_n 0, 1) := by decide +kernel
theorem dX2_on_1 : decode cX2_on 1 = .ok (.getfield 33, 3) := by decide +kernel
theorem dX2_on_4 : decode cX2_on 4 = .ok (.iload_n 1, 1) := by decide +kernel
theorem dX2_on_5 : decode cX2_on 5 = .ok (.ishr, 1) := by decide +kernel
theorem dX2_on_6 : decode cX2_on 6 = .ok (.iconst 1, 1) := by decide +kernel
theorem dX2_on_7 : decode cX2_on 7 = .ok (.iand, 1) := by decide +kernel
theorem dX2_on_8 : decode cX2_on 8 = .ok (.iconst 1, 1) := by decide +kernel
theorem dX2_on_9 : decode cX2_on 9 = .ok (.if_icmp .ne 7, 3) := by decide +kernel
theorem dX2_on_12 : decode cX2_on 12 = .ok (.iconst 1, 1) := by decide +kernel
theorem dX2_on_13 : decode cX2_on 13 = .ok (.goto 4, 3) := by decide +kernel
theorem dX2_on_16 : decode cX2_on 16 = .ok (.iconst 0, 1) := by decide +kernel
theorem dX2_on_17 : decode cX2_on 17 = .ok (.ireturn, 1) := by decide +kernel
theorem dX2_isHouse_0 : decode cX2_isHouse 0 = .ok (.iload_n 1, 1) := by decide +kernel
theorem dX2_isHouse_1 : decode cX2_isHouse 1 = .ok (.ifCond .lt 20, 3) := by decide +kernel
theorem dX2_isHouse_4 : decode cX2_isHouse 4 = .ok (.iload_n 1, 1) := by decide +kernel
theorem dX2_isHouse_5 : decode cX2_isHouse 5 = .ok (.aload_n 0, 1) := by decide +kernel
theorem dX2_isHouse_6 : decode cX2_isHouse 6 = .ok (.getfield 43, 3) := by decide +kernel
theorem dX2_isHouse_9 : decode cX2_isHouse 9 = .ok (.if_icmp .ge 12, 3) := by decide +kernel
theorem dX2_isHouse_12 : decode cX2_isHouse 12 = .ok (.iload_n 1, 1) := by decide +kernel
theorem dX2_isHouse_13 : decode cX2_isHouse 13 = .ok (.iconst 4, 1) := by decide +kernel
theorem dX2_isHouse_14 : decode cX2_isHouse 14 = .ok (.if_icmp .ge 7, 3) := by decide +kernel
theorem dX2_isHouse_17 : decode cX2_isHouse 17 = .ok (.iconst 1, 1) := by decide +kernel
theorem dX2_isHouse_18 : decode cX2_isHouse 18 = .ok (.goto 4, 3) := by decide +kernel
theorem dX2_isHouse_21 : decode cX2_isHouse 21 = .ok (.iconst 0, 1) := by decide +kernel
theorem dX2_isHouse_22 : decode cX2_isHouse 22 = .ok (.ireturn, 1) := by decide +kernel
theorem dX2_isIn_0 : decode cX2_isIn 0 = .ok (.iload_n 1, 1) := by decide +kernel
theorem dX2_isIn_1 : decode cX2_isIn 1 = .ok (.ifCond .lt 24, 3) := by decide +kernel
theorem dX2_isIn_4 : decode cX2_isIn 4 = .ok (.iload_n 1, 1) := by decide +kernel
theorem dX2_isIn_5 : decode cX2_isIn 5 = .ok (.iconst 4, 1) := by decide +kernel
theorem dX2_isIn_6 : decode cX2_isIn 6 = .ok (.if_icmp .ge 19, 3) := by decide +kernel
theorem dX2_isIn_9 : decode cX2_isIn 9 = .ok (.aload_n 0, 1) := by decide +kernel
theorem dX2_isIn_10 : decode cX2_isIn 10 = .ok (.getfield 46, 3) := by decide +kernel
theorem dX2_isIn_13 : decode cX2_isIn 13 = .ok (.iload_n 1, 1) := by decide +kernel
theorem dX2_isIn_14 : decode cX2_isIn 14 = .ok (.ishr, 1) := by decide +kernel
theorem dX2_isIn_15 : decode cX2_isIn 15 = .ok (.iconst 1, 1) := by decide +kernel
theorem dX2_isIn_16 : decode cX2_isIn 16 = .ok (.iand, 1) := by decide +kernel
theorem dX2_isIn_17 : decode cX2_isIn 17 = .ok (.iconst 1, 1) := by decide +kernel
theorem dX2_isIn_18 : decode cX2_isIn 18 = .ok (.if_icmp .ne 7, 3) := by decide +kernel
theorem dX2_isIn_21 : decode cX2_isIn 21 = .ok (.iconst 1, 1) := by decide +kernel
theorem dX2_isIn_22 : decode cX2_isIn 22 = .ok (.goto 4, 3) := by decide +kernel
theorem dX2_isIn_25 : decode cX2_isIn 25 = .ok (.iconst 0, 1) := by decide +kernel
theorem dX2_isIn_26 : decode cX2_isIn 26 = .ok (.ireturn, 1) := by decide +kernel
theorem dX2_isOnce_0 : decode cX2_isOnce 0 = .ok (.iload_n 1, 1) := by decide +kernel
theorem dX2_isOnce_1 : decode cX2_isOnce 1 = .ok (.ifCond .lt 24, 3) := by decide +kernel
theorem dX2_isOnce_4 : decode cX2_isOnce 4 = .ok (.iload_n 1, 1) := by decide +kernel
theorem dX2_isOnce_5 : decode cX2_isOnce 5 = .ok (.iconst 4, 1) := by decide +kernel
theorem dX2_isOnce_6 : decode cX2_isOnce 6 = .ok (.if_icmp .ge 19, 3) := by decide +kernel
theorem dX2_isOnce_9 : decode cX2_isOnce 9 = .ok (.aload_n 0, 1) := by decide +kernel
theorem dX2_isOnce_10 : decode cX2_isOnce 10 = .ok (.getfield 49, 3) := by decide +kernel
theorem dX2_isOnce_13 : decode cX2_isOnce 13 = .ok (.iload_n 1, 1) := by decide +kernel
theorem dX2_isOnce_14 : decode cX2_isOnce 14 = .ok (.ishr, 1) := by decide +kernel
theorem dX2_isOnce_15 : decode cX2_isOnce 15 = .ok (.iconst 1, 1) := by decide +kernel
theorem dX2_isOnce_16 : decode cX2_isOnce 16 = .ok (.iand, 1) := by decide +kernel
theorem dX2_isOnce_17 : decode cX2_isOnce 17 = .ok (.iconst 1, 1) := by decide +kernel
theorem dX2_isOnce_18 : decode cX2_isOnce 18 = .ok (.if_icmp .ne 7, 3) := by decide +kernel
theorem dX2_isOnce_21 : decode cX2_isOnce 21 = .ok (.iconst 1, 1) := by decide +kernel
theorem dX2_isOnce_22 : decode cX2_isOnce 22 = .ok (.goto 4, 3) := by decide +kernel
theorem dX2_isOnce_25 : decode cX2_isOnce 25 = .ok (.iconst 0, 1) := by decide +kernel
theorem dX2_isOnce_26 : decode cX2_isOnce 26 = .ok (.ireturn, 1) := by decide +kernel
theorem dX2_open_0 : decode cX2_open 0 = .ok (.iload_n 1, 1) := by decide +kernel
theorem dX2_open_1 : decode cX2_open 1 = .ok (.ifCond .lt 8, 3) := by decide +kernel
theorem dX2_open_4 : decode cX2_open 4 = .ok (.iload_n 1, 1) := by decide +kernel
theorem dX2_open_5 : decode cX2_open 5 = .ok (.iconst 4, 1) := by decide +kernel
theorem dX2_open_6 : decode cX2_open 6 = .ok (.if_icmp .lt 4, 3) := by decide +kernel
theorem dX2_open_9 : decode cX2_open 9 = .ok (.return_, 1) := by decide +kernel
theorem dX2_open_10 : decode cX2_open 10 = .ok (.aload_n 0, 1) := by decide +kernel
theorem dX2_open_11 : decode cX2_open 11 = .ok (.getfield 55, 3) := by decide +kernel
theorem dX2_open_14 : decode cX2_open 14 = .ok (.iload_n 1, 1) := by decide +kernel
theorem dX2_open_15 : decode cX2_open 15 = .ok (.iload_n 2, 1) := by decide +kernel
theorem dX2_open_16 : decode cX2_open 16 = .ok (.iastore, 1) := by decide +kernel
theorem dX2_open_17 : decode cX2_open 17 = .ok (.aload_n 0, 1) := by decide +kernel
theorem dX2_open_18 : decode cX2_open 18 = .ok (.getfield 59, 3) := by decide +kernel
theorem dX2_open_21 : decode cX2_open 21 = .ok (.iload_n 1, 1) := by decide +kernel
theorem dX2_open_22 : decode cX2_open 22 = .ok (.iload 4, 2) := by decide +kernel
theorem dX2_open_24 : decode cX2_open 24 = .ok (.iastore, 1) := by decide +kernel
theorem dX2_open_25 : decode cX2_open 25 = .ok (.aload_n 0, 1) := by decide +kernel
theorem dX2_open_26 : decode cX2_open 26 = .ok (.dup, 1) := by decide +kernel
theorem dX2_open_27 : decode cX2_open 27 = .ok (.getfield 46, 3) := by decide +kernel
theorem dX2_open_30 : decode cX2_open 30 = .ok (.iconst 1, 1) := by decide +kernel
theorem dX2_open_31 : decode cX2_open 31 = .ok (.iload_n 1, 1) := by decide +kernel
theorem dX2_open_32 : decode cX2_open 32 = .ok (.ishl, 1) := by decide +kernel
theorem dX2_open_33 : decode cX2_open 33 = .ok (.ior, 1) := by decide +kernel
theorem dX2_open_34 : decode cX2_open 34 = .ok (.putfield 46, 3) := by decide +kernel
theorem dX2_open_37 : decode cX2_open 37 = .ok (.aload_n 0, 1) := by decide +kernel
theorem dX2_open_38 : decode cX2_open 38 = .ok (.dup, 1) := by decide +kernel
theorem dX2_open_39 : decode cX2_open 39 = .ok (.getfield 49, 3) := by decide +kernel
theorem dX2_open_42 : decode cX2_open 42 = .ok (.iload_n 3, 1) := by decide +kernel
theorem dX2_open_43 : decode cX2_open 43 = .ok (.ifCond .eq 9, 3) := by decide +kernel
theorem dX2_open_46 : decode cX2_open 46 = .ok (.iconst 1, 1) := by decide +kernel
theorem dX2_open_47 : decode cX2_open 47 = .ok (.iload_n 1, 1) := by decide +kernel
theorem dX2_open_48 : decode cX2_open 48 = .ok (.ishl, 1) := by decide +kernel
theorem dX2_open_49 : decode cX2_open 49 = .ok (.goto 4, 3) := by decide +kernel
theorem dX2_open_52 : decode cX2_open 52 = .ok (.iconst 0, 1) := by decide +kernel
theorem dX2_open_53 : decode cX2_open 53 = .ok (.ior, 1) := by decide +kernel
theorem dX2_open_54 : decode cX2_open 54 = .ok (.putfield 49, 3) := by decide +kernel
theorem dX2_open_57 : decode cX2_open 57 = .ok (.aload_n 0, 1) := by decide +kernel
theorem dX2_open_58 : decode cX2_open 58 = .ok (.iload_n 1, 1) := by decide +kernel
theorem dX2_open_59 : decode cX2_open 59 = .ok (.iconst 1, 1) := by decide +kernel
theorem dX2_open_60 : decode cX2_open 60 = .ok (.iadd, 1) := by decide +kernel
theorem dX2_open_61 : decode cX2_open 61 = .ok (.putfield 43, 3) := by decide +kernel
theorem dX2_open_64 : decode cX2_open 64 = .ok (.return_, 1) := by decide +kernel
theorem dX3_init_0 : decode cX3_init 0 = .ok (.aload_n 0, 1) := by decide +kernel
theorem dX3_init_1 : decode cX3_init 1 = .ok (.invokespecial 3, 3) := by decide +kernel
theorem dX3_init_4 : decode cX3_init 4 = .ok (.aload_n 0, 1) := by decide +kernel
theorem dX3_init_5 : decode cX3_init 5 = .ok (.bipush 60, 2) := by decide +kernel
theorem dX3_init_7 : decode cX3_init 7 = .ok (.newarray .long, 2) := by decide +kernel
theorem dX3_init_9 : decode cX3_init 9 = .ok (.putfield 9, 3) := by decide +kernel
theorem dX3_init_12 : decode cX3_init 12 = .ok (.aload_n 0, 1) := by decide +kernel
theorem dX3_init_13 : decode cX3_init 13 = .ok (.iconst (-1), 1) := by decide +kernel
theorem dX3_init_14 : decode cX3_init 14 = .ok (.putfield 15, 3) := by decide +kernel
theorem dX3_init_17 : decode cX3_init 17 = .ok (.aload_n 0, 1) := by decide +kernel
theorem dX3_init_18 : decode cX3_init 18 = .ok (.iconst 0, 1) := by decide +kernel
theorem dX3_init_19 : decode cX3_init 19 = .ok (.putfield 19, 3) := by decide +kernel
theorem dX3_init_22 : decode cX3_init 22 = .ok (.return_, 1) := by decide +kernel
theorem dX3_isLaid_0 : decode cX3_isLaid 0 = .ok (.aload_n 0, 1) := by decide +kernel
theorem dX3_isLaid_1 : decode cX3_isLaid 1 = .ok (.getfield 15, 3) := by decide +kernel
theorem dX3_isLaid_4 : decode cX3_isLaid 4 = .ok (.iconst (-1), 1) := by decide +kernel
theorem dX3_isLaid_5 : decode cX3_isLaid 5 = .ok (.if_icmp .eq 7, 3) := by decide +kernel
theorem dX3_isLaid_8 : decode cX3_isLaid 8 = .ok (.iconst 1, 1) := by decide +kernel
theorem dX3_isLaid_9 : decode cX3_isLaid 9 = .ok (.goto 4, 3) := by decide +kernel
theorem dX3_isLaid_12 : decode cX3_isLaid 12 = .ok (.iconst 0, 1) := by decide +kernel
theorem dX3_isLaid_13 : decode cX3_isLaid 13 = .ok (.ireturn, 1) := by decide +kernel
theorem dX3_lay_0 : decode cX3_lay 0 = .ok (.iload_n 2, 1) := by decide +kernel
theorem dX3_lay_1 : decode cX3_lay 1 = .ok (.ifCond .lt 9, 3) := by decide +kernel
theorem dX3_lay_4 : decode cX3_lay 4 = .ok (.iload_n 2, 1) := by decide +kernel
theorem dX3_lay_5 : decode cX3_lay 5 = .ok (.bipush 60, 2) := by decide +kernel
theorem dX3_lay_7 : decode cX3_lay 7 = .ok (.if_icmp .le 4, 3) := by decide +kernel
theorem dX3_lay_10 : decode cX3_lay 10 = .ok (.return_, 1) := by decide +kernel
theorem dX3_lay_11 : decode cX3_lay 11 = .ok (.aload_n 0, 1) := by decide +kernel
theorem dX3_lay_12 : decode cX3_lay 12 = .ok (.getfield 9, 3) := by decide +kernel
theorem dX3_lay_15 : decode cX3_lay 15 = .ok (.lconst 0, 1) := by decide +kernel
theorem dX3_lay_16 : decode cX3_lay 16 = .ok (.invokestatic 22, 3) := by decide +kernel
theorem dX3_lay_19 : decode cX3_lay 19 = .ok (.aload_n 0, 1) := by decide +kernel
theorem dX3_lay_20 : decode cX3_lay 20 = .ok (.iload_n 1, 1) := by decide +kernel
theorem dX3_lay_21 : decode cX3_lay 21 = .ok (.putfield 15, 3) := by decide +kernel
theorem dX3_lay_24 : decode cX3_lay 24 = .ok (.aload_n 0, 1) := by decide +kernel
theorem dX3_lay_25 : decode cX3_lay 25 = .ok (.iload_n 2, 1) := by decide +kernel
theorem dX3_lay_26 : decode cX3_lay 26 = .ok (.putfield 19, 3) := by decide +kernel
theorem dX3_lay_29 : decode cX3_lay 29 = .ok (.return_, 1) := by decide +kernel
theorem dX3_put_0 : decode cX3_put 0 = .ok (.iload_n 1, 1) := by decide +kernel
theorem dX3_put_1 : decode cX3_put 1 = .ok (.ifCond .lt 17, 3) := by decide +kernel
theorem dX3_put_4 : decode cX3_put 4 = .ok (.iload_n 1, 1) := by decide +kernel
theorem dX3_put_5 : decode cX3_put 5 = .ok (.aload_n 0, 1) := by decide +kernel
theorem dX3_put_6 : decode cX3_put 6 = .ok (.getfield 19, 3) := by decide +kernel
theorem dX3_put_9 : decode cX3_put 9 = .ok (.if_icmp .ge 9, 3) := by decide +kernel
theorem dX3_put_12 : decode cX3_put 12 = .ok (.iload_n 1, 1) := by decide +kernel
theorem dX3_put_13 : decode cX3_put 13 = .ok (.bipush 60, 2) := by decide +kernel
theorem dX3_put_15 : decode cX3_put 15 = .ok (.if_icmp .lt 5, 3) := by decide +kernel
theorem dX3_put_18 : decode cX3_put 18 = .ok (.iconst 0, 1) := by decide +kernel
theorem dX3_put_19 : decode cX3_put 19 = .ok (.ireturn, 1) := by decide +kernel
theorem dX3_put_20 : decode cX3_put 20 = .ok (.aload_n 0, 1) := by decide +kernel
theorem dX3_put_21 : decode cX3_put 21 = .ok (.getfield 9, 3) := by decide +kernel
theorem dX3_put_24 : decode cX3_put 24 = .ok (.iload_n 1, 1) := by decide +kernel
theorem dX3_put_25 : decode cX3_put 25 = .ok (.aload_n 0, 1) := by decide +kernel
theorem dX3_put_26 : decode cX3_put 26 = .ok (.lload_n 2, 1) := by decide +kernel
theorem dX3_put_27 : decode cX3_put 27 = .ok (.invokevirtual 28, 3) := by decide +kernel
theorem dX3_put_30 : decode cX3_put 30 = .ok (.lastore, 1) := by decide +kernel
theorem dX3_put_31 : decode cX3_put 31 = .ok (.iconst 1, 1) := by decide +kernel
theorem dX3_put_32 : decode cX3_put 32 = .ok (.ireturn, 1) := by decide +kernel
theorem dX3_cut_0 : decode cX3_cut 0 = .ok (.aload_n 0, 1) := by decide +kernel
theorem dX3_cut_1 : decode cX3_cut 1 = .ok (.getfield 15, 3) := by decide +kernel
theorem dX3_cut_4 : decode cX3_cut 4 = .ok (.tableswitch 42 0 2 #[28, 33, 38], 28) := by decide +kernel
theorem dX3_cut_32 : decode cX3_cut 32 = .ok (.lload_n 1, 1) := by decide +kernel
theorem dX3_cut_33 : decode cX3_cut 33 = .ok (.l2i, 1) := by decide +kernel
theorem dX3_cut_34 : decode cX3_cut 34 = .ok (.i2b, 1) := by decide +kernel
theorem dX3_cut_35 : decode cX3_cut 35 = .ok (.i2l, 1) := by decide +kernel
theorem dX3_cut_36 : decode cX3_cut 36 = .ok (.lreturn, 1) := by decide +kernel
theorem dX3_cut_37 : decode cX3_cut 37 = .ok (.lload_n 1, 1) := by decide +kernel
theorem dX3_cut_38 : decode cX3_cut 38 = .ok (.l2i, 1) := by decide +kernel
theorem dX3_cut_39 : decode cX3_cut 39 = .ok (.i2s, 1) := by decide +kernel
theorem dX3_cut_40 : decode cX3_cut 40 = .ok (.i2l, 1) := by decide +kernel
theorem dX3_cut_41 : decode cX3_cut 41 = .ok (.lreturn, 1) := by decide +kernel
theorem dX3_cut_42 : decode cX3_cut 42 = .ok (.lload_n 1, 1) := by decide +kernel
theorem dX3_cut_43 : decode cX3_cut 43 = .ok (.l2i, 1) := by decide +kernel
theorem dX3_cut_44 : decode cX3_cut 44 = .ok (.i2l, 1) := by decide +kernel
theorem dX3_cut_45 : decode cX3_cut 45 = .ok (.lreturn, 1) := by decide +kernel
theorem dX3_cut_46 : decode cX3_cut 46 = .ok (.lload_n 1, 1) := by decide +kernel
theorem dX3_cut_47 : decode cX3_cut 47 = .ok (.lreturn, 1) := by decide +kernel
theorem dX3_holds_0 : decode cX3_holds 0 = .ok (.iload_n 1, 1) := by decide +kernel
theorem dX3_holds_1 : decode cX3_holds 1 = .ok (.ifCond .lt 29, 3) := by decide +kernel
theorem dX3_holds_4 : decode cX3_holds 4 = .ok (.iload_n 2, 1) := by decide +kernel
theorem dX3_holds_5 : decode cX3_holds 5 = .ok (.ifCond .lt 25, 3) := by decide +kernel
theorem dX3_holds_8 : decode cX3_holds 8 = .ok (.iload_n 1, 1) := by decide +kernel
theorem dX3_holds_9 : decode cX3_holds 9 = .ok (.aload_n 0, 1) := by decide +kernel
theorem dX3_holds_10 : decode cX3_holds 10 = .ok (.getfield 19, 3) := by decide +kernel
theorem dX3_holds_13 : decode cX3_holds 13 = .ok (.if_icmp .gt 17, 3) := by decide +kernel
theorem dX3_holds_16 : decode cX3_holds 16 = .ok (.iload_n 2, 1) := by decide +kernel
theorem dX3_holds_17 : decode cX3_holds 17 = .ok (.aload_n 0, 1) := by decide +kernel
theorem dX3_holds_18 : decode cX3_holds 18 = .ok (.getfield 19, 3) := by decide +kernel
theorem dX3_holds_21 : decode cX3_holds 21 = .ok (.iload_n 1, 1) := by decide +kernel
theorem dX3_holds_22 : decode cX3_holds 22 = .ok (.isub, 1) := by decide +kernel
theorem dX3_holds_23 : decode cX3_holds 23 = .ok (.if_icmp .gt 7, 3) := by decide +kernel
theorem dX3_holds_26 : decode cX3_holds 26 = .ok (.iconst 1, 1) := by decide +kernel
theorem dX3_holds_27 : decode cX3_holds 27 = .ok (.goto 4, 3) := by decide +kernel
theorem dX3_holds_30 : decode cX3_holds 30 = .ok (.iconst 0, 1) := by decide +kernel
theorem dX3_holds_31 : decode cX3_holds 31 = .ok (.ireturn, 1) := by decide +kernel
theorem dX3_isInt_0 : decode cX3_isInt 0 = .ok (.iload_n 1, 1) := by decide +kernel
theorem dX3_isInt_1 : decode cX3_isInt 1 = .ok (.ifCond .lt 39, 3) := by decide +kernel
theorem dX3_isInt_4 : decode cX3_isInt 4 = .ok (.iload_n 1, 1) := by decide +kernel
theorem dX3_isInt_5 : decode cX3_isInt 5 = .ok (.aload_n 0, 1) := by decide +kernel
theorem dX3_isInt_6 : decode cX3_isInt 6 = .ok (.getfield 19, 3) := by decide +kernel
theorem dX3_isInt_9 : decode cX3_isInt 9 = .ok (.if_icmp .ge 31, 3) := by decide +kernel
theorem dX3_isInt_12 : decode cX3_isInt 12 = .ok (.iload_n 1, 1) := by decide +kernel
theorem dX3_isInt_13 : decode cX3_isInt 13 = .ok (.bipush 60, 2) := by decide +kernel
theorem dX3_isInt_15 : decode cX3_isInt 15 = .ok (.if_icmp .ge 25, 3) := by decide +kernel
theorem dX3_isInt_18 : decode cX3_isInt 18 = .ok (.aload_n 0, 1) := by decide +kernel
theorem dX3_isInt_19 : decode cX3_isInt 19 = .ok (.getfield 9, 3) := by decide +kernel
theorem dX3_isInt_22 : decode cX3_isInt 22 = .ok (.iload_n 1, 1) := by decide +kernel
theorem dX3_isInt_23 : decode cX3_isInt 23 = .ok (.laload, 1) := by decide +kernel
theorem dX3_isInt_24 : decode cX3_isInt 24 = .ok (.aload_n 0, 1) := by decide +kernel
theorem dX3_isInt_25 : decode cX3_isInt 25 = .ok (.getfield 9, 3) := by decide +kernel
theorem dX3_isInt_28 : decode cX3_isInt 28 = .ok (.iload_n 1, 1) := by decide +kernel
theorem dX3_isInt_29 : decode cX3_isInt 29 = .ok (.laload, 1) := by decide +kernel
theorem dX3_isInt_30 : decode cX3_isInt 30 = .ok (.l2i, 1) := by decide +kernel
theorem dX3_isInt_31 : decode cX3_isInt 31 = .ok (.i2l, 1) := by decide +kernel
theorem dX3_isInt_32 : decode cX3_isInt 32 = .ok (.lcmp, 1) := by decide +kernel
theorem dX3_isInt_33 : decode cX3_isInt 33 = .ok (.ifCond .ne 7, 3) := by decide +kernel
theorem dX3_isInt_36 : decode cX3_isInt 36 = .ok (.iconst 1, 1) := by decide +kernel
theorem dX3_isInt_37 : decode cX3_isInt 37 = .ok (.goto 4, 3) := by decide +kernel
theorem dX3_isInt_40 : decode cX3_isInt 40 = .ok (.iconst 0, 1) := by decide +kernel
theorem dX3_isInt_41 : decode cX3_isInt 41 = .ok (.ireturn, 1) := by decide +kernel
theorem dX3_intAt_0 : decode cX3_intAt 0 = .ok (.aload_n 0, 1) := by decide +kernel
theorem dX3_intAt_1 : decode cX3_intAt 1 = .ok (.iload_n 1, 1) := by decide +kernel
theorem dX3_intAt_2 : decode cX3_intAt 2 = .ok (.invokevirtual 32, 3) := by decide +kernel
theorem dX3_intAt_5 : decode cX3_intAt 5 = .ok (.ifCond .eq 13, 3) := by decide +kernel
theorem dX3_intAt_8 : decode cX3_intAt 8 = .ok (.aload_n 0, 1) := by decide +kernel
theorem dX3_intAt_9 : decode cX3_intAt 9 = .ok (.getfield 9, 3) := by decide +kernel
theorem dX3_intAt_12 : decode cX3_intAt 12 = .ok (.iload_n 1, 1) := by decide +kernel
theorem dX3_intAt_13 : decode cX3_intAt 13 = .ok (.laload, 1) := by decide +kernel
theorem dX3_intAt_14 : decode cX3_intAt 14 = .ok (.l2i, 1) := by decide +kernel
theorem dX3_intAt_15 : decode cX3_intAt 15 = .ok (.goto 4, 3) := by decide +kernel
theorem dX3_intAt_18 : decode cX3_intAt 18 = .ok (.iconst (-1), 1) := by decide +kernel
theorem dX3_intAt_19 : decode cX3_intAt 19 = .ok (.ireturn, 1) := by decide +kernel
theorem dJ9_floorMod_7cf53_0 : decode cJ9_floorMod_7cf53 0 = .ok (.iload_n 0, 1) := by decide +kernel
theorem dJ9_floorMod_7cf53_1 : decode cJ9_floorMod_7cf53 1 = .ok (.iload_n 1, 1) := by decide +kernel
theorem dJ9_floorMod_7cf53_2 : decode cJ9_floorMod_7cf53 2 = .ok (.irem, 1) := by decide +kernel
theorem dJ9_floorMod_7cf53_3 : decode cJ9_floorMod_7cf53 3 = .ok (.istore_n 2, 1) := by decide +kernel
theorem dJ9_floorMod_7cf53_4 : decode cJ9_floorMod_7cf53 4 = .ok (.iload_n 0, 1) := by decide +kernel
theorem dJ9_floorMod_7cf53_5 : decode cJ9_floorMod_7cf53 5 = .ok (.iload_n 1, 1) := by decide +kernel
theorem dJ9_floorMod_7cf53_6 : decode cJ9_floorMod_7cf53 6 = .ok (.ixor, 1) := by decide +kernel
theorem dJ9_floorMod_7cf53_7 : decode cJ9_floorMod_7cf53 7 = .ok (.ifCond .ge 11, 3) := by decide +kernel
theorem dJ9_floorMod_7cf53_10 : decode cJ9_floorMod_7cf53 10 = .ok (.iload_n 2, 1) := by decide +kernel
theorem dJ9_floorMod_7cf53_11 : decode cJ9_floorMod_7cf53 11 = .ok (.ifCond .eq 7, 3) := by decide +kernel
theorem dJ9_floorMod_7cf53_14 : decode cJ9_floorMod_7cf53 14 = .ok (.iload_n 2, 1) := by decide +kernel
theorem dJ9_floorMod_7cf53_15 : decode cJ9_floorMod_7cf53 15 = .ok (.iload_n 1, 1) := by decide +kernel
theorem dJ9_floorMod_7cf53_16 : decode cJ9_floorMod_7cf53 16 = .ok (.iadd, 1) := by decide +kernel
theorem dJ9_floorMod_7cf53_17 : decode cJ9_floorMod_7cf53 17 = .ok (.ireturn, 1) := by decide +kernel
theorem dJ9_floorMod_7cf53_18 : decode cJ9_floorMod_7cf53 18 = .ok (.iload_n 2, 1) := by decide +kernel
theorem dJ9_floorMod_7cf53_19 : decode cJ9_floorMod_7cf53 19 = .ok (.ireturn, 1) := by decide +kernel
theorem dJ9_min_7cf53_0 : decode cJ9_min_7cf53 0 = .ok (.iload_n 0, 1) := by decide +kernel
theorem dJ9_min_7cf53_1 : decode cJ9_min_7cf53 1 = .ok (.iload_n 1, 1) := by decide +kernel
theorem dJ9_min_7cf53_2 : decode cJ9_min_7cf53 2 = .ok (.if_icmp .gt 7, 3) := by decide +kernel
theorem dJ9_min_7cf53_5 : decode cJ9_min_7cf53 5 = .ok (.iload_n 0, 1) := by decide +kernel
theorem dJ9_min_7cf53_6 : decode cJ9_min_7cf53 6 = .ok (.goto 4, 3) := by decide +kernel
theorem dJ9_min_7cf53_9 : decode cJ9_min_7cf53 9 = .ok (.iload_n 1, 1) := by decide +kernel
theorem dJ9_min_7cf53_10 : decode cJ9_min_7cf53 10 = .ok (.ireturn, 1) := by decide +kernel
theorem dJ7_fill_d0a16_0 : decode cJ7_fill_d0a16 0 = .ok (.iconst 0, 1) := by decide +kernel
theorem dJ7_fill_d0a16_1 : decode cJ7_fill_d0a16 1 = .ok (.istore_n 3, 1) := by decide +kernel
theorem dJ7_fill_d0a16_2 : decode cJ7_fill_d0a16 2 = .ok (.aload_n 0, 1) := by decide +kernel
theorem dJ7_fill_d0a16_3 : decode cJ7_fill_d0a16 3 = .ok (.arraylength, 1) := by decide +kernel
theorem dJ7_fill_d0a16_4 : decode cJ7_fill_d0a16 4 = .ok (.istore 4, 2) := by decide +kernel
theorem dJ7_fill_d0a16_6 : decode cJ7_fill_d0a16 6 = .ok (.iload_n 3, 1) := by decide +kernel
theorem dJ7_fill_d0a16_7 : decode cJ7_fill_d0a16 7 = .ok (.iload 4, 2) := by decide +kernel
theorem dJ7_fill_d0a16_9 : decode cJ7_fill_d0a16 9 = .ok (.if_icmp .ge 13, 3) := by decide +kernel
theorem dJ7_fill_d0a16_12 : decode cJ7_fill_d0a16 12 = .ok (.aload_n 0, 1) := by decide +kernel
theorem dJ7_fill_d0a16_13 : decode cJ7_fill_d0a16 13 = .ok (.iload_n 3, 1) := by decide +kernel
theorem dJ7_fill_d0a16_14 : decode cJ7_fill_d0a16 14 = .ok (.lload_n 1, 1) := by decide +kernel
theorem dJ7_fill_d0a16_15 : decode cJ7_fill_d0a16 15 = .ok (.lastore, 1) := by decide +kernel
theorem dJ7_fill_d0a16_16 : decode cJ7_fill_d0a16 16 = .ok (.iinc 3 1, 3) := by decide +kernel
theorem dJ7_fill_d0a16_19 : decode cJ7_fill_d0a16 19 = .ok (.goto (-13), 3) := by decide +kernel
theorem dJ7_fill_d0a16_22 : decode cJ7_fill_d0a16 22 = .ok (.return_, 1) := by decide +kernel
theorem dJ7_fill_53178_0 : decode cJ7_fill_53178 0 = .ok (.iconst 0, 1) := by decide +kernel
theorem dJ7_fill_53178_1 : decode cJ7_fill_53178 1 = .ok (.istore_n 2, 1) := by decide +kernel
theorem dJ7_fill_53178_2 : decode cJ7_fill_53178 2 = .ok (.aload_n 0, 1) := by decide +kernel
theorem dJ7_fill_53178_3 : decode cJ7_fill_53178 3 = .ok (.arraylength, 1) := by decide +kernel
theorem dJ7_fill_53178_4 : decode cJ7_fill_53178 4 = .ok (.istore_n 3, 1) := by decide +kernel
theorem dJ7_fill_53178_5 : decode cJ7_fill_53178 5 = .ok (.iload_n 2, 1) := by decide +kernel
theorem dJ7_fill_53178_6 : decode cJ7_fill_53178 6 = .ok (.iload_n 3, 1) := by decide +kernel
theorem dJ7_fill_53178_7 : decode cJ7_fill_53178 7 = .ok (.if_icmp .ge 13, 3) := by decide +kernel
theorem dJ7_fill_53178_10 : decode cJ7_fill_53178 10 = .ok (.aload_n 0, 1) := by decide +kernel
theorem dJ7_fill_53178_11 : decode cJ7_fill_53178 11 = .ok (.iload_n 2, 1) := by decide +kernel
theorem dJ7_fill_53178_12 : decode cJ7_fill_53178 12 = .ok (.iload_n 1, 1) := by decide +kernel
theorem dJ7_fill_53178_13 : decode cJ7_fill_53178 13 = .ok (.iastore, 1) := by decide +kernel
theorem dJ7_fill_53178_14 : decode cJ7_fill_53178 14 = .ok (.iinc 2 1, 3) := by decide +kernel
theorem dJ7_fill_53178_17 : decode cJ7_fill_53178 17 = .ok (.goto (-12), 3) := by decide +kernel
theorem dJ7_fill_53178_20 : decode cJ7_fill_53178 20 = .ok (.return_, 1) := by decide +kernel
