theorem dX4_init_0 : decode cX4_init 0 = .ok (.aload_n 0, 1) := by decide +kernel
theorem dX4_init_1 : decode cX4_init 1 = .ok (.invokespecial 5, 3) := by decide +kernel
theorem dX4_init_4 : decode cX4_init 4 = .ok (.aload_n 0, 1) := by decide +kernel
theorem dX4_init_5 : decode cX4_init 5 = .ok (.sipush 494, 3) := by decide +kernel
theorem dX4_init_8 : decode cX4_init 8 = .ok (.newarray .int, 2) := by decide +kernel
theorem dX4_init_10 : decode cX4_init 10 = .ok (.putfield 11, 3) := by decide +kernel
theorem dX4_init_13 : decode cX4_init 13 = .ok (.aload_n 0, 1) := by decide +kernel
theorem dX4_init_14 : decode cX4_init 14 = .ok (.aload_n 1, 1) := by decide +kernel
theorem dX4_init_15 : decode cX4_init 15 = .ok (.putfield 15, 3) := by decide +kernel
theorem dX4_init_18 : decode cX4_init 18 = .ok (.aload_n 0, 1) := by decide +kernel
theorem dX4_init_19 : decode cX4_init 19 = .ok (.aload_n 2, 1) := by decide +kernel
theorem dX4_init_20 : decode cX4_init 20 = .ok (.putfield 19, 3) := by decide +kernel
theorem dX4_init_23 : decode cX4_init 23 = .ok (.return_, 1) := by decide +kernel
theorem dX4_time_0 : decode cX4_time 0 = .ok (.aload_n 0, 1) := by decide +kernel
theorem dX4_time_1 : decode cX4_time 1 = .ok (.getfield 11, 3) := by decide +kernel
theorem dX4_time_4 : decode cX4_time 4 = .ok (.iconst 0, 1) := by decide +kernel
theorem dX4_time_5 : decode cX4_time 5 = .ok (.iaload, 1) := by decide +kernel
theorem dX4_time_6 : decode cX4_time 6 = .ok (.ireturn, 1) := by decide +kernel
theorem dX4_notes_0 : decode cX4_notes 0 = .ok (.aload_n 0, 1) := by decide +kernel
theorem dX4_notes_1 : decode cX4_notes 1 = .ok (.getfield 11, 3) := by decide +kernel
theorem dX4_notes_4 : decode cX4_notes 4 = .ok (.iconst 1, 1) := by decide +kernel
theorem dX4_notes_5 : decode cX4_notes 5 = .ok (.iaload, 1) := by decide +kernel
theorem dX4_notes_6 : decode cX4_notes 6 = .ok (.ireturn, 1) := by decide +kernel
theorem dX4_families_0 : decode cX4_families 0 = .ok (.aload_n 0, 1) := by decide +kernel
theorem dX4_families_1 : decode cX4_families 1 = .ok (.getfield 11, 3) := by decide +kernel
theorem dX4_families_4 : decode cX4_families 4 = .ok (.iconst 2, 1) := by decide +kernel
theorem dX4_families_5 : decode cX4_families 5 = .ok (.iaload, 1) := by decide +kernel
theorem dX4_families_6 : decode cX4_families 6 = .ok (.ireturn, 1) := by decide +kernel
theorem dX4_letters_0 : decode cX4_letters 0 = .ok (.aload_n 0, 1) := by decide +kernel
theorem dX4_letters_1 : decode cX4_letters 1 = .ok (.getfield 11, 3) := by decide +kernel
theorem dX4_letters_4 : decode cX4_letters 4 = .ok (.iconst 3, 1) := by decide +kernel
theorem dX4_letters_5 : decode cX4_letters 5 = .ok (.iaload, 1) := by decide +kernel
theorem dX4_letters_6 : decode cX4_letters 6 = .ok (.ireturn, 1) := by decide +kernel
theorem dX4_isNote_0 : decode cX4_isNote 0 = .ok (.iload_n 1, 1) := by decide +kernel
theorem dX4_isNote_1 : decode cX4_isNote 1 = .ok (.ifCond .lt 23, 3) := by decide +kernel
theorem dX4_isNote_4 : decode cX4_isNote 4 = .ok (.iload_n 1, 1) := by decide +kernel
theorem dX4_isNote_5 : decode cX4_isNote 5 = .ok (.aload_n 0, 1) := by decide +kernel
theorem dX4_isNote_6 : decode cX4_isNote 6 = .ok (.getfield 11, 3) := by decide +kernel
theorem dX4_isNote_9 : decode cX4_isNote 9 = .ok (.iconst 1, 1) := by decide +kernel
theorem dX4_isNote_10 : decode cX4_isNote 10 = .ok (.iaload, 1) := by decide +kernel
theorem dX4_isNote_11 : decode cX4_isNote 11 = .ok (.if_icmp .ge 13, 3) := by decide +kernel
theorem dX4_isNote_14 : decode cX4_isNote 14 = .ok (.iload_n 1, 1) := by decide +kernel
theorem dX4_isNote_15 : decode cX4_isNote 15 = .ok (.bipush 32, 2) := by decide +kernel
theorem dX4_isNote_17 : decode cX4_isNote 17 = .ok (.if_icmp .ge 7, 3) := by decide +kernel
theorem dX4_isNote_20 : decode cX4_isNote 20 = .ok (.iconst 1, 1) := by decide +kernel
theorem dX4_isNote_21 : decode cX4_isNote 21 = .ok (.goto 4, 3) := by decide +kernel
theorem dX4_isNote_24 : decode cX4_isNote 24 = .ok (.iconst 0, 1) := by decide +kernel
theorem dX4_isNote_25 : decode cX4_isNote 25 = .ok (.ireturn, 1) := by decide +kernel
theorem dX4_isFamily_0 : decode cX4_isFamily 0 = .ok (.iload_n 1, 1) := by decide +kernel
theorem dX4_isFamily_1 : decode cX4_isFamily 1 = .ok (.ifCond .lt 23, 3) := by decide +kernel
theorem dX4_isFamily_4 : decode cX4_isFamily 4 = .ok (.iload_n 1, 1) := by decide +kernel
theorem dX4_isFamily_5 : decode cX4_isFamily 5 = .ok (.aload_n 0, 1) := by decide +kernel
theorem dX4_isFamily_6 : decode cX4_isFamily 6 = .ok (.getfield 11, 3) := by decide +kernel
theorem dX4_isFamily_9 : decode cX4_isFamily 9 = .ok (.iconst 2, 1) := by decide +kernel
theorem dX4_isFamily_10 : decode cX4_isFamily 10 = .ok (.iaload, 1) := by decide +kernel
theorem dX4_isFamily_11 : decode cX4_isFamily 11 = .ok (.if_icmp .ge 13, 3) := by decide +kernel
theorem dX4_isFamily_14 : decode cX4_isFamily 14 = .ok (.iload_n 1, 1) := by decide +kernel
theorem dX4_isFamily_15 : decode cX4_isFamily 15 = .ok (.bipush 16, 2) := by decide +kernel
theorem dX4_isFamily_17 : decode cX4_isFamily 17 = .ok (.if_icmp .ge 7, 3) := by decide +kernel
theorem dX4_isFamily_20 : decode cX4_isFamily 20 = .ok (.iconst 1, 1) := by decide +kernel
theorem dX4_isFamily_21 : decode cX4_isFamily 21 = .ok (.goto 4, 3) := by decide +kernel
theorem dX4_isFamily_24 : decode cX4_isFamily 24 = .ok (.iconst 0, 1) := by decide +kernel
theorem dX4_isFamily_25 : decode cX4_isFamily 25 = .ok (.ireturn, 1) := by decide +kernel
theorem dX4_isLetter_0 : decode cX4_isLetter 0 = .ok (.iload_n 1, 1) := by decide +kernel
theorem dX4_isLetter_1 : decode cX4_isLetter 1 = .ok (.ifCond .lt 23, 3) := by decide +kernel
theorem dX4_isLetter_4 : decode cX4_isLetter 4 = .ok (.iload_n 1, 1) := by decide +kernel
theorem dX4_isLetter_5 : decode cX4_isLetter 5 = .ok (.aload_n 0, 1) := by decide +kernel
theorem dX4_isLetter_6 : decode cX4_isLetter 6 = .ok (.getfield 11, 3) := by decide +kernel
theorem dX4_isLetter_9 : decode cX4_isLetter 9 = .ok (.iconst 3, 1) := by decide +kernel
theorem dX4_isLetter_10 : decode cX4_isLetter 10 = .ok (.iaload, 1) := by decide +kernel
theorem dX4_isLetter_11 : decode cX4_isLetter 11 = .ok (.if_icmp .ge 13, 3) := by decide +kernel
theorem dX4_isLetter_14 : decode cX4_isLetter 14 = .ok (.iload_n 1, 1) := by decide +kernel
theorem dX4_isLetter_15 : decode cX4_isLetter 15 = .ok (.bipush 12, 2) := by decide +kernel
theorem dX4_isLetter_17 : decode cX4_isLetter 17 = .ok (.if_icmp .ge 7, 3) := by decide +kernel
theorem dX4_isLetter_20 : decode cX4_isLetter 20 = .ok (.iconst 1, 1) := by decide +kernel
theorem dX4_isLetter_21 : decode cX4_isLetter 21 = .ok (.goto 4, 3) := by decide +kernel
theorem dX4_isLetter_24 : decode cX4_isLetter 24 = .ok (.iconst 0, 1) := by decide +kernel
theorem dX4_isLetter_25 : decode cX4_isLetter 25 = .ok (.ireturn, 1) := by decide +kernel
theorem dX4_noteWord_0 : decode cX4_noteWord 0 = .ok (.aload_n 0, 1) := by decide +kernel
theorem dX4_noteWord_1 : decode cX4_noteWord 1 = .ok (.iload_n 1, 1) := by decide +kernel
theorem dX4_noteWord_2 : decode cX4_noteWord 2 = .ok (.invokevirtual 23, 3) := by decide +kernel
theorem dX4_noteWord_5 : decode cX4_noteWord 5 = .ok (.ifCond .eq 17, 3) := by decide +kernel
theorem dX4_noteWord_8 : decode cX4_noteWord 8 = .ok (.iload_n 2, 1) := by decide +kernel
theorem dX4_noteWord_9 : decode cX4_noteWord 9 = .ok (.ifCond .lt 13, 3) := by decide +kernel
theorem dX4_noteWord_12 : decode cX4_noteWord 12 = .ok (.iload_n 2, 1) := by decide +kernel
theorem dX4_noteWord_13 : decode cX4_noteWord 13 = .ok (.bipush 11, 2) := by decide +kernel
theorem dX4_noteWord_15 : decode cX4_noteWord 15 = .ok (.if_icmp .ge 7, 3) := by decide +kernel
theorem dX4_noteWord_18 : decode cX4_noteWord 18 = .ok (.iconst 1, 1) := by decide +kernel
theorem dX4_noteWord_19 : decode cX4_noteWord 19 = .ok (.goto 4, 3) := by decide +kernel
theorem dX4_noteWord_22 : decode cX4_noteWord 22 = .ok (.iconst 0, 1) := by decide +kernel
theorem dX4_noteWord_23 : decode cX4_noteWord 23 = .ok (.istore_n 3, 1) := by decide +kernel
theorem dX4_noteWord_24 : decode cX4_noteWord 24 = .ok (.iload_n 3, 1) := by decide +kernel
theorem dX4_noteWord_25 : decode cX4_noteWord 25 = .ok (.ifCond .eq 21, 3) := by decide +kernel
theorem dX4_noteWord_28 : decode cX4_noteWord 28 = .ok (.aload_n 0, 1) := by decide +kernel
theorem dX4_noteWord_29 : decode cX4_noteWord 29 = .ok (.getfield 11, 3) := by decide +kernel
theorem dX4_noteWord_32 : decode cX4_noteWord 32 = .ok (.sipush 142, 3) := by decide +kernel
theorem dX4_noteWord_35 : decode cX4_noteWord 35 = .ok (.iload_n 1, 1) := by decide +kernel
theorem dX4_noteWord_36 : decode cX4_noteWord 36 = .ok (.bipush 11, 2) := by decide +kernel
theorem dX4_noteWord_38 : decode cX4_noteWord 38 = .ok (.imul, 1) := by decide +kernel
theorem dX4_noteWord_39 : decode cX4_noteWord 39 = .ok (.iadd, 1) := by decide +kernel
theorem dX4_noteWord_40 : decode cX4_noteWord 40 = .ok (.iload_n 2, 1) := by decide +kernel
theorem dX4_noteWord_41 : decode cX4_noteWord 41 = .ok (.iadd, 1) := by decide +kernel
theorem dX4_noteWord_42 : decode cX4_noteWord 42 = .ok (.iaload, 1) := by decide +kernel
theorem dX4_noteWord_43 : decode cX4_noteWord 43 = .ok (.goto 4, 3) := by decide +kernel
theorem dX4_noteWord_46 : decode cX4_noteWord 46 = .ok (.iconst (-1), 1) := by decide +kernel
theorem dX4_noteWord_47 : decode cX4_noteWord 47 = .ok (.ireturn, 1) := by decide +kernel
theorem dX4_familyWord_0 : decode cX4_familyWord 0 = .ok (.aload_n 0, 1) := by decide +kernel
theorem dX4_familyWord_1 : decode cX4_familyWord 1 = .ok (.iload_n 1, 1) := by decide +kernel
theorem dX4_familyWord_2 : decode cX4_familyWord 2 = .ok (.invokevirtual 27, 3) := by decide +kernel
theorem dX4_familyWord_5 : decode cX4_familyWord 5 = .ok (.ifCond .eq 16, 3) := by decide +kernel
theorem dX4_familyWord_8 : decode cX4_familyWord 8 = .ok (.iload_n 2, 1) := by decide +kernel
theorem dX4_familyWord_9 : decode cX4_familyWord 9 = .ok (.ifCond .lt 12, 3) := by decide +kernel
theorem dX4_familyWord_12 : decode cX4_familyWord 12 = .ok (.iload_n 2, 1) := by decide +kernel
theorem dX4_familyWord_13 : decode cX4_familyWord 13 = .ok (.iconst 2, 1) := by decide +kernel
theorem dX4_familyWord_14 : decode cX4_familyWord 14 = .ok (.if_icmp .ge 7, 3) := by decide +kernel
theorem dX4_familyWord_17 : decode cX4_familyWord 17 = .ok (.iconst 1, 1) := by decide +kernel
theorem dX4_familyWord_18 : decode cX4_familyWord 18 = .ok (.goto 4, 3) := by decide +kernel
theorem dX4_familyWord_21 : decode cX4_familyWord 21 = .ok (.iconst 0, 1) := by decide +kernel
theorem dX4_familyWord_22 : decode cX4_familyWord 22 = .ok (.istore_n 3, 1) := by decide +kernel
theorem dX4_familyWord_23 : decode cX4_familyWord 23 = .ok (.iload_n 3, 1) := by decide +kernel
theorem dX4_familyWord_24 : decode cX4_familyWord 24 = .ok (.ifCond .eq 19, 3) := by decide +kernel
theorem dX4_familyWord_27 : decode cX4_familyWord 27 = .ok (.aload_n 0, 1) := by decide +kernel
theorem dX4_familyWord_28 : decode cX4_familyWord 28 = .ok (.getfield 11, 3) := by decide +kernel
theorem dX4_familyWord_31 : decode cX4_familyWord 31 = .ok (.bipush 26, 2) := by decide +kernel
theorem dX4_familyWord_33 : decode cX4_familyWord 33 = .ok (.iload_n 1, 1) := by decide +kernel
theorem dX4_familyWord_34 : decode cX4_familyWord 34 = .ok (.iconst 2, 1) := by decide +kernel
theorem dX4_familyWord_35 : decode cX4_familyWord 35 = .ok (.imul, 1) := by decide +kernel
theorem dX4_familyWord_36 : decode cX4_familyWord 36 = .ok (.iadd, 1) := by decide +kernel
theorem dX4_familyWord_37 : decode cX4_familyWord 37 = .ok (.iload_n 2, 1) := by decide +kernel
theorem dX4_familyWord_38 : decode cX4_familyWord 38 = .ok (.iadd, 1) := by decide +kernel
theorem dX4_familyWord_39 : decode cX4_familyWord 39 = .ok (.iaload, 1) := by decide +kernel
theorem dX4_familyWord_40 : decode cX4_familyWord 40 = .ok (.goto 4, 3) := by decide +kernel
theorem dX4_familyWord_43 : decode cX4_familyWord 43 = .ok (.iconst (-1), 1) := by decide +kernel
theorem dX4_familyWord_44 : decode cX4_familyWord 44 = .ok (.ireturn, 1) := by decide +kernel
theorem dX4_letterWord_0 : decode cX4_letterWord 0 = .ok (.aload_n 0, 1) := by decide +kernel
theorem dX4_letterWord_1 : decode cX4_letterWord 1 = .ok (.iload_n 1, 1) := by decide +kernel
theorem dX4_letterWord_2 : decode cX4_letterWord 2 = .ok (.invokevirtual 30, 3) := by decide +kernel
theorem dX4_letterWord_5 : decode cX4_letterWord 5 = .ok (.ifCond .eq 17, 3) := by decide +kernel
theorem dX4_letterWord_8 : decode cX4_letterWord 8 = .ok (.iload_n 2, 1) := by decide +kernel
theorem dX4_letterWord_9 : decode cX4_letterWord 9 = .ok (.ifCond .lt 13, 3) := by decide +kernel
theorem dX4_letterWord_12 : decode cX4_letterWord 12 = .ok (.iload_n 2, 1) := by decide +kernel
theorem dX4_letterWord_13 : decode cX4_letterWord 13 = .ok (.bipush 7, 2) := by decide +kernel
theorem dX4_letterWord_15 : decode cX4_letterWord 15 = .ok (.if_icmp .ge 7, 3) := by decide +kernel
theorem dX4_letterWord_18 : decode cX4_letterWord 18 = .ok (.iconst 1, 1) := by decide +kernel
theorem dX4_letterWord_19 : decode cX4_letterWord 19 = .ok (.goto 4, 3) := by decide +kernel
theorem dX4_letterWord_22 : decode cX4_letterWord 22 = .ok (.iconst 0, 1) := by decide +kernel
theorem dX4_letterWord_23 : decode cX4_letterWord 23 = .ok (.istore_n 3, 1) := by decide +kernel
theorem dX4_letterWord_24 : decode cX4_letterWord 24 = .ok (.iload_n 3, 1) := by decide +kernel
theorem dX4_letterWord_25 : decode cX4_letterWord 25 = .ok (.ifCond .eq 20, 3) := by decide +kernel
theorem dX4_letterWord_28 : decode cX4_letterWord 28 = .ok (.aload_n 0, 1) := by decide +kernel
theorem dX4_letterWord_29 : decode cX4_letterWord 29 = .ok (.getfield 11, 3) := by decide +kernel
theorem dX4_letterWord_32 : decode cX4_letterWord 32 = .ok (.bipush 58, 2) := by decide +kernel
theorem dX4_letterWord_34 : decode cX4_letterWord 34 = .ok (.iload_n 1, 1) := by decide +kernel
theorem dX4_letterWord_35 : decode cX4_letterWord 35 = .ok (.bipush 7, 2) := by decide +kernel
theorem dX4_letterWord_37 : decode cX4_letterWord 37 = .ok (.imul, 1) := by decide +kernel
theorem dX4_letterWord_38 : decode cX4_letterWord 38 = .ok (.iadd, 1) := by decide +kernel
theorem dX4_letterWord_39 : decode cX4_letterWord 39 = .ok (.iload_n 2, 1) := by decide +kernel
theorem dX4_letterWord_40 : decode cX4_letterWord 40 = .ok (.iadd, 1) := by decide +kernel
theorem dX4_letterWord_41 : decode cX4_letterWord 41 = .ok (.iaload, 1) := by decide +kernel
theorem dX4_letterWord_42 : decode cX4_letterWord 42 = .ok (.goto 4, 3) := by decide +kernel
theorem dX4_letterWord_45 : decode cX4_letterWord 45 = .ok (.iconst (-1), 1) := by decide +kernel
theorem dX4_letterWord_46 : decode cX4_letterWord 46 = .ok (.ireturn, 1) := by decide +kernel
theorem dX4_houseWord_0 : decode cX4_houseWord 0 = .ok (.iload_n 1, 1) := by decide +kernel
theorem dX4_houseWord_1 : decode cX4_houseWord 1 = .ok (.ifCond .lt 21, 3) := by decide +kernel
theorem dX4_houseWord_4 : decode cX4_houseWord 4 = .ok (.iload_n 1, 1) := by decide +kernel
theorem dX4_houseWord_5 : decode cX4_houseWord 5 = .ok (.iconst 4, 1) := by decide +kernel
theorem dX4_houseWord_6 : decode cX4_houseWord 6 = .ok (.if_icmp .ge 16, 3) := by decide +kernel
theorem dX4_houseWord_9 : decode cX4_houseWord 9 = .ok (.iload_n 2, 1) := by decide +kernel
theorem dX4_houseWord_10 : decode cX4_houseWord 10 = .ok (.ifCond .lt 12, 3) := by decide +kernel
theorem dX4_houseWord_13 : decode cX4_houseWord 13 = .ok (.iload_n 2, 1) := by decide +kernel
theorem dX4_houseWord_14 : decode cX4_houseWord 14 = .ok (.iconst 3, 1) := by decide +kernel
theorem dX4_houseWord_15 : decode cX4_houseWord 15 = .ok (.if_icmp .ge 7, 3) := by decide +kernel
theorem dX4_houseWord_18 : decode cX4_houseWord 18 = .ok (.iconst 1, 1) := by decide +kernel
theorem dX4_houseWord_19 : decode cX4_houseWord 19 = .ok (.goto 4, 3) := by decide +kernel
theorem dX4_houseWord_22 : decode cX4_houseWord 22 = .ok (.iconst 0, 1) := by decide +kernel
theorem dX4_houseWord_23 : decode cX4_houseWord 23 = .ok (.istore_n 3, 1) := by decide +kernel
theorem dX4_houseWord_24 : decode cX4_houseWord 24 = .ok (.iload_n 3, 1) := by decide +kernel
theorem dX4_houseWord_25 : decode cX4_houseWord 25 = .ok (.ifCond .eq 18, 3) := by decide +kernel
theorem dX4_houseWord_28 : decode cX4_houseWord 28 = .ok (.aload_n 0, 1) := by decide +kernel
theorem dX4_houseWord_29 : decode cX4_houseWord 29 = .ok (.getfield 11, 3) := by decide +kernel
theorem dX4_houseWord_32 : decode cX4_houseWord 32 = .ok (.iconst 4, 1) := by decide +kernel
theorem dX4_houseWord_33 : decode cX4_houseWord 33 = .ok (.iload_n 1, 1) := by decide +kernel
theorem dX4_houseWord_34 : decode cX4_houseWord 34 = .ok (.iconst 3, 1) := by decide +kernel
theorem dX4_houseWord_35 : decode cX4_houseWord 35 = .ok (.imul, 1) := by decide +kernel
theorem dX4_houseWord_36 : decode cX4_houseWord 36 = .ok (.iadd, 1) := by decide +kernel
theorem dX4_houseWord_37 : decode cX4_houseWord 37 = .ok (.iload_n 2, 1) := by decide +kernel
theorem dX4_houseWord_38 : decode cX4_houseWord 38 = .ok (.iadd, 1) := by decide +kernel
theorem dX4_houseWord_39 : decode cX4_houseWord 39 = .ok (.iaload, 1) := by decide +kernel
theorem dX4_houseWord_40 : decode cX4_houseWord 40 = .ok (.goto 4, 3) := by decide +kernel
theorem dX4_houseWord_43 : decode cX4_houseWord 43 = .ok (.iconst (-1), 1) := by decide +kernel
theorem dX4_houseWord_44 : decode cX4_houseWord 44 = .ok (.ireturn, 1) := by decide +kernel
theorem dX4_pairOf_0 : decode cX4_pairOf 0 = .ok (.iload_n 1, 1) := by decide +kernel
theorem dX4_pairOf_1 : decode cX4_pairOf 1 = .ok (.invokestatic 33, 3) := by decide +kernel
theorem dX4_pairOf_4 : decode cX4_pairOf 4 = .ok (.ifCond .eq 19, 3) := by decide +kernel
theorem dX4_pairOf_7 : decode cX4_pairOf 7 = .ok (.aload_n 0, 1) := by decide +kernel
theorem dX4_pairOf_8 : decode cX4_pairOf 8 = .ok (.getfield 11, 3) := by decide +kernel
theorem dX4_pairOf_11 : decode cX4_pairOf 11 = .ok (.bipush 16, 2) := by decide +kernel
theorem dX4_pairOf_13 : decode cX4_pairOf 13 = .ok (.iload_n 1, 1) := by decide +kernel
theorem dX4_pairOf_14 : decode cX4_pairOf 14 = .ok (.iconst 2, 1) := by decide +kernel
theorem dX4_pairOf_15 : decode cX4_pairOf 15 = .ok (.imul, 1) := by decide +kernel
theorem dX4_pairOf_16 : decode cX4_pairOf 16 = .ok (.iadd, 1) := by decide +kernel
theorem dX4_pairOf_17 : decode cX4_pairOf 17 = .ok (.iconst 0, 1) := by decide +kernel
theorem dX4_pairOf_18 : decode cX4_pairOf 18 = .ok (.iadd, 1) := by decide +kernel
theorem dX4_pairOf_19 : decode cX4_pairOf 19 = .ok (.iaload, 1) := by decide +kernel
theorem dX4_pairOf_20 : decode cX4_pairOf 20 = .ok (.goto 4, 3) := by decide +kernel
theorem dX4_pairOf_23 : decode cX4_pairOf 23 = .ok (.iconst 0, 1) := by decide +kernel
theorem dX4_pairOf_24 : decode cX4_pairOf 24 = .ok (.ireturn, 1) := by decide +kernel
theorem dX4_knownPair_0 : decode cX4_knownPair 0 = .ok (.iload_n 1, 1) := by decide +kernel
theorem dX4_knownPair_1 : decode cX4_knownPair 1 = .ok (.invokestatic 33, 3) := by decide +kernel
theorem dX4_knownPair_4 : decode cX4_knownPair 4 = .ok (.ifCond .eq 19, 3) := by decide +kernel
theorem dX4_knownPair_7 : decode cX4_knownPair 7 = .ok (.aload_n 0, 1) := by decide +kernel
theorem dX4_knownPair_8 : decode cX4_knownPair 8 = .ok (.getfield 11, 3) := by decide +kernel
theorem dX4_knownPair_11 : decode cX4_knownPair 11 = .ok (.bipush 16, 2) := by decide +kernel
theorem dX4_knownPair_13 : decode cX4_knownPair 13 = .ok (.iload_n 1, 1) := by decide +kernel
theorem dX4_knownPair_14 : decode cX4_knownPair 14 = .ok (.iconst 2, 1) := by decide +kernel
theorem dX4_knownPair_15 : decode cX4_knownPair 15 = .ok (.imul, 1) := by decide +kernel
theorem dX4_knownPair_16 : decode cX4_knownPair 16 = .ok (.iadd, 1) := by decide +kernel
theorem dX4_knownPair_17 : decode cX4_knownPair 17 = .ok (.iconst 1, 1) := by decide +kernel
theorem dX4_knownPair_18 : decode cX4_knownPair 18 = .ok (.iadd, 1) := by decide +kernel
theorem dX4_knownPair_19 : decode cX4_knownPair 19 = .ok (.iaload, 1) := by decide +kernel
theorem dX4_knownPair_20 : decode cX4_knownPair 20 = .ok (.goto 4, 3) := by decide +kernel
theorem dX4_knownPair_23 : decode cX4_knownPair 23 = .ok (.iconst 0, 1) := by decide +kernel
theorem dX4_knownPair_24 : decode cX4_knownPair 24 = .ok (.ireturn, 1) := by decide +kernel
theorem dX4_isEnded_0 : decode cX4_isEnded 0 = .ok (.aload_n 0, 1) := by decide +kernel
theorem dX4_isEnded_1 : decode cX4_isEnded 1 = .ok (.iload_n 1, 1) := by decide +kernel
theorem dX4_isEnded_2 : decode cX4_isEnded 2 = .ok (.iconst 1, 1) := by decide +kernel
theorem dX4_isEnded_3 : decode cX4_isEnded 3 = .ok (.invokevirtual 36, 3) := by decide +kernel
theorem dX4_isEnded_6 : decode cX4_isEnded 6 = .ok (.iconst (-1), 1) := by decide +kernel
theorem dX4_isEnded_7 : decode cX4_isEnded 7 = .ok (.if_icmp .eq 7, 3) := by decide +kernel
theorem dX4_isEnded_10 : decode cX4_isEnded 10 = .ok (.iconst 1, 1) := by decide +kernel
theorem dX4_isEnded_11 : decode cX4_isEnded 11 = .ok (.goto 4, 3) := by decide +kernel
theorem dX4_isEnded_14 : decode cX4_isEnded 14 = .ok (.iconst 0, 1) := by decide +kernel
theorem dX4_isEnded_15 : decode cX4_isEnded 15 = .ok (.ireturn, 1) := by decide +kernel
theorem dX4_has_0 : decode cX4_has 0 = .ok (.iload_n 1, 1) := by decide +kernel
theorem dX4_has_1 : decode cX4_has 1 = .ok (.ifCond .lt 21, 3) := by decide +kernel
theorem dX4_has_4 : decode cX4_has 4 = .ok (.iload_n 1, 1) := by decide +kernel
theorem dX4_has_5 : decode cX4_has 5 = .ok (.bipush 9, 2) := by decide +kernel
theorem dX4_has_7 : decode cX4_has 7 = .ok (.if_icmp .ge 15, 3) := by decide +kernel
theorem dX4_has_10 : decode cX4_has 10 = .ok (.aload_n 0, 1) := by decide +kernel
theorem dX4_has_11 : decode cX4_has 11 = .ok (.iload_n 2, 1) := by decide +kernel
theorem dX4_has_12 : decode cX4_has 12 = .ok (.invokevirtual 23, 3) := by decide +kernel
theorem dX4_has_15 : decode cX4_has 15 = .ok (.ifCond .eq 7, 3) := by decide +kernel
theorem dX4_has_18 : decode cX4_has 18 = .ok (.iconst 1, 1) := by decide +kernel
theorem dX4_has_19 : decode cX4_has 19 = .ok (.goto 4, 3) := by decide +kernel
theorem dX4_has_22 : decode cX4_has 22 = .ok (.iconst 0, 1) := by decide +kernel
theorem dX4_has_23 : decode cX4_has 23 = .ok (.istore_n 3, 1) := by decide +kernel
theorem dX4_has_24 : decode cX4_has 24 = .ok (.iload_n 3, 1) := by decide +kernel
theorem dX4_has_25 : decode cX4_has 25 = .ok (.ifCond .eq 31, 3) := by decide +kernel
theorem dX4_has_28 : decode cX4_has 28 = .ok (.aload_n 0, 1) := by decide +kernel
theorem dX4_has_29 : decode cX4_has 29 = .ok (.getfield 11, 3) := by decide +kernel
theorem dX4_has_32 : decode cX4_has 32 = .ok (.sipush 142, 3) := by decide +kernel
theorem dX4_has_35 : decode cX4_has 35 = .ok (.iload_n 2, 1) := by decide +kernel
theorem dX4_has_36 : decode cX4_has 36 = .ok (.bipush 11, 2) := by decide +kernel
theorem dX4_has_38 : decode cX4_has 38 = .ok (.imul, 1) := by decide +kernel
theorem dX4_has_39 : decode cX4_has 39 = .ok (.iadd, 1) := by decide +kernel
theorem dX4_has_40 : decode cX4_has 40 = .ok (.bipush 10, 2) := by decide +kernel
theorem dX4_has_42 : decode cX4_has 42 = .ok (.iadd, 1) := by decide +kernel
theorem dX4_has_43 : decode cX4_has 43 = .ok (.iaload, 1) := by decide +kernel
theorem dX4_has_44 : decode cX4_has 44 = .ok (.iload_n 1, 1) := by decide +kernel
theorem dX4_has_45 : decode cX4_has 45 = .ok (.ishr, 1) := by decide +kernel
theorem dX4_has_46 : decode cX4_has 46 = .ok (.iconst 1, 1) := by decide +kernel
theorem dX4_has_47 : decode cX4_has 47 = .ok (.iand, 1) := by decide +kernel
theorem dX4_has_48 : decode cX4_has 48 = .ok (.iconst 1, 1) := by decide +kernel
theorem dX4_has_49 : decode cX4_has 49 = .ok (.if_icmp .ne 7, 3) := by decide +kernel
theorem dX4_has_52 : decode cX4_has 52 = .ok (.iconst 1, 1) := by decide +kernel
theorem dX4_has_53 : decode cX4_has 53 = .ok (.goto 4, 3) := by decide +kernel
theorem dX4_has_56 : decode cX4_has 56 = .ok (.iconst 0, 1) := by decide +kernel
theorem dX4_has_57 : decode cX4_has 57 = .ok (.ireturn, 1) := by decide +kernel
theorem dX4_letHave_0 : decode cX4_letHave 0 = .ok (.iload_n 1, 1) := by decide +kernel
theorem dX4_letHave_1 : decode cX4_letHave 1 = .ok (.ifCond .lt 39, 3) := by decide +kernel
theorem dX4_letHave_4 : decode cX4_letHave 4 = .ok (.iload_n 1, 1) := by decide +kernel
theorem dX4_letHave_5 : decode cX4_letHave 5 = .ok (.bipush 9, 2) := by decide +kernel
theorem dX4_letHave_7 : decode cX4_letHave 7 = .ok (.if_icmp .ge 33, 3) := by decide +kernel
theorem dX4_letHave_10 : decode cX4_letHave 10 = .ok (.aload_n 0, 1) := by decide +kernel
theorem dX4_letHave_11 : decode cX4_letHave 11 = .ok (.iload_n 2, 1) := by decide +kernel
theorem dX4_letHave_12 : decode cX4_letHave 12 = .ok (.invokevirtual 23, 3) := by decide +kernel
theorem dX4_letHave_15 : decode cX4_letHave 15 = .ok (.ifCond .eq 25, 3) := by decide +kernel
theorem dX4_letHave_18 : decode cX4_letHave 18 = .ok (.aload_n 0, 1) := by decide +kernel
theorem dX4_letHave_19 : decode cX4_letHave 19 = .ok (.getfield 11, 3) := by decide +kernel
theorem dX4_letHave_22 : decode cX4_letHave 22 = .ok (.sipush 142, 3) := by decide +kernel
theorem dX4_letHave_25 : decode cX4_letHave 25 = .ok (.iload_n 2, 1) := by decide +kernel
theorem dX4_letHave_26 : decode cX4_letHave 26 = .ok (.bipush 11, 2) := by decide +kernel
theorem dX4_letHave_28 : decode cX4_letHave 28 = .ok (.imul, 1) := by decide +kernel
theorem dX4_letHave_29 : decode cX4_letHave 29 = .ok (.iadd, 1) := by decide +kernel
theorem dX4_letHave_30 : decode cX4_letHave 30 = .ok (.bipush 10, 2) := by decide +kernel
theorem dX4_letHave_32 : decode cX4_letHave 32 = .ok (.iadd, 1) := by decide +kernel
theorem dX4_letHave_33 : decode cX4_letHave 33 = .ok (.dup2, 1) := by decide +kernel
theorem dX4_letHave_34 : decode cX4_letHave 34 = .ok (.iaload, 1) := by decide +kernel
theorem dX4_letHave_35 : decode cX4_letHave 35 = .ok (.iconst 1, 1) := by decide +kernel
theorem dX4_letHave_36 : decode cX4_letHave 36 = .ok (.iload_n 1, 1) := by decide +kernel
theorem dX4_letHave_37 : decode cX4_letHave 37 = .ok (.ishl, 1) := by decide +kernel
theorem dX4_letHave_38 : decode cX4_letHave 38 = .ok (.ior, 1) := by decide +kernel
theorem dX4_letHave_39 : decode cX4_letHave 39 = .ok (.iastore, 1) := by decide +kernel
theorem dX4_letHave_40 : decode cX4_letHave 40 = .ok (.return_, 1) := by decide +kernel
theorem dX4_openHouse_0 : decode cX4_openHouse 0 = .ok (.iload_n 1, 1) := by decide +kernel
theorem dX4_openHouse_1 : decode cX4_openHouse 1 = .ok (.ifCond .lt 26, 3) := by decide +kernel
theorem dX4_openHouse_4 : decode cX4_openHouse 4 = .ok (.iload_n 1, 1) := by decide +kernel
theorem dX4_openHouse_5 : decode cX4_openHouse 5 = .ok (.iconst 4, 1) := by decide +kernel
theorem dX4_openHouse_6 : decode cX4_openHouse 6 = .ok (.if_icmp .ge 21, 3) := by decide +kernel
theorem dX4_openHouse_9 : decode cX4_openHouse 9 = .ok (.aload_n 0, 1) := by decide +kernel
theorem dX4_openHouse_10 : decode cX4_openHouse 10 = .ok (.getfield 11, 3) := by decide +kernel
theorem dX4_openHouse_13 : decode cX4_openHouse 13 = .ok (.iconst 4, 1) := by decide +kernel
theorem dX4_openHouse_14 : decode cX4_openHouse 14 = .ok (.iload_n 1, 1) := by decide +kernel
theorem dX4_openHouse_15 : decode cX4_openHouse 15 = .ok (.iconst 3, 1) := by decide +kernel
theorem dX4_openHouse_16 : decode cX4_openHouse 16 = .ok (.imul, 1) := by decide +kernel
theorem dX4_openHouse_17 : decode cX4_openHouse 17 = .ok (.iadd, 1) := by decide +kernel
theorem dX4_openHouse_18 : decode cX4_openHouse 18 = .ok (.iconst 0, 1) := by decide +kernel
theorem dX4_openHouse_19 : decode cX4_openHouse 19 = .ok (.iadd, 1) := by decide +kernel
theorem dX4_openHouse_20 : decode cX4_openHouse 20 = .ok (.aload_n 0, 1) := by decide +kernel
theorem dX4_openHouse_21 : decode cX4_openHouse 21 = .ok (.getfield 11, 3) := by decide +kernel
theorem dX4_openHouse_24 : decode cX4_openHouse 24 = .ok (.iconst 0, 1) := by decide +kernel
theorem dX4_openHouse_25 : decode cX4_openHouse 25 = .ok (.iaload, 1) := by decide +kernel
theorem dX4_openHouse_26 : decode cX4_openHouse 26 = .ok (.iastore, 1) := by decide +kernel
theorem dX4_openHouse_27 : decode cX4_openHouse 27 = .ok (.return_, 1) := by decide +kernel
theorem dX4_givePair_0 : decode cX4_givePair 0 = .ok (.aload_n 0, 1) := by decide +kernel
theorem dX4_givePair_1 : decode cX4_givePair 1 = .ok (.getfield 15, 3) := by decide +kernel
theorem dX4_givePair_4 : decode cX4_givePair 4 = .ok (.dup, 1) := by decide +kernel
theorem dX4_givePair_5 : decode cX4_givePair 5 = .ok (.getfield 40, 3) := by decide +kernel
theorem dX4_givePair_8 : decode cX4_givePair 8 = .ok (.iconst 1, 1) := by decide +kernel
theorem dX4_givePair_9 : decode cX4_givePair 9 = .ok (.iadd, 1) := by decide +kernel
theorem dX4_givePair_10 : decode cX4_givePair 10 = .ok (.putfield 40, 3) := by decide +kernel
theorem dX4_givePair_13 : decode cX4_givePair 13 = .ok (.iload_n 1, 1) := by decide +kernel
theorem dX4_givePair_14 : decode cX4_givePair 14 = .ok (.invokestatic 33, 3) := by decide +kernel
theorem dX4_givePair_17 : decode cX4_givePair 17 = .ok (.ifCond .eq 23, 3) := by decide +kernel
theorem dX4_givePair_20 : decode cX4_givePair 20 = .ok (.aload_n 0, 1) := by decide +kernel
theorem dX4_givePair_21 : decode cX4_givePair 21 = .ok (.getfield 11, 3) := by decide +kernel
theorem dX4_givePair_24 : decode cX4_givePair 24 = .ok (.bipush 16, 2) := by decide +kernel
theorem dX4_givePair_26 : decode cX4_givePair 26 = .ok (.iload_n 1, 1) := by decide +kernel
theorem dX4_givePair_27 : decode cX4_givePair 27 = .ok (.iconst 2, 1) := by decide +kernel
theorem dX4_givePair_28 : decode cX4_givePair 28 = .ok (.imul, 1) := by decide +kernel
theorem dX4_givePair_29 : decode cX4_givePair 29 = .ok (.iadd, 1) := by decide +kernel
theorem dX4_givePair_30 : decode cX4_givePair 30 = .ok (.iconst 0, 1) := by decide +kernel
theorem dX4_givePair_31 : decode cX4_givePair 31 = .ok (.iadd, 1) := by decide +kernel
theorem dX4_givePair_32 : decode cX4_givePair 32 = .ok (.aload_n 0, 1) := by decide +kernel
theorem dX4_givePair_33 : decode cX4_givePair 33 = .ok (.getfield 15, 3) := by decide +kernel
theorem dX4_givePair_36 : decode cX4_givePair 36 = .ok (.getfield 40, 3) := by decide +kernel
theorem dX4_givePair_39 : decode cX4_givePair 39 = .ok (.iastore, 1) := by decide +kernel
theorem dX4_givePair_40 : decode cX4_givePair 40 = .ok (.aload_n 0, 1) := by decide +kernel
theorem dX4_givePair_41 : decode cX4_givePair 41 = .ok (.getfield 15, 3) := by decide +kernel
theorem dX4_givePair_44 : decode cX4_givePair 44 = .ok (.getfield 40, 3) := by decide +kernel
theorem dX4_givePair_47 : decode cX4_givePair 47 = .ok (.ireturn, 1) := by decide +kernel
theorem dX4_post_0 : decode cX4_post 0 = .ok (.aload_n 0, 1) := by decide +kernel
theorem dX4_post_1 : decode cX4_post 1 = .ok (.getfield 11, 3) := by decide +kernel
theorem dX4_post_4 : decode cX4_post 4 = .ok (.iconst 3, 1) := by decide +kernel
theorem dX4_post_5 : decode cX4_post 5 = .ok (.iaload, 1) := by decide +kernel
theorem dX4_post_6 : decode cX4_post 6 = .ok (.istore 7, 2) := by decide +kernel
theorem dX4_post_8 : decode cX4_post 8 = .ok (.iload 7, 2) := by decide +kernel
theorem dX4_post_10 : decode cX4_post 10 = .ok (.ifCond .lt 10, 3) := by decide +kernel
theorem dX4_post_13 : decode cX4_post 13 = .ok (.iload 7, 2) := by decide +kernel
theorem dX4_post_15 : decode cX4_post 15 = .ok (.bipush 12, 2) := by decide +kernel
theorem dX4_post_17 : decode cX4_post 17 = .ok (.if_icmp .lt 24, 3) := by decide +kernel
theorem dX4_post_20 : decode cX4_post 20 = .ok (.aload_n 0, 1) := by decide +kernel
theorem dX4_post_21 : decode cX4_post 21 = .ok (.getfield 19, 3) := by decide +kernel
theorem dX4_post_24 : decode cX4_post 24 = .ok (.ifnull 16, 3) := by decide +kernel
theorem dX4_post_27 : decode cX4_post 27 = .ok (.aload_n 0, 1) := by decide +kernel
theorem dX4_post_28 : decode cX4_post 28 = .ok (.getfield 19, 3) := by decide +kernel
theorem dX4_post_31 : decode cX4_post 31 = .ok (.dup, 1) := by decide +kernel
theorem dX4_post_32 : decode cX4_post 32 = .ok (.getfield 46, 3) := by decide +kernel
theorem dX4_post_35 : decode cX4_post 35 = .ok (.iconst 1, 1) := by decide +kernel
theorem dX4_post_36 : decode cX4_post 36 = .ok (.iadd, 1) := by decide +kernel
theorem dX4_post_37 : decode cX4_post 37 = .ok (.putfield 46, 3) := by decide +kernel
theorem dX4_post_40 : decode cX4_post 40 = .ok (.return_, 1) := by decide +kernel
theorem dX4_post_41 : decode cX4_post 41 = .ok (.bipush 58, 2) := by decide +kernel
theorem dX4_post_43 : decode cX4_post 43 = .ok (.iload 7, 2) := by decide +kernel
theorem dX4_post_45 : decode cX4_post 45 = .ok (.bipush 7, 2) := by decide +kernel
theorem dX4_post_47 : decode cX4_post 47 = .ok (.imul, 1) := by decide +kernel
theorem dX4_post_48 : decode cX4_post 48 = .ok (.iadd, 1) := by decide +kernel
theorem dX4_post_49 : decode cX4_post 49 = .ok (.istore 8, 2) := by decide +kernel
theorem dX4_post_51 : decode cX4_post 51 = .ok (.aload_n 0, 1) := by decide +kernel
theorem dX4_post_52 : decode cX4_post 52 = .ok (.getfield 11, 3) := by decide +kernel
theorem dX4_post_55 : decode cX4_post 55 = .ok (.iload 8, 2) := by decide +kernel
theorem dX4_post_57 : decode cX4_post 57 = .ok (.iload_n 1, 1) := by decide +kernel
theorem dX4_post_58 : decode cX4_post 58 = .ok (.iastore, 1) := by decide +kernel
theorem dX4_post_59 : decode cX4_post 59 = .ok (.aload_n 0, 1) := by decide +kernel
theorem dX4_post_60 : decode cX4_post 60 = .ok (.getfield 11, 3) := by decide +kernel
theorem dX4_post_63 : decode cX4_post 63 = .ok (.iload 8, 2) := by decide +kernel
theorem dX4_post_65 : decode cX4_post 65 = .ok (.iconst 1, 1) := by decide +kernel
theorem dX4_post_66 : decode cX4_post 66 = .ok (.iadd, 1) := by decide +kernel
theorem dX4_post_67 : decode cX4_post 67 = .ok (.iload_n 2, 1) := by decide +kernel
theorem dX4_post_68 : decode cX4_post 68 = .ok (.iastore, 1) := by decide +kernel
theorem dX4_post_69 : decode cX4_post 69 = .ok (.aload_n 0, 1) := by decide +kernel
theorem dX4_post_70 : decode cX4_post 70 = .ok (.getfield 11, 3) := by decide +kernel
theorem dX4_post_73 : decode cX4_post 73 = .ok (.iload 8, 2) := by decide +kernel
theorem dX4_post_75 : decode cX4_post 75 = .ok (.iconst 2, 1) := by decide +kernel
theorem dX4_post_76 : decode cX4_post 76 = .ok (.iadd, 1) := by decide +kernel
theorem dX4_post_77 : decode cX4_post 77 = .ok (.iload_n 3, 1) := by decide +kernel
theorem dX4_post_78 : decode cX4_post 78 = .ok (.iastore, 1) := by decide +kernel
theorem dX4_post_79 : decode cX4_post 79 = .ok (.aload_n 0, 1) := by decide +kernel
theorem dX4_post_80 : decode cX4_post 80 = .ok (.getfield 11, 3) := by decide +kernel
theorem dX4_post_83 : decode cX4_post 83 = .ok (.iload 8, 2) := by decide +kernel
theorem dX4_post_85 : decode cX4_post 85 = .ok (.iconst 3, 1) := by decide +kernel
theorem dX4_post_86 : decode cX4_post 86 = .ok (.iadd, 1) := by decide +kernel
theorem dX4_post_87 : decode cX4_post 87 = .ok (.iload 4, 2) := by decide +kernel
theorem dX4_post_89 : decode cX4_post 89 = .ok (.iastore, 1) := by decide +kernel
theorem dX4_post_90 : decode cX4_post 90 = .ok (.aload_n 0, 1) := by decide +kernel
theorem dX4_post_91 : decode cX4_post 91 = .ok (.getfield 11, 3) := by decide +kernel
theorem dX4_post_94 : decode cX4_post 94 = .ok (.iload 8, 2) := by decide +kernel
theorem dX4_post_96 : decode cX4_post 96 = .ok (.iconst 4, 1) := by decide +kernel
theorem dX4_post_97 : decode cX4_post 97 = .ok (.iadd, 1) := by decide +kernel
theorem dX4_post_98 : decode cX4_post 98 = .ok (.iload 5, 2) := by decide +kernel
theorem dX4_post_100 : decode cX4_post 100 = .ok (.iastore, 1) := by decide +kernel
theorem dX4_post_101 : decode cX4_post 101 = .ok (.aload_n 0, 1) := by decide +kernel
theorem dX4_post_102 : decode cX4_post 102 = .ok (.getfield 11, 3) := by decide +kernel
theorem dX4_post_105 : decode cX4_post 105 = .ok (.iload 8, 2) := by decide +kernel
theorem dX4_post_107 : decode cX4_post 107 = .ok (.iconst 5, 1) := by decide +kernel
theorem dX4_post_108 : decode cX4_post 108 = .ok (.iadd, 1) := by decide +kernel
theorem dX4_post_109 : decode cX4_post 109 = .ok (.iload 6, 2) := by decide +kernel
theorem dX4_post_111 : decode cX4_post 111 = .ok (.iastore, 1) := by decide +kernel
theorem dX4_post_112 : decode cX4_post 112 = .ok (.aload_n 0, 1) := by decide +kernel
theorem dX4_post_113 : decode cX4_post 113 = .ok (.getfield 11, 3) := by decide +kernel
theorem dX4_post_116 : decode cX4_post 116 = .ok (.iload 8, 2) := by decide +kernel
theorem dX4_post_118 : decode cX4_post 118 = .ok (.bipush 6, 2) := by decide +kernel
theorem dX4_post_120 : decode cX4_post 120 = .ok (.iadd, 1) := by decide +kernel
theorem dX4_post_121 : decode cX4_post 121 = .ok (.aload_n 0, 1) := by decide +kernel
theorem dX4_post_122 : decode cX4_post 122 = .ok (.getfield 11, 3) := by decide +kernel
theorem dX4_post_125 : decode cX4_post 125 = .ok (.iconst 0, 1) := by decide +kernel
theorem dX4_post_126 : decode cX4_post 126 = .ok (.iaload, 1) := by decide +kernel
theorem dX4_post_127 : decode cX4_post 127 = .ok (.iastore, 1) := by decide +kernel
theorem dX4_post_128 : decode cX4_post 128 = .ok (.aload_n 0, 1) := by decide +kernel
theorem dX4_post_129 : decode cX4_post 129 = .ok (.getfield 11, 3) := by decide +kernel
theorem dX4_post_132 : decode cX4_post 132 = .ok (.iconst 3, 1) := by decide +kernel
theorem dX4_post_133 : decode cX4_post 133 = .ok (.iload 7, 2) := by decide +kernel
theorem dX4_post_135 : decode cX4_post 135 = .ok (.iconst 1, 1) := by decide +kernel
theorem dX4_post_136 : decode cX4_post 136 = .ok (.iadd, 1) := by decide +kernel
theorem dX4_post_137 : decode cX4_post 137 = .ok (.iastore, 1) := by decide +kernel
theorem dX4_post_138 : decode cX4_post 138 = .ok (.aload_n 0, 1) := by decide +kernel
theorem dX4_post_139 : decode cX4_post 139 = .ok (.getfield 15, 3) := by decide +kernel
theorem dX4_post_142 : decode cX4_post 142 = .ok (.getfield 51, 3) := by decide +kernel
theorem dX4_post_145 : decode cX4_post 145 = .ok (.iload_n 1, 1) := by decide +kernel
theorem dX4_post_146 : decode cX4_post 146 = .ok (.ishr, 1) := by decide +kernel
theorem dX4_post_147 : decode cX4_post 147 = .ok (.aload_n 0, 1) := by decide +kernel
theorem dX4_post_148 : decode cX4_post 148 = .ok (.getfield 15, 3) := by decide +kernel
theorem dX4_post_151 : decode cX4_post 151 = .ok (.getfield 51, 3) := by decide +kernel
theorem dX4_post_154 : decode cX4_post 154 = .ok (.iload_n 2, 1) := by decide +kernel
theorem dX4_post_155 : decode cX4_post 155 = .ok (.ishr, 1) := by decide +kernel
theorem dX4_post_156 : decode cX4_post 156 = .ok (.ior, 1) := by decide +kernel
theorem dX4_post_157 : decode cX4_post 157 = .ok (.iconst 1, 1) := by decide +kernel
theorem dX4_post_158 : decode cX4_post 158 = .ok (.iand, 1) := by decide +kernel
theorem dX4_post_159 : decode cX4_post 159 = .ok (.iconst 1, 1) := by decide +kernel
theorem dX4_post_160 : decode cX4_post 160 = .ok (.if_icmp .ne 7, 3) := by decide +kernel
theorem dX4_post_163 : decode cX4_post 163 = .ok (.iconst 1, 1) := by decide +kernel
theorem dX4_post_164 : decode cX4_post 164 = .ok (.goto 4, 3) := by decide +kernel
theorem dX4_post_167 : decode cX4_post 167 = .ok (.iconst 0, 1) := by decide +kernel
theorem dX4_post_168 : decode cX4_post 168 = .ok (.istore 9, 2) := by decide +kernel
theorem dX4_post_170 : decode cX4_post 170 = .ok (.iload 9, 2) := by decide +kernel
theorem dX4_post_172 : decode cX4_post 172 = .ok (.ifCond .eq 8, 3) := by decide +kernel
theorem dX4_post_175 : decode cX4_post 175 = .ok (.iload_n 3, 1) := by decide +kernel
theorem dX4_post_176 : decode cX4_post 176 = .ok (.iconst 5, 1) := by decide +kernel
theorem dX4_post_177 : decode cX4_post 177 = .ok (.if_icmp .ne 4, 3) := by decide +kernel
theorem dX4_post_180 : decode cX4_post 180 = .ok (.return_, 1) := by decide +kernel
theorem dX4_post_181 : decode cX4_post 181 = .ok (.aload_n 0, 1) := by decide +kernel
theorem dX4_post_182 : decode cX4_post 182 = .ok (.getfield 11, 3) := by decide +kernel
theorem dX4_post_185 : decode cX4_post 185 = .ok (.iconst 1, 1) := by decide +kernel
theorem dX4_post_186 : decode cX4_post 186 = .ok (.iaload, 1) := by decide +kernel
theorem dX4_post_187 : decode cX4_post 187 = .ok (.istore 10, 2) := by decide +kernel
theorem dX4_post_189 : decode cX4_post 189 = .ok (.iload_n 3, 1) := by decide +kernel
theorem dX4_post_190 : decode cX4_post 190 = .ok (.ifCond .eq 44, 3) := by decide +kernel
theorem dX4_post_193 : decode cX4_post 193 = .ok (.iload 4, 2) := by decide +kernel
theorem dX4_post_195 : decode cX4_post 195 = .ok (.ifCond .lt 39, 3) := by decide +kernel
theorem dX4_post_198 : decode cX4_post 198 = .ok (.iload 4, 2) := by decide +kernel
theorem dX4_post_200 : decode cX4_post 200 = .ok (.iload 10, 2) := by decide +kernel
theorem dX4_post_202 : decode cX4_post 202 = .ok (.if_icmp .ge 32, 3) := by decide +kernel
theorem dX4_post_205 : decode cX4_post 205 = .ok (.iload 4, 2) := by decide +kernel
theorem dX4_post_207 : decode cX4_post 207 = .ok (.bipush 32, 2) := by decide +kernel
theorem dX4_post_209 : decode cX4_post 209 = .ok (.if_icmp .ge 25, 3) := by decide +kernel
theorem dX4_post_212 : decode cX4_post 212 = .ok (.aload_n 0, 1) := by decide +kernel
theorem dX4_post_213 : decode cX4_post 213 = .ok (.getfield 11, 3) := by decide +kernel
theorem dX4_post_216 : decode cX4_post 216 = .ok (.sipush 142, 3) := by decide +kernel
theorem dX4_post_219 : decode cX4_post 219 = .ok (.iload 4, 2) := by decide +kernel
theorem dX4_post_221 : decode cX4_post 221 = .ok (.bipush 11, 2) := by decide +kernel
theorem dX4_post_223 : decode cX4_post 223 = .ok (.imul, 1) := by decide +kernel
theorem dX4_post_224 : decode cX4_post 224 = .ok (.iadd, 1) := by decide +kernel
theorem dX4_post_225 : decode cX4_post 225 = .ok (.bipush 10, 2) := by decide +kernel
theorem dX4_post_227 : decode cX4_post 227 = .ok (.iadd, 1) := by decide +kernel
theorem dX4_post_228 : decode cX4_post 228 = .ok (.dup2, 1) := by decide +kernel
theorem dX4_post_229 : decode cX4_post 229 = .ok (.iaload, 1) := by decide +kernel
theorem dX4_post_230 : decode cX4_post 230 = .ok (.bipush 16, 2) := by decide +kernel
theorem dX4_post_232 : decode cX4_post 232 = .ok (.ior, 1) := by decide +kernel
theorem dX4_post_233 : decode cX4_post 233 = .ok (.iastore, 1) := by decide +kernel
theorem dX4_post_234 : decode cX4_post 234 = .ok (.iload_n 3, 1) := by decide +kernel
theorem dX4_post_235 : decode cX4_post 235 = .ok (.iconst 1, 1) := by decide +kernel
theorem dX4_post_236 : decode cX4_post 236 = .ok (.if_icmp .ne 44, 3) := by decide +kernel
theorem dX4_post_239 : decode cX4_post 239 = .ok (.iload 5, 2) := by decide +kernel
theorem dX4_post_241 : decode cX4_post 241 = .ok (.ifCond .lt 39, 3) := by decide +kernel
theorem dX4_post_244 : decode cX4_post 244 = .ok (.iload 5, 2) := by decide +kernel
theorem dX4_post_246 : decode cX4_post 246 = .ok (.iload 10, 2) := by decide +kernel
theorem dX4_post_248 : decode cX4_post 248 = .ok (.if_icmp .ge 32, 3) := by decide +kernel
theorem dX4_post_251 : decode cX4_post 251 = .ok (.iload 5, 2) := by decide +kernel
theorem dX4_post_253 : decode cX4_post 253 = .ok (.bipush 32, 2) := by decide +kernel
theorem dX4_post_255 : decode cX4_post 255 = .ok (.if_icmp .ge 25, 3) := by decide +kernel
theorem dX4_post_258 : decode cX4_post 258 = .ok (.aload_n 0, 1) := by decide +kernel
theorem dX4_post_259 : decode cX4_post 259 = .ok (.getfield 11, 3) := by decide +kernel
theorem dX4_post_262 : decode cX4_post 262 = .ok (.sipush 142, 3) := by decide +kernel
theorem dX4_post_265 : decode cX4_post 265 = .ok (.iload 5, 2) := by decide +kernel
theorem dX4_post_267 : decode cX4_post 267 = .ok (.bipush 11, 2) := by decide +kernel
theorem dX4_post_269 : decode cX4_post 269 = .ok (.imul, 1) := by decide +kernel
theorem dX4_post_270 : decode cX4_post 270 = .ok (.iadd, 1) := by decide +kernel
theorem dX4_post_271 : decode cX4_post 271 = .ok (.bipush 10, 2) := by decide +kernel
theorem dX4_post_273 : decode cX4_post 273 = .ok (.iadd, 1) := by decide +kernel
theorem dX4_post_274 : decode cX4_post 274 = .ok (.dup2, 1) := by decide +kernel
theorem dX4_post_275 : decode cX4_post 275 = .ok (.iaload, 1) := by decide +kernel
theorem dX4_post_276 : decode cX4_post 276 = .ok (.bipush 16, 2) := by decide +kernel
theorem dX4_post_278 : decode cX4_post 278 = .ok (.ior, 1) := by decide +kernel
theorem dX4_post_279 : decode cX4_post 279 = .ok (.iastore, 1) := by decide +kernel
theorem dX4_post_280 : decode cX4_post 280 = .ok (.iload_n 3, 1) := by decide +kernel
theorem dX4_post_281 : decode cX4_post 281 = .ok (.ifCond .eq 13, 3) := by decide +kernel
theorem dX4_post_284 : decode cX4_post 284 = .ok (.iload_n 3, 1) := by decide +kernel
theorem dX4_post_285 : decode cX4_post 285 = .ok (.iconst 3, 1) := by decide +kernel
theorem dX4_post_286 : decode cX4_post 286 = .ok (.if_icmp .eq 8, 3) := by decide +kernel
theorem dX4_post_289 : decode cX4_post 289 = .ok (.iload_n 3, 1) := by decide +kernel
theorem dX4_post_290 : decode cX4_post 290 = .ok (.iconst 1, 1) := by decide +kernel
theorem dX4_post_291 : decode cX4_post 291 = .ok (.if_icmp .ne 7, 3) := by decide +kernel
theorem dX4_post_294 : decode cX4_post 294 = .ok (.iconst 1, 1) := by decide +kernel
theorem dX4_post_295 : decode cX4_post 295 = .ok (.goto 4, 3) := by decide +kernel
theorem dX4_post_298 : decode cX4_post 298 = .ok (.iconst 0, 1) := by decide +kernel
theorem dX4_post_299 : decode cX4_post 299 = .ok (.istore 11, 2) := by decide +kernel
theorem dX4_post_301 : decode cX4_post 301 = .ok (.iload_n 3, 1) := by decide +kernel
theorem dX4_post_302 : decode cX4_post 302 = .ok (.iconst 1, 1) := by decide +kernel
theorem dX4_post_303 : decode cX4_post 303 = .ok (.if_icmp .ne 7, 3) := by decide +kernel
theorem dX4_post_306 : decode cX4_post 306 = .ok (.iload_n 2, 1) := by decide +kernel
theorem dX4_post_307 : decode cX4_post 307 = .ok (.goto 4, 3) := by decide +kernel
theorem dX4_post_310 : decode cX4_post 310 = .ok (.iload_n 1, 1) := by decide +kernel
theorem dX4_post_311 : decode cX4_post 311 = .ok (.istore 12, 2) := by decide +kernel
theorem dX4_post_313 : decode cX4_post 313 = .ok (.iload 11, 2) := by decide +kernel
theorem dX4_post_315 : decode cX4_post 315 = .ok (.ifCond .eq 30, 3) := by decide +kernel
theorem dX4_post_318 : decode cX4_post 318 = .ok (.iload 12, 2) := by decide +kernel
theorem dX4_post_320 : decode cX4_post 320 = .ok (.ifCond .lt 25, 3) := by decide +kernel
theorem dX4_post_323 : decode cX4_post 323 = .ok (.iload 12, 2) := by decide +kernel
theorem dX4_post_325 : decode cX4_post 325 = .ok (.iconst 4, 1) := by decide +kernel
theorem dX4_post_326 : decode cX4_post 326 = .ok (.if_icmp .ge 19, 3) := by decide +kernel
theorem dX4_post_329 : decode cX4_post 329 = .ok (.aload_n 0, 1) := by decide +kernel
theorem dX4_post_330 : decode cX4_post 330 = .ok (.getfield 11, 3) := by decide +kernel
theorem dX4_post_333 : decode cX4_post 333 = .ok (.bipush 16, 2) := by decide +kernel
theorem dX4_post_335 : decode cX4_post 335 = .ok (.iload 12, 2) := by decide +kernel
theorem dX4_post_337 : decode cX4_post 337 = .ok (.iconst 2, 1) := by decide +kernel
theorem dX4_post_338 : decode cX4_post 338 = .ok (.imul, 1) := by decide +kernel
theorem dX4_post_339 : decode cX4_post 339 = .ok (.iadd, 1) := by decide +kernel
theorem dX4_post_340 : decode cX4_post 340 = .ok (.iconst 1, 1) := by decide +kernel
theorem dX4_post_341 : decode cX4_post 341 = .ok (.iadd, 1) := by decide +kernel
theorem dX4_post_342 : decode cX4_post 342 = .ok (.iload 6, 2) := by decide +kernel
theorem dX4_post_344 : decode cX4_post 344 = .ok (.iastore, 1) := by decide +kernel
theorem dX4_post_345 : decode cX4_post 345 = .ok (.return_, 1) := by decide +kernel
theorem dX4_postAgain_0 : decode cX4_postAgain 0 = .ok (.aload_n 0, 1) := by decide +kernel
theorem dX4_postAgain_1 : decode cX4_postAgain 1 = .ok (.iload_n 1, 1) := by decide +kernel
theorem dX4_postAgain_2 : decode cX4_postAgain 2 = .ok (.invokevirtual 30, 3) := by decide +kernel
theorem dX4_postAgain_5 : decode cX4_postAgain 5 = .ok (.ifCond .eq 14, 3) := by decide +kernel
theorem dX4_postAgain_8 : decode cX4_postAgain 8 = .ok (.aload_n 0, 1) := by decide +kernel
theorem dX4_postAgain_9 : decode cX4_postAgain 9 = .ok (.getfield 11, 3) := by decide +kernel
theorem dX4_postAgain_12 : decode cX4_postAgain 12 = .ok (.iconst 3, 1) := by decide +kernel
theorem dX4_postAgain_13 : decode cX4_postAgain 13 = .ok (.iaload, 1) := by decide +kernel
theorem dX4_postAgain_14 : decode cX4_postAgain 14 = .ok (.bipush 12, 2) := by decide +kernel
theorem dX4_postAgain_16 : decode cX4_postAgain 16 = .ok (.if_icmp .lt 5, 3) := by decide +kernel
theorem dX4_postAgain_19 : decode cX4_postAgain 19 = .ok (.iconst 0, 1) := by decide +kernel
theorem dX4_postAgain_20 : decode cX4_postAgain 20 = .ok (.ireturn, 1) := by decide +kernel
theorem dX4_postAgain_21 : decode cX4_postAgain 21 = .ok (.bipush 58, 2) := by decide +kernel
theorem dX4_postAgain_23 : decode cX4_postAgain 23 = .ok (.iload_n 1, 1) := by decide +kernel
theorem dX4_postAgain_24 : decode cX4_postAgain 24 = .ok (.bipush 7, 2) := by decide +kernel
theorem dX4_postAgain_26 : decode cX4_postAgain 26 = .ok (.imul, 1) := by decide +kernel
theorem dX4_postAgain_27 : decode cX4_postAgain 27 = .ok (.iadd, 1) := by decide +kernel
theorem dX4_postAgain_28 : decode cX4_postAgain 28 = .ok (.istore_n 2, 1) := by decide +kernel
theorem dX4_postAgain_29 : decode cX4_postAgain 29 = .ok (.aload_n 0, 1) := by decide +kernel
theorem dX4_postAgain_30 : decode cX4_postAgain 30 = .ok (.aload_n 0, 1) := by decide +kernel
theorem dX4_postAgain_31 : decode cX4_postAgain 31 = .ok (.getfield 11, 3) := by decide +kernel
theorem dX4_postAgain_34 : decode cX4_postAgain 34 = .ok (.iload_n 2, 1) := by decide +kernel
theorem dX4_postAgain_35 : decode cX4_postAgain 35 = .ok (.iaload, 1) := by decide +kernel
theorem dX4_postAgain_36 : decode cX4_postAgain 36 = .ok (.aload_n 0, 1) := by decide +kernel
theorem dX4_postAgain_37 : decode cX4_postAgain 37 = .ok (.getfield 11, 3) := by decide +kernel
theorem dX4_postAgain_40 : decode cX4_postAgain 40 = .ok (.iload_n 2, 1) := by decide +kernel
theorem dX4_postAgain_41 : decode cX4_postAgain 41 = .ok (.iconst 1, 1) := by decide +kernel
theorem dX4_postAgain_42 : decode cX4_postAgain 42 = .ok (.iadd, 1) := by decide +kernel
theorem dX4_postAgain_43 : decode cX4_postAgain 43 = .ok (.iaload, 1) := by decide +kernel
theorem dX4_postAgain_44 : decode cX4_postAgain 44 = .ok (.aload_n 0, 1) := by decide +kernel
theorem dX4_postAgain_45 : decode cX4_postAgain 45 = .ok (.getfield 11, 3) := by decide +kernel
theorem dX4_postAgain_48 : decode cX4_postAgain 48 = .ok (.iload_n 2, 1) := by decide +kernel
theorem dX4_postAgain_49 : decode cX4_postAgain 49 = .ok (.iconst 2, 1) := by decide +kernel
theorem dX4_postAgain_50 : decode cX4_postAgain 50 = .ok (.iadd, 1) := by decide +kernel
theorem dX4_postAgain_51 : decode cX4_postAgain 51 = .ok (.iaload, 1) := by decide +kernel
theorem dX4_postAgain_52 : decode cX4_postAgain 52 = .ok (.aload_n 0, 1) := by decide +kernel
theorem dX4_postAgain_53 : decode cX4_postAgain 53 = .ok (.getfield 11, 3) := by decide +kernel
theorem dX4_postAgain_56 : decode cX4_postAgain 56 = .ok (.iload_n 2, 1) := by decide +kernel
theorem dX4_postAgain_57 : decode cX4_postAgain 57 = .ok (.iconst 3, 1) := by decide +kernel
theorem dX4_postAgain_58 : decode cX4_postAgain 58 = .ok (.iadd, 1) := by decide +kernel
theorem dX4_postAgain_59 : decode cX4_postAgain 59 = .ok (.iaload, 1) := by decide +kernel
theorem dX4_postAgain_60 : decode cX4_postAgain 60 = .ok (.aload_n 0, 1) := by decide +kernel
theorem dX4_postAgain_61 : decode cX4_postAgain 61 = .ok (.getfield 11, 3) := by decide +kernel
theorem dX4_postAgain_64 : decode cX4_postAgain 64 = .ok (.iload_n 2, 1) := by decide +kernel
theorem dX4_postAgain_65 : decode cX4_postAgain 65 = .ok (.iconst 4, 1) := by decide +kernel
theorem dX4_postAgain_66 : decode cX4_postAgain 66 = .ok (.iadd, 1) := by decide +kernel
theorem dX4_postAgain_67 : decode cX4_postAgain 67 = .ok (.iaload, 1) := by decide +kernel
theorem dX4_postAgain_68 : decode cX4_postAgain 68 = .ok (.aload_n 0, 1) := by decide +kernel
theorem dX4_postAgain_69 : decode cX4_postAgain 69 = .ok (.getfield 11, 3) := by decide +kernel
theorem dX4_postAgain_72 : decode cX4_postAgain 72 = .ok (.iload_n 2, 1) := by decide +kernel
theorem dX4_postAgain_73 : decode cX4_postAgain 73 = .ok (.iconst 5, 1) := by decide +kernel
theorem dX4_postAgain_74 : decode cX4_postAgain 74 = .ok (.iadd, 1) := by decide +kernel
theorem dX4_postAgain_75 : decode cX4_postAgain 75 = .ok (.iaload, 1) := by decide +kernel
theorem dX4_postAgain_76 : decode cX4_postAgain 76 = .ok (.invokevirtual 54, 3) := by decide +kernel
theorem dX4_postAgain_79 : decode cX4_postAgain 79 = .ok (.iconst 1, 1) := by decide +kernel
theorem dX4_postAgain_80 : decode cX4_postAgain 80 = .ok (.ireturn, 1) := by decide +kernel
theorem dX4_takeOut_0 : decode cX4_takeOut 0 = .ok (.aload_n 0, 1) := by decide +kernel
theorem dX4_takeOut_1 : decode cX4_takeOut 1 = .ok (.iload_n 1, 1) := by decide +kernel
theorem dX4_takeOut_2 : decode cX4_takeOut 2 = .ok (.invokevirtual 30, 3) := by decide +kernel
theorem dX4_takeOut_5 : decode cX4_takeOut 5 = .ok (.ifCond .ne 4, 3) := by decide +kernel
theorem dX4_takeOut_8 : decode cX4_takeOut 8 = .ok (.return_, 1) := by decide +kernel
theorem dX4_takeOut_9 : decode cX4_takeOut 9 = .ok (.bipush 58, 2) := by decide +kernel
theorem dX4_takeOut_11 : decode cX4_takeOut 11 = .ok (.iload_n 1, 1) := by decide +kernel
theorem dX4_takeOut_12 : decode cX4_takeOut 12 = .ok (.bipush 7, 2) := by decide +kernel
theorem dX4_takeOut_14 : decode cX4_takeOut 14 = .ok (.imul, 1) := by decide +kernel
theorem dX4_takeOut_15 : decode cX4_takeOut 15 = .ok (.iadd, 1) := by decide +kernel
theorem dX4_takeOut_16 : decode cX4_takeOut 16 = .ok (.istore_n 2, 1) := by decide +kernel
theorem dX4_takeOut_17 : decode cX4_takeOut 17 = .ok (.aload_n 0, 1) := by decide +kernel
theorem dX4_takeOut_18 : decode cX4_takeOut 18 = .ok (.getfield 11, 3) := by decide +kernel
theorem dX4_takeOut_21 : decode cX4_takeOut 21 = .ok (.iconst 3, 1) := by decide +kernel
theorem dX4_takeOut_22 : decode cX4_takeOut 22 = .ok (.iaload, 1) := by decide +kernel
theorem dX4_takeOut_23 : decode cX4_takeOut 23 = .ok (.iconst 1, 1) := by decide +kernel
theorem dX4_takeOut_24 : decode cX4_takeOut 24 = .ok (.isub, 1) := by decide +kernel
theorem dX4_takeOut_25 : decode cX4_takeOut 25 = .ok (.iload_n 1, 1) := by decide +kernel
theorem dX4_takeOut_26 : decode cX4_takeOut 26 = .ok (.isub, 1) := by decide +kernel
theorem dX4_takeOut_27 : decode cX4_takeOut 27 = .ok (.bipush 7, 2) := by decide +kernel
theorem dX4_takeOut_29 : decode cX4_takeOut 29 = .ok (.imul, 1) := by decide +kernel
theorem dX4_takeOut_30 : decode cX4_takeOut 30 = .ok (.istore_n 3, 1) := by decide +kernel
theorem dX4_takeOut_31 : decode cX4_takeOut 31 = .ok (.aload_n 0, 1) := by decide +kernel
theorem dX4_takeOut_32 : decode cX4_takeOut 32 = .ok (.getfield 11, 3) := by decide +kernel
theorem dX4_takeOut_35 : decode cX4_takeOut 35 = .ok (.iload_n 2, 1) := by decide +kernel
theorem dX4_takeOut_36 : decode cX4_takeOut 36 = .ok (.bipush 7, 2) := by decide +kernel
theorem dX4_takeOut_38 : decode cX4_takeOut 38 = .ok (.iadd, 1) := by decide +kernel
theorem dX4_takeOut_39 : decode cX4_takeOut 39 = .ok (.aload_n 0, 1) := by decide +kernel
theorem dX4_takeOut_40 : decode cX4_takeOut 40 = .ok (.getfield 11, 3) := by decide +kernel
theorem dX4_takeOut_43 : decode cX4_takeOut 43 = .ok (.iload_n 2, 1) := by decide +kernel
theorem dX4_takeOut_44 : decode cX4_takeOut 44 = .ok (.iload_n 3, 1) := by decide +kernel
theorem dX4_takeOut_45 : decode cX4_takeOut 45 = .ok (.invokestatic 58, 3) := by decide +kernel
theorem dX4_takeOut_48 : decode cX4_takeOut 48 = .ok (.aload_n 0, 1) := by decide +kernel
theorem dX4_takeOut_49 : decode cX4_takeOut 49 = .ok (.getfield 11, 3) := by decide +kernel
theorem dX4_takeOut_52 : decode cX4_takeOut 52 = .ok (.iconst 3, 1) := by decide +kernel
theorem dX4_takeOut_53 : decode cX4_takeOut 53 = .ok (.dup2, 1) := by decide +kernel
theorem dX4_takeOut_54 : decode cX4_takeOut 54 = .ok (.iaload, 1) := by decide +kernel
theorem dX4_takeOut_55 : decode cX4_takeOut 55 = .ok (.iconst 1, 1) := by decide +kernel
theorem dX4_takeOut_56 : decode cX4_takeOut 56 = .ok (.isub, 1) := by decide +kernel
theorem dX4_takeOut_57 : decode cX4_takeOut 57 = .ok (.iastore, 1) := by decide +kernel
theorem dX4_takeOut_58 : decode cX4_takeOut 58 = .ok (.return_, 1) := by decide +kernel
theorem dX4_come_0 : decode cX4_come 0 = .ok (.aload_n 0, 1) := by decide +kernel
theorem dX4_come_1 : decode cX4_come 1 = .ok (.iload_n 1, 1) := by decide +kernel
theorem dX4_come_2 : decode cX4_come 2 = .ok (.invokevirtual 30, 3) := by decide +kernel
theorem dX4_come_5 : decode cX4_come 5 = .ok (.ifCond .ne 5, 3) := by decide +kernel
theorem dX4_come_8 : decode cX4_come 8 = .ok (.iconst (-1), 1) := by decide +kernel
theorem dX4_come_9 : decode cX4_come 9 = .ok (.ireturn, 1) := by decide +kernel
theorem dX4_come_10 : decode cX4_come 10 = .ok (.bipush 58, 2) := by decide +kernel
theorem dX4_come_12 : decode cX4_come 12 = .ok (.iload_n 1, 1) := by decide +kernel
theorem dX4_come_13 : decode cX4_come 13 = .ok (.bipush 7, 2) := by decide +kernel
theorem dX4_come_15 : decode cX4_come 15 = .ok (.imul, 1) := by decide +kernel
theorem dX4_come_16 : decode cX4_come 16 = .ok (.iadd, 1) := by decide +kernel
theorem dX4_come_17 : decode cX4_come 17 = .ok (.istore_n 2, 1) := by decide +kernel
theorem dX4_come_18 : decode cX4_come 18 = .ok (.aload_n 0, 1) := by decide +kernel
theorem dX4_come_19 : decode cX4_come 19 = .ok (.getfield 11, 3) := by decide +kernel
theorem dX4_come_22 : decode cX4_come 22 = .ok (.iload_n 2, 1) := by decide +kernel
theorem dX4_come_23 : decode cX4_come 23 = .ok (.iaload, 1) := by decide +kernel
theorem dX4_come_24 : decode cX4_come 24 = .ok (.istore_n 3, 1) := by decide +kernel
theorem dX4_come_25 : decode cX4_come 25 = .ok (.aload_n 0, 1) := by decide +kernel
theorem dX4_come_26 : decode cX4_come 26 = .ok (.getfield 11, 3) := by decide +kernel
theorem dX4_come_29 : decode cX4_come 29 = .ok (.iload_n 2, 1) := by decide +kernel
theorem dX4_come_30 : decode cX4_come 30 = .ok (.iconst 1, 1) := by decide +kernel
theorem dX4_come_31 : decode cX4_come 31 = .ok (.iadd, 1) := by decide +kernel
theorem dX4_come_32 : decode cX4_come 32 = .ok (.iaload, 1) := by decide +kernel
theorem dX4_come_33 : decode cX4_come 33 = .ok (.istore 4, 2) := by decide +kernel
theorem dX4_come_35 : decode cX4_come 35 = .ok (.aload_n 0, 1) := by decide +kernel
theorem dX4_come_36 : decode cX4_come 36 = .ok (.getfield 11, 3) := by decide +kernel
theorem dX4_come_39 : decode cX4_come 39 = .ok (.iload_n 2, 1) := by decide +kernel
theorem dX4_come_40 : decode cX4_come 40 = .ok (.iconst 2, 1) := by decide +kernel
theorem dX4_come_41 : decode cX4_come 41 = .ok (.iadd, 1) := by decide +kernel
theorem dX4_come_42 : decode cX4_come 42 = .ok (.iaload, 1) := by decide +kernel
theorem dX4_come_43 : decode cX4_come 43 = .ok (.istore 5, 2) := by decide +kernel
theorem dX4_come_45 : decode cX4_come 45 = .ok (.aload_n 0, 1) := by decide +kernel
theorem dX4_come_46 : decode cX4_come 46 = .ok (.getfield 11, 3) := by decide +kernel
theorem dX4_come_49 : decode cX4_come 49 = .ok (.iload_n 2, 1) := by decide +kernel
theorem dX4_come_50 : decode cX4_come 50 = .ok (.iconst 3, 1) := by decide +kernel
theorem dX4_come_51 : decode cX4_come 51 = .ok (.iadd, 1) := by decide +kernel
theorem dX4_come_52 : decode cX4_come 52 = .ok (.iaload, 1) := by decide +kernel
theorem dX4_come_53 : decode cX4_come 53 = .ok (.istore 6, 2) := by decide +kernel
theorem dX4_come_55 : decode cX4_come 55 = .ok (.aload_n 0, 1) := by decide +kernel
theorem dX4_come_56 : decode cX4_come 56 = .ok (.getfield 11, 3) := by decide +kernel
theorem dX4_come_59 : decode cX4_come 59 = .ok (.iload_n 2, 1) := by decide +kernel
theorem dX4_come_60 : decode cX4_come 60 = .ok (.iconst 4, 1) := by decide +kernel
theorem dX4_come_61 : decode cX4_come 61 = .ok (.iadd, 1) := by decide +kernel
theorem dX4_come_62 : decode cX4_come 62 = .ok (.iaload, 1) := by decide +kernel
theorem dX4_come_63 : decode cX4_come 63 = .ok (.istore 7, 2) := by decide +kernel
theorem dX4_come_65 : decode cX4_come 65 = .ok (.aload_n 0, 1) := by decide +kernel
theorem dX4_come_66 : decode cX4_come 66 = .ok (.getfield 11, 3) := by decide +kernel
theorem dX4_come_69 : decode cX4_come 69 = .ok (.iload_n 2, 1) := by decide +kernel
theorem dX4_come_70 : decode cX4_come 70 = .ok (.iconst 5, 1) := by decide +kernel
theorem dX4_come_71 : decode cX4_come 71 = .ok (.iadd, 1) := by decide +kernel
theorem dX4_come_72 : decode cX4_come 72 = .ok (.iaload, 1) := by decide +kernel
theorem dX4_come_73 : decode cX4_come 73 = .ok (.istore 8, 2) := by decide +kernel
theorem dX4_come_75 : decode cX4_come 75 = .ok (.aload_n 0, 1) := by decide +kernel
theorem dX4_come_76 : decode cX4_come 76 = .ok (.iload_n 1, 1) := by decide +kernel
theorem dX4_come_77 : decode cX4_come 77 = .ok (.invokevirtual 64, 3) := by decide +kernel
theorem dX4_come_80 : decode cX4_come 80 = .ok (.iload 5, 2) := by decide +kernel
theorem dX4_come_82 : decode cX4_come 82 = .ok (.tableswitch 95 0 4 #[34, 46, 59, 73, 83], 34) := by decide +kernel
theorem dX4_come_116 : decode cX4_come 116 = .ok (.aload_n 0, 1) := by decide +kernel
theorem dX4_come_117 : decode cX4_come 117 = .ok (.iload_n 3, 1) := by decide +kernel
theorem dX4_come_118 : decode cX4_come 118 = .ok (.iload 6, 2) := by decide +kernel
theorem dX4_come_120 : decode cX4_come 120 = .ok (.iload 7, 2) := by decide +kernel
theorem dX4_come_122 : decode cX4_come 122 = .ok (.iload 8, 2) := by decide +kernel
theorem dX4_come_124 : decode cX4_come 124 = .ok (.invokevirtual 68, 3) := by decide +kernel
theorem dX4_come_127 : decode cX4_come 127 = .ok (.ireturn, 1) := by decide +kernel
theorem dX4_come_128 : decode cX4_come 128 = .ok (.aload_n 0, 1) := by decide +kernel
theorem dX4_come_129 : decode cX4_come 129 = .ok (.iload 4, 2) := by decide +kernel
theorem dX4_come_131 : decode cX4_come 131 = .ok (.iload 6, 2) := by decide +kernel
theorem dX4_come_133 : decode cX4_come 133 = .ok (.iload 7, 2) := by decide +kernel
theorem dX4_come_135 : decode cX4_come 135 = .ok (.iload 8, 2) := by decide +kernel
theorem dX4_come_137 : decode cX4_come 137 = .ok (.invokevirtual 72, 3) := by decide +kernel
theorem dX4_come_140 : decode cX4_come 140 = .ok (.ireturn, 1) := by decide +kernel
theorem dX4_come_141 : decode cX4_come 141 = .ok (.aload_n 0, 1) := by decide +kernel
theorem dX4_come_142 : decode cX4_come 142 = .ok (.iload_n 3, 1) := by decide +kernel
theorem dX4_come_143 : decode cX4_come 143 = .ok (.iload 4, 2) := by decide +kernel
theorem dX4_come_145 : decode cX4_come 145 = .ok (.iconst 5, 1) := by decide +kernel
theorem dX4_come_146 : decode cX4_come 146 = .ok (.isub, 1) := by decide +kernel
theorem dX4_come_147 : decode cX4_come 147 = .ok (.iload 6, 2) := by decide +kernel
theorem dX4_come_149 : decode cX4_come 149 = .ok (.iload 7, 2) := by decide +kernel
theorem dX4_come_151 : decode cX4_come 151 = .ok (.invokevirtual 75, 3) := by decide +kernel
theorem dX4_come_154 : decode cX4_come 154 = .ok (.ireturn, 1) := by decide +kernel
theorem dX4_come_155 : decode cX4_come 155 = .ok (.aload_n 0, 1) := by decide +kernel
theorem dX4_come_156 : decode cX4_come 156 = .ok (.iload_n 3, 1) := by decide +kernel
theorem dX4_come_157 : decode cX4_come 157 = .ok (.iload 6, 2) := by decide +kernel
theorem dX4_come_159 : decode cX4_come 159 = .ok (.iload 8, 2) := by decide +kernel
theorem dX4_come_161 : decode cX4_come 161 = .ok (.invokevirtual 78, 3) := by decide +kernel
theorem dX4_come_164 : decode cX4_come 164 = .ok (.ireturn, 1) := by decide +kernel
theorem dX4_come_165 : decode cX4_come 165 = .ok (.aload_n 0, 1) := by decide +kernel
theorem dX4_come_166 : decode cX4_come 166 = .ok (.iload_n 3, 1) := by decide +kernel
theorem dX4_come_167 : decode cX4_come 167 = .ok (.iload 6, 2) := by decide +kernel
theorem dX4_come_169 : decode cX4_come 169 = .ok (.iload 7, 2) := by decide +kernel
theorem dX4_come_171 : decode cX4_come 171 = .ok (.iload 8, 2) := by decide +kernel
theorem dX4_come_173 : decode cX4_come 173 = .ok (.invokevirtual 82, 3) := by decide +kernel
theorem dX4_come_176 : decode cX4_come 176 = .ok (.ireturn, 1) := by decide +kernel
theorem dX4_come_177 : decode cX4_come 177 = .ok (.aload_n 0, 1) := by decide +kernel
theorem dX4_come_178 : decode cX4_come 178 = .ok (.iload 4, 2) := by decide +kernel
theorem dX4_come_180 : decode cX4_come 180 = .ok (.iconst 5, 1) := by decide +kernel
theorem dX4_come_181 : decode cX4_come 181 = .ok (.isub, 1) := by decide +kernel
theorem dX4_come_182 : decode cX4_come 182 = .ok (.iload 6, 2) := by decide +kernel
theorem dX4_come_184 : decode cX4_come 184 = .ok (.invokevirtual 85, 3) := by decide +kernel
theorem dX4_come_187 : decode cX4_come 187 = .ok (.ireturn, 1) := by decide +kernel
theorem dX4_askComes_0 : decode cX4_askComes 0 = .ok (.aload_n 0, 1) := by decide +kernel
theorem dX4_askComes_1 : decode cX4_askComes 1 = .ok (.getfield 11, 3) := by decide +kernel
theorem dX4_askComes_4 : decode cX4_askComes 4 = .ok (.iconst 1, 1) := by decide +kernel
theorem dX4_askComes_5 : decode cX4_askComes 5 = .ok (.iaload, 1) := by decide +kernel
theorem dX4_askComes_6 : decode cX4_askComes 6 = .ok (.iconst 2, 1) := by decide +kernel
theorem dX4_askComes_7 : decode cX4_askComes 7 = .ok (.iadd, 1) := by decide +kernel
theorem dX4_askComes_8 : decode cX4_askComes 8 = .ok (.bipush 32, 2) := by decide +kernel
theorem dX4_askComes_10 : decode cX4_askComes 10 = .ok (.if_icmp .gt 18, 3) := by decide +kernel
theorem dX4_askComes_13 : decode cX4_askComes 13 = .ok (.aload_n 0, 1) := by decide +kernel
theorem dX4_askComes_14 : decode cX4_askComes 14 = .ok (.getfield 11, 3) := by decide +kernel
theorem dX4_askComes_17 : decode cX4_askComes 17 = .ok (.iconst 2, 1) := by decide +kernel
theorem dX4_askComes_18 : decode cX4_askComes 18 = .ok (.iaload, 1) := by decide +kernel
theorem dX4_askComes_19 : decode cX4_askComes 19 = .ok (.bipush 16, 2) := by decide +kernel
theorem dX4_askComes_21 : decode cX4_askComes 21 = .ok (.if_icmp .ge 7, 3) := by decide +kernel
theorem dX4_askComes_24 : decode cX4_askComes 24 = .ok (.iconst 1, 1) := by decide +kernel
theorem dX4_askComes_25 : decode cX4_askComes 25 = .ok (.goto 4, 3) := by decide +kernel
theorem dX4_askComes_28 : decode cX4_askComes 28 = .ok (.iconst 0, 1) := by decide +kernel
theorem dX4_askComes_29 : decode cX4_askComes 29 = .ok (.istore 5, 2) := by decide +kernel
theorem dX4_askComes_31 : decode cX4_askComes 31 = .ok (.aload_n 0, 1) := by decide +kernel
theorem dX4_askComes_32 : decode cX4_askComes 32 = .ok (.getfield 15, 3) := by decide +kernel
theorem dX4_askComes_35 : decode cX4_askComes 35 = .ok (.getfield 88, 3) := by decide +kernel
theorem dX4_askComes_38 : decode cX4_askComes 38 = .ok (.ifCond .eq 26, 3) := by decide +kernel
theorem dX4_askComes_41 : decode cX4_askComes 41 = .ok (.iload_n 1, 1) := by decide +kernel
theorem dX4_askComes_42 : decode cX4_askComes 42 = .ok (.invokestatic 33, 3) := by decide +kernel
theorem dX4_askComes_45 : decode cX4_askComes 45 = .ok (.ifCond .eq 19, 3) := by decide +kernel
theorem dX4_askComes_48 : decode cX4_askComes 48 = .ok (.aload_n 0, 1) := by decide +kernel
theorem dX4_askComes_49 : decode cX4_askComes 49 = .ok (.getfield 15, 3) := by decide +kernel
theorem dX4_askComes_52 : decode cX4_askComes 52 = .ok (.iload_n 2, 1) := by decide +kernel
theorem dX4_askComes_53 : decode cX4_askComes 53 = .ok (.invokevirtual 92, 3) := by decide +kernel
theorem dX4_askComes_56 : decode cX4_askComes 56 = .ok (.ifCond .eq 8, 3) := by decide +kernel
theorem dX4_askComes_59 : decode cX4_askComes 59 = .ok (.iload 5, 2) := by decide +kernel
theorem dX4_askComes_61 : decode cX4_askComes 61 = .ok (.ifCond .ne 5, 3) := by decide +kernel
theorem dX4_askComes_64 : decode cX4_askComes 64 = .ok (.iconst 0, 1) := by decide +kernel
theorem dX4_askComes_65 : decode cX4_askComes 65 = .ok (.ireturn, 1) := by decide +kernel
theorem dX4_askComes_66 : decode cX4_askComes 66 = .ok (.aload_n 0, 1) := by decide +kernel
theorem dX4_askComes_67 : decode cX4_askComes 67 = .ok (.getfield 15, 3) := by decide +kernel
theorem dX4_askComes_70 : decode cX4_askComes 70 = .ok (.getfield 95, 3) := by decide +kernel
theorem dX4_askComes_73 : decode cX4_askComes 73 = .ok (.iload_n 1, 1) := by decide +kernel
theorem dX4_askComes_74 : decode cX4_askComes 74 = .ok (.iaload, 1) := by decide +kernel
theorem dX4_askComes_75 : decode cX4_askComes 75 = .ok (.istore 6, 2) := by decide +kernel
theorem dX4_askComes_77 : decode cX4_askComes 77 = .ok (.iload 6, 2) := by decide +kernel
theorem dX4_askComes_79 : decode cX4_askComes 79 = .ok (.iconst (-1), 1) := by decide +kernel
theorem dX4_askComes_80 : decode cX4_askComes 80 = .ok (.if_icmp .ne 5, 3) := by decide +kernel
theorem dX4_askComes_83 : decode cX4_askComes 83 = .ok (.iconst 0, 1) := by decide +kernel
theorem dX4_askComes_84 : decode cX4_askComes 84 = .ok (.ireturn, 1) := by decide +kernel
theorem dX4_askComes_85 : decode cX4_askComes 85 = .ok (.aload_n 0, 1) := by decide +kernel
theorem dX4_askComes_86 : decode cX4_askComes 86 = .ok (.iload_n 1, 1) := by decide +kernel
theorem dX4_askComes_87 : decode cX4_askComes 87 = .ok (.invokevirtual 98, 3) := by decide +kernel
theorem dX4_askComes_90 : decode cX4_askComes 90 = .ok (.istore 7, 2) := by decide +kernel
theorem dX4_askComes_92 : decode cX4_askComes 92 = .ok (.aload_n 0, 1) := by decide +kernel
theorem dX4_askComes_93 : decode cX4_askComes 93 = .ok (.getfield 11, 3) := by decide +kernel
theorem dX4_askComes_96 : decode cX4_askComes 96 = .ok (.iconst 1, 1) := by decide +kernel
theorem dX4_askComes_97 : decode cX4_askComes 97 = .ok (.iaload, 1) := by decide +kernel
theorem dX4_askComes_98 : decode cX4_askComes 98 = .ok (.istore 8, 2) := by decide +kernel
theorem dX4_askComes_100 : decode cX4_askComes 100 = .ok (.sipush 142, 3) := by decide +kernel
theorem dX4_askComes_103 : decode cX4_askComes 103 = .ok (.iload 8, 2) := by decide +kernel
theorem dX4_askComes_105 : decode cX4_askComes 105 = .ok (.bipush 11, 2) := by decide +kernel
theorem dX4_askComes_107 : decode cX4_askComes 107 = .ok (.imul, 1) := by decide +kernel
theorem dX4_askComes_108 : decode cX4_askComes 108 = .ok (.iadd, 1) := by decide +kernel
theorem dX4_askComes_109 : decode cX4_askComes 109 = .ok (.istore 9, 2) := by decide +kernel
theorem dX4_askComes_111 : decode cX4_askComes 111 = .ok (.aload_n 0, 1) := by decide +kernel
theorem dX4_askComes_112 : decode cX4_askComes 112 = .ok (.getfield 11, 3) := by decide +kernel
theorem dX4_askComes_115 : decode cX4_askComes 115 = .ok (.iload 9, 2) := by decide +kernel
theorem dX4_askComes_117 : decode cX4_askComes 117 = .ok (.iconst 1, 1) := by decide +kernel
theorem dX4_askComes_118 : decode cX4_askComes 118 = .ok (.iadd, 1) := by decide +kernel
theorem dX4_askComes_119 : decode cX4_askComes 119 = .ok (.iload_n 1, 1) := by decide +kernel
theorem dX4_askComes_120 : decode cX4_askComes 120 = .ok (.iastore, 1) := by decide +kernel
theorem dX4_askComes_121 : decode cX4_askComes 121 = .ok (.aload_n 0, 1) := by decide +kernel
theorem dX4_askComes_122 : decode cX4_askComes 122 = .ok (.getfield 11, 3) := by decide +kernel
theorem dX4_askComes_125 : decode cX4_askComes 125 = .ok (.iload 9, 2) := by decide +kernel
theorem dX4_askComes_127 : decode cX4_askComes 127 = .ok (.iconst 2, 1) := by decide +kernel
theorem dX4_askComes_128 : decode cX4_askComes 128 = .ok (.iadd, 1) := by decide +kernel
theorem dX4_askComes_129 : decode cX4_askComes 129 = .ok (.iload_n 2, 1) := by decide +kernel
theorem dX4_askComes_130 : decode cX4_askComes 130 = .ok (.iastore, 1) := by decide +kernel
theorem dX4_askComes_131 : decode cX4_askComes 131 = .ok (.aload_n 0, 1) := by decide +kernel
theorem dX4_askComes_132 : decode cX4_askComes 132 = .ok (.getfield 11, 3) := by decide +kernel
theorem dX4_askComes_135 : decode cX4_askComes 135 = .ok (.iload 9, 2) := by decide +kernel
theorem dX4_askComes_137 : decode cX4_askComes 137 = .ok (.iconst 3, 1) := by decide +kernel
theorem dX4_askComes_138 : decode cX4_askComes 138 = .ok (.iadd, 1) := by decide +kernel
theorem dX4_askComes_139 : decode cX4_askComes 139 = .ok (.iload_n 3, 1) := by decide +kernel
theorem dX4_askComes_140 : decode cX4_askComes 140 = .ok (.iastore, 1) := by decide +kernel
theorem dX4_askComes_141 : decode cX4_askComes 141 = .ok (.aload_n 0, 1) := by decide +kernel
theorem dX4_askComes_142 : decode cX4_askComes 142 = .ok (.getfield 11, 3) := by decide +kernel
theorem dX4_askComes_145 : decode cX4_askComes 145 = .ok (.iload 9, 2) := by decide +kernel
theorem dX4_askComes_147 : decode cX4_askComes 147 = .ok (.bipush 6, 2) := by decide +kernel
theorem dX4_askComes_149 : decode cX4_askComes 149 = .ok (.iadd, 1) := by decide +kernel
theorem dX4_askComes_150 : decode cX4_askComes 150 = .ok (.iload 7, 2) := by decide +kernel
theorem dX4_askComes_152 : decode cX4_askComes 152 = .ok (.iastore, 1) := by decide +kernel
theorem dX4_askComes_153 : decode cX4_askComes 153 = .ok (.aload_n 0, 1) := by decide +kernel
theorem dX4_askComes_154 : decode cX4_askComes 154 = .ok (.getfield 11, 3) := by decide +kernel
theorem dX4_askComes_157 : decode cX4_askComes 157 = .ok (.iload 9, 2) := by decide +kernel
theorem dX4_askComes_159 : decode cX4_askComes 159 = .ok (.bipush 7, 2) := by decide +kernel
theorem dX4_askComes_161 : decode cX4_askComes 161 = .ok (.iadd, 1) := by decide +kernel
theorem dX4_askComes_162 : decode cX4_askComes 162 = .ok (.iload 6, 2) := by decide +kernel
theorem dX4_askComes_164 : decode cX4_askComes 164 = .ok (.iastore, 1) := by decide +kernel
theorem dX4_askComes_165 : decode cX4_askComes 165 = .ok (.aload_n 0, 1) := by decide +kernel
theorem dX4_askComes_166 : decode cX4_askComes 166 = .ok (.iload 8, 2) := by decide +kernel
theorem dX4_askComes_168 : decode cX4_askComes 168 = .ok (.iconst 0, 1) := by decide +kernel
theorem dX4_askComes_169 : decode cX4_askComes 169 = .ok (.aload_n 0, 1) := by decide +kernel
theorem dX4_askComes_170 : decode cX4_askComes 170 = .ok (.getfield 11, 3) := by decide +kernel
theorem dX4_askComes_173 : decode cX4_askComes 173 = .ok (.iconst 0, 1) := by decide +kernel
theorem dX4_askComes_174 : decode cX4_askComes 174 = .ok (.iaload, 1) := by decide +kernel
theorem dX4_askComes_175 : decode cX4_askComes 175 = .ok (.aload_n 0, 1) := by decide +kernel
theorem dX4_askComes_176 : decode cX4_askComes 176 = .ok (.getfield 15, 3) := by decide +kernel
theorem dX4_askComes_179 : decode cX4_askComes 179 = .ok (.getfield 102, 3) := by decide +kernel
theorem dX4_askComes_182 : decode cX4_askComes 182 = .ok (.iadd, 1) := by decide +kernel
theorem dX4_askComes_183 : decode cX4_askComes 183 = .ok (.invokevirtual 105, 3) := by decide +kernel
theorem dX4_askComes_186 : decode cX4_askComes 186 = .ok (.pop, 1) := by decide +kernel
theorem dX4_askComes_187 : decode cX4_askComes 187 = .ok (.aload_n 0, 1) := by decide +kernel
theorem dX4_askComes_188 : decode cX4_askComes 188 = .ok (.iload 8, 2) := by decide +kernel
theorem dX4_askComes_190 : decode cX4_askComes 190 = .ok (.iconst 1, 1) := by decide +kernel
theorem dX4_askComes_191 : decode cX4_askComes 191 = .ok (.aload_n 0, 1) := by decide +kernel
theorem dX4_askComes_192 : decode cX4_askComes 192 = .ok (.getfield 11, 3) := by decide +kernel
theorem dX4_askComes_195 : decode cX4_askComes 195 = .ok (.iconst 0, 1) := by decide +kernel
theorem dX4_askComes_196 : decode cX4_askComes 196 = .ok (.iaload, 1) := by decide +kernel
theorem dX4_askComes_197 : decode cX4_askComes 197 = .ok (.aload_n 0, 1) := by decide +kernel
theorem dX4_askComes_198 : decode cX4_askComes 198 = .ok (.getfield 15, 3) := by decide +kernel
theorem dX4_askComes_201 : decode cX4_askComes 201 = .ok (.getfield 108, 3) := by decide +kernel
theorem dX4_askComes_204 : decode cX4_askComes 204 = .ok (.iadd, 1) := by decide +kernel
theorem dX4_askComes_205 : decode cX4_askComes 205 = .ok (.invokevirtual 105, 3) := by decide +kernel
theorem dX4_askComes_208 : decode cX4_askComes 208 = .ok (.pop, 1) := by decide +kernel
theorem dX4_askComes_209 : decode cX4_askComes 209 = .ok (.aload_n 0, 1) := by decide +kernel
theorem dX4_askComes_210 : decode cX4_askComes 210 = .ok (.bipush 9, 2) := by decide +kernel
theorem dX4_askComes_212 : decode cX4_askComes 212 = .ok (.iload_n 1, 1) := by decide +kernel
theorem dX4_askComes_213 : decode cX4_askComes 213 = .ok (.iconst 1, 1) := by decide +kernel
theorem dX4_askComes_214 : decode cX4_askComes 214 = .ok (.iload 8, 2) := by decide +kernel
theorem dX4_askComes_216 : decode cX4_askComes 216 = .ok (.iload 8, 2) := by decide +kernel
theorem dX4_askComes_218 : decode cX4_askComes 218 = .ok (.iconst 1, 1) := by decide +kernel
theorem dX4_askComes_219 : decode cX4_askComes 219 = .ok (.iadd, 1) := by decide +kernel
theorem dX4_askComes_220 : decode cX4_askComes 220 = .ok (.iload 4, 2) := by decide +kernel
theorem dX4_askComes_222 : decode cX4_askComes 222 = .ok (.invokevirtual 54, 3) := by decide +kernel
theorem dX4_askComes_225 : decode cX4_askComes 225 = .ok (.iconst 1, 1) := by decide +kernel
theorem dX4_askComes_226 : decode cX4_askComes 226 = .ok (.ireturn, 1) := by decide +kernel
theorem dX4_beginFamily_0 : decode cX4_beginFamily 0 = .ok (.aload_n 0, 1) := by decide +kernel
theorem dX4_beginFamily_1 : decode cX4_beginFamily 1 = .ok (.getfield 11, 3) := by decide +kernel
theorem dX4_beginFamily_4 : decode cX4_beginFamily 4 = .ok (.iconst 2, 1) := by decide +kernel
theorem dX4_beginFamily_5 : decode cX4_beginFamily 5 = .ok (.iaload, 1) := by decide +kernel
theorem dX4_beginFamily_6 : decode cX4_beginFamily 6 = .ok (.istore_n 2, 1) := by decide +kernel
theorem dX4_beginFamily_7 : decode cX4_beginFamily 7 = .ok (.iload_n 2, 1) := by decide +kernel
theorem dX4_beginFamily_8 : decode cX4_beginFamily 8 = .ok (.ifCond .lt 9, 3) := by decide +kernel
theorem dX4_beginFamily_11 : decode cX4_beginFamily 11 = .ok (.iload_n 2, 1) := by decide +kernel
theorem dX4_beginFamily_12 : decode cX4_beginFamily 12 = .ok (.bipush 16, 2) := by decide +kernel
theorem dX4_beginFamily_14 : decode cX4_beginFamily 14 = .ok (.if_icmp .lt 5, 3) := by decide +kernel
theorem dX4_beginFamily_17 : decode cX4_beginFamily 17 = .ok (.iconst (-1), 1) := by decide +kernel
theorem dX4_beginFamily_18 : decode cX4_beginFamily 18 = .ok (.ireturn, 1) := by decide +kernel
theorem dX4_beginFamily_19 : decode cX4_beginFamily 19 = .ok (.aload_n 0, 1) := by decide +kernel
theorem dX4_beginFamily_20 : decode cX4_beginFamily 20 = .ok (.getfield 11, 3) := by decide +kernel
theorem dX4_beginFamily_23 : decode cX4_beginFamily 23 = .ok (.bipush 26, 2) := by decide +kernel
theorem dX4_beginFamily_25 : decode cX4_beginFamily 25 = .ok (.iload_n 2, 1) := by decide +kernel
theorem dX4_beginFamily_26 : decode cX4_beginFamily 26 = .ok (.iconst 2, 1) := by decide +kernel
theorem dX4_beginFamily_27 : decode cX4_beginFamily 27 = .ok (.imul, 1) := by decide +kernel
theorem dX4_beginFamily_28 : decode cX4_beginFamily 28 = .ok (.iadd, 1) := by decide +kernel
theorem dX4_beginFamily_29 : decode cX4_beginFamily 29 = .ok (.iconst 0, 1) := by decide +kernel
theorem dX4_beginFamily_30 : decode cX4_beginFamily 30 = .ok (.iadd, 1) := by decide +kernel
theorem dX4_beginFamily_31 : decode cX4_beginFamily 31 = .ok (.iload_n 1, 1) := by decide +kernel
theorem dX4_beginFamily_32 : decode cX4_beginFamily 32 = .ok (.iastore, 1) := by decide +kernel
theorem dX4_beginFamily_33 : decode cX4_beginFamily 33 = .ok (.aload_n 0, 1) := by decide +kernel
theorem dX4_beginFamily_34 : decode cX4_beginFamily 34 = .ok (.getfield 11, 3) := by decide +kernel
theorem dX4_beginFamily_37 : decode cX4_beginFamily 37 = .ok (.bipush 26, 2) := by decide +kernel
theorem dX4_beginFamily_39 : decode cX4_beginFamily 39 = .ok (.iload_n 2, 1) := by decide +kernel
theorem dX4_beginFamily_40 : decode cX4_beginFamily 40 = .ok (.iconst 2, 1) := by decide +kernel
theorem dX4_beginFamily_41 : decode cX4_beginFamily 41 = .ok (.imul, 1) := by decide +kernel
theorem dX4_beginFamily_42 : decode cX4_beginFamily 42 = .ok (.iadd, 1) := by decide +kernel
theorem dX4_beginFamily_43 : decode cX4_beginFamily 43 = .ok (.iconst 1, 1) := by decide +kernel
theorem dX4_beginFamily_44 : decode cX4_beginFamily 44 = .ok (.iadd, 1) := by decide +kernel
theorem dX4_beginFamily_45 : decode cX4_beginFamily 45 = .ok (.iconst (-1), 1) := by decide +kernel
theorem dX4_beginFamily_46 : decode cX4_beginFamily 46 = .ok (.iastore, 1) := by decide +kernel
theorem dX4_beginFamily_47 : decode cX4_beginFamily 47 = .ok (.aload_n 0, 1) := by decide +kernel
theorem dX4_beginFamily_48 : decode cX4_beginFamily 48 = .ok (.getfield 11, 3) := by decide +kernel
theorem dX4_beginFamily_51 : decode cX4_beginFamily 51 = .ok (.iconst 2, 1) := by decide +kernel
theorem dX4_beginFamily_52 : decode cX4_beginFamily 52 = .ok (.iload_n 2, 1) := by decide +kernel
theorem dX4_beginFamily_53 : decode cX4_beginFamily 53 = .ok (.iconst 1, 1) := by decide +kernel
theorem dX4_beginFamily_54 : decode cX4_beginFamily 54 = .ok (.iadd, 1) := by decide +kernel
theorem dX4_beginFamily_55 : decode cX4_beginFamily 55 = .ok (.iastore, 1) := by decide +kernel
theorem dX4_beginFamily_56 : decode cX4_beginFamily 56 = .ok (.iload_n 2, 1) := by decide +kernel
theorem dX4_beginFamily_57 : decode cX4_beginFamily 57 = .ok (.ireturn, 1) := by decide +kernel
theorem dX4_addNoteLike_0 : decode cX4_addNoteLike 0 = .ok (.aload_n 0, 1) := by decide +kernel
theorem dX4_addNoteLike_1 : decode cX4_addNoteLike 1 = .ok (.getfield 11, 3) := by decide +kernel
theorem dX4_addNoteLike_4 : decode cX4_addNoteLike 4 = .ok (.iconst 1, 1) := by decide +kernel
theorem dX4_addNoteLike_5 : decode cX4_addNoteLike 5 = .ok (.iaload, 1) := by decide +kernel
theorem dX4_addNoteLike_6 : decode cX4_addNoteLike 6 = .ok (.istore 4, 2) := by decide +kernel
theorem dX4_addNoteLike_8 : decode cX4_addNoteLike 8 = .ok (.iload 4, 2) := by decide +kernel
theorem dX4_addNoteLike_10 : decode cX4_addNoteLike 10 = .ok (.ifCond .lt 20, 3) := by decide +kernel
theorem dX4_addNoteLike_13 : decode cX4_addNoteLike 13 = .ok (.iload 4, 2) := by decide +kernel
theorem dX4_addNoteLike_15 : decode cX4_addNoteLike 15 = .ok (.bipush 32, 2) := by decide +kernel
theorem dX4_addNoteLike_17 : decode cX4_addNoteLike 17 = .ok (.if_icmp .ge 13, 3) := by decide +kernel
theorem dX4_addNoteLike_20 : decode cX4_addNoteLike 20 = .ok (.iload_n 1, 1) := by decide +kernel
theorem dX4_addNoteLike_21 : decode cX4_addNoteLike 21 = .ok (.ifCond .lt 9, 3) := by decide +kernel
theorem dX4_addNoteLike_24 : decode cX4_addNoteLike 24 = .ok (.iload_n 1, 1) := by decide +kernel
theorem dX4_addNoteLike_25 : decode cX4_addNoteLike 25 = .ok (.bipush 32, 2) := by decide +kernel
theorem dX4_addNoteLike_27 : decode cX4_addNoteLike 27 = .ok (.if_icmp .lt 5, 3) := by decide +kernel
theorem dX4_addNoteLike_30 : decode cX4_addNoteLike 30 = .ok (.iconst (-1), 1) := by decide +kernel
theorem dX4_addNoteLike_31 : decode cX4_addNoteLike 31 = .ok (.ireturn, 1) := by decide +kernel
theorem dX4_addNoteLike_32 : decode cX4_addNoteLike 32 = .ok (.sipush 142, 3) := by decide +kernel
theorem dX4_addNoteLike_35 : decode cX4_addNoteLike 35 = .ok (.iload 4, 2) := by decide +kernel
theorem dX4_addNoteLike_37 : decode cX4_addNoteLike 37 = .ok (.bipush 11, 2) := by decide +kernel
theorem dX4_addNoteLike_39 : decode cX4_addNoteLike 39 = .ok (.imul, 1) := by decide +kernel
theorem dX4_addNoteLike_40 : decode cX4_addNoteLike 40 = .ok (.iadd, 1) := by decide +kernel
theorem dX4_addNoteLike_41 : decode cX4_addNoteLike 41 = .ok (.istore 5, 2) := by decide +kernel
theorem dX4_addNoteLike_43 : decode cX4_addNoteLike 43 = .ok (.sipush 142, 3) := by decide +kernel
theorem dX4_addNoteLike_46 : decode cX4_addNoteLike 46 = .ok (.iload_n 1, 1) := by decide +kernel
theorem dX4_addNoteLike_47 : decode cX4_addNoteLike 47 = .ok (.bipush 11, 2) := by decide +kernel
theorem dX4_addNoteLike_49 : decode cX4_addNoteLike 49 = .ok (.imul, 1) := by decide +kernel
theorem dX4_addNoteLike_50 : decode cX4_addNoteLike 50 = .ok (.iadd, 1) := by decide +kernel
theorem dX4_addNoteLike_51 : decode cX4_addNoteLike 51 = .ok (.istore 6, 2) := by decide +kernel
theorem dX4_addNoteLike_53 : decode cX4_addNoteLike 53 = .ok (.aload_n 0, 1) := by decide +kernel
theorem dX4_addNoteLike_54 : decode cX4_addNoteLike 54 = .ok (.getfield 11, 3) := by decide +kernel
theorem dX4_addNoteLike_57 : decode cX4_addNoteLike 57 = .ok (.iload 5, 2) := by decide +kernel
theorem dX4_addNoteLike_59 : decode cX4_addNoteLike 59 = .ok (.iconst 0, 1) := by decide +kernel
theorem dX4_addNoteLike_60 : decode cX4_addNoteLike 60 = .ok (.iadd, 1) := by decide +kernel
theorem dX4_addNoteLike_61 : decode cX4_addNoteLike 61 = .ok (.iload_n 2, 1) := by decide +kernel
theorem dX4_addNoteLike_62 : decode cX4_addNoteLike 62 = .ok (.iastore, 1) := by decide +kernel
theorem dX4_addNoteLike_63 : decode cX4_addNoteLike 63 = .ok (.aload_n 0, 1) := by decide +kernel
theorem dX4_addNoteLike_64 : decode cX4_addNoteLike 64 = .ok (.getfield 11, 3) := by decide +kernel
theorem dX4_addNoteLike_67 : decode cX4_addNoteLike 67 = .ok (.iload 5, 2) := by decide +kernel
theorem dX4_addNoteLike_69 : decode cX4_addNoteLike 69 = .ok (.iconst 1, 1) := by decide +kernel
theorem dX4_addNoteLike_70 : decode cX4_addNoteLike 70 = .ok (.iadd, 1) := by decide +kernel
theorem dX4_addNoteLike_71 : decode cX4_addNoteLike 71 = .ok (.aload_n 0, 1) := by decide +kernel
theorem dX4_addNoteLike_72 : decode cX4_addNoteLike 72 = .ok (.getfield 11, 3) := by decide +kernel
theorem dX4_addNoteLike_75 : decode cX4_addNoteLike 75 = .ok (.iload 6, 2) := by decide +kernel
theorem dX4_addNoteLike_77 : decode cX4_addNoteLike 77 = .ok (.iconst 1, 1) := by decide +kernel
theorem dX4_addNoteLike_78 : decode cX4_addNoteLike 78 = .ok (.iadd, 1) := by decide +kernel
theorem dX4_addNoteLike_79 : decode cX4_addNoteLike 79 = .ok (.iaload, 1) := by decide +kernel
theorem dX4_addNoteLike_80 : decode cX4_addNoteLike 80 = .ok (.iastore, 1) := by decide +kernel
theorem dX4_addNoteLike_81 : decode cX4_addNoteLike 81 = .ok (.aload_n 0, 1) := by decide +kernel
theorem dX4_addNoteLike_82 : decode cX4_addNoteLike 82 = .ok (.getfield 11, 3) := by decide +kernel
theorem dX4_addNoteLike_85 : decode cX4_addNoteLike 85 = .ok (.iload 5, 2) := by decide +kernel
theorem dX4_addNoteLike_87 : decode cX4_addNoteLike 87 = .ok (.iconst 2, 1) := by decide +kernel
theorem dX4_addNoteLike_88 : decode cX4_addNoteLike 88 = .ok (.iadd, 1) := by decide +kernel
theorem dX4_addNoteLike_89 : decode cX4_addNoteLike 89 = .ok (.aload_n 0, 1) := by decide +kernel
theorem dX4_addNoteLike_90 : decode cX4_addNoteLike 90 = .ok (.getfield 11, 3) := by decide +kernel
theorem dX4_addNoteLike_93 : decode cX4_addNoteLike 93 = .ok (.iload 6, 2) := by decide +kernel
theorem dX4_addNoteLike_95 : decode cX4_addNoteLike 95 = .ok (.iconst 2, 1) := by decide +kernel
theorem dX4_addNoteLike_96 : decode cX4_addNoteLike 96 = .ok (.iadd, 1) := by decide +kernel
theorem dX4_addNoteLike_97 : decode cX4_addNoteLike 97 = .ok (.iaload, 1) := by decide +kernel
theorem dX4_addNoteLike_98 : decode cX4_addNoteLike 98 = .ok (.iastore, 1) := by decide +kernel
theorem dX4_addNoteLike_99 : decode cX4_addNoteLike 99 = .ok (.aload_n 0, 1) := by decide +kernel
theorem dX4_addNoteLike_100 : decode cX4_addNoteLike 100 = .ok (.getfield 11, 3) := by decide +kernel
theorem dX4_addNoteLike_103 : decode cX4_addNoteLike 103 = .ok (.iload 5, 2) := by decide +kernel
theorem dX4_addNoteLike_105 : decode cX4_addNoteLike 105 = .ok (.iconst 3, 1) := by decide +kernel
theorem dX4_addNoteLike_106 : decode cX4_addNoteLike 106 = .ok (.iadd, 1) := by decide +kernel
theorem dX4_addNoteLike_107 : decode cX4_addNoteLike 107 = .ok (.aload_n 0, 1) := by decide +kernel
theorem dX4_addNoteLike_108 : decode cX4_addNoteLike 108 = .ok (.getfield 11, 3) := by decide +kernel
theorem dX4_addNoteLike_111 : decode cX4_addNoteLike 111 = .ok (.iload 6, 2) := by decide +kernel
theorem dX4_addNoteLike_113 : decode cX4_addNoteLike 113 = .ok (.iconst 3, 1) := by decide +kernel
theorem dX4_addNoteLike_114 : decode cX4_addNoteLike 114 = .ok (.iadd, 1) := by decide +kernel
theorem dX4_addNoteLike_115 : decode cX4_addNoteLike 115 = .ok (.iaload, 1) := by decide +kernel
theorem dX4_addNoteLike_116 : decode cX4_addNoteLike 116 = .ok (.iastore, 1) := by decide +kernel
theorem dX4_addNoteLike_117 : decode cX4_addNoteLike 117 = .ok (.aload_n 0, 1) := by decide +kernel
theorem dX4_addNoteLike_118 : decode cX4_addNoteLike 118 = .ok (.getfield 11, 3) := by decide +kernel
theorem dX4_addNoteLike_121 : decode cX4_addNoteLike 121 = .ok (.iload 5, 2) := by decide +kernel
theorem dX4_addNoteLike_123 : decode cX4_addNoteLike 123 = .ok (.iconst 4, 1) := by decide +kernel
theorem dX4_addNoteLike_124 : decode cX4_addNoteLike 124 = .ok (.iadd, 1) := by decide +kernel
theorem dX4_addNoteLike_125 : decode cX4_addNoteLike 125 = .ok (.aload_n 0, 1) := by decide +kernel
theorem dX4_addNoteLike_126 : decode cX4_addNoteLike 126 = .ok (.getfield 11, 3) := by decide +kernel
theorem dX4_addNoteLike_129 : decode cX4_addNoteLike 129 = .ok (.iconst 0, 1) := by decide +kernel
theorem dX4_addNoteLike_130 : decode cX4_addNoteLike 130 = .ok (.iaload, 1) := by decide +kernel
theorem dX4_addNoteLike_131 : decode cX4_addNoteLike 131 = .ok (.iastore, 1) := by decide +kernel
theorem dX4_addNoteLike_132 : decode cX4_addNoteLike 132 = .ok (.aload_n 0, 1) := by decide +kernel
theorem dX4_addNoteLike_133 : decode cX4_addNoteLike 133 = .ok (.getfield 11, 3) := by decide +kernel
theorem dX4_addNoteLike_136 : decode cX4_addNoteLike 136 = .ok (.iload 5, 2) := by decide +kernel
theorem dX4_addNoteLike_138 : decode cX4_addNoteLike 138 = .ok (.iconst 5, 1) := by decide +kernel
theorem dX4_addNoteLike_139 : decode cX4_addNoteLike 139 = .ok (.iadd, 1) := by decide +kernel
theorem dX4_addNoteLike_140 : decode cX4_addNoteLike 140 = .ok (.iload_n 3, 1) := by decide +kernel
theorem dX4_addNoteLike_141 : decode cX4_addNoteLike 141 = .ok (.iastore, 1) := by decide +kernel
theorem dX4_addNoteLike_142 : decode cX4_addNoteLike 142 = .ok (.aload_n 0, 1) := by decide +kernel
theorem dX4_addNoteLike_143 : decode cX4_addNoteLike 143 = .ok (.getfield 11, 3) := by decide +kernel
theorem dX4_addNoteLike_146 : decode cX4_addNoteLike 146 = .ok (.iload 5, 2) := by decide +kernel
theorem dX4_addNoteLike_148 : decode cX4_addNoteLike 148 = .ok (.bipush 6, 2) := by decide +kernel
theorem dX4_addNoteLike_150 : decode cX4_addNoteLike 150 = .ok (.iadd, 1) := by decide +kernel
theorem dX4_addNoteLike_151 : decode cX4_addNoteLike 151 = .ok (.aload_n 0, 1) := by decide +kernel
theorem dX4_addNoteLike_152 : decode cX4_addNoteLike 152 = .ok (.getfield 11, 3) := by decide +kernel
theorem dX4_addNoteLike_155 : decode cX4_addNoteLike 155 = .ok (.iload 6, 2) := by decide +kernel
theorem dX4_addNoteLike_157 : decode cX4_addNoteLike 157 = .ok (.bipush 6, 2) := by decide +kernel
theorem dX4_addNoteLike_159 : decode cX4_addNoteLike 159 = .ok (.iadd, 1) := by decide +kernel
theorem dX4_addNoteLike_160 : decode cX4_addNoteLike 160 = .ok (.iaload, 1) := by decide +kernel
theorem dX4_addNoteLike_161 : decode cX4_addNoteLike 161 = .ok (.iastore, 1) := by decide +kernel
theorem dX4_addNoteLike_162 : decode cX4_addNoteLike 162 = .ok (.aload_n 0, 1) := by decide +kernel
theorem dX4_addNoteLike_163 : decode cX4_addNoteLike 163 = .ok (.getfield 11, 3) := by decide +kernel
theorem dX4_addNoteLike_166 : decode cX4_addNoteLike 166 = .ok (.iload 5, 2) := by decide +kernel
theorem dX4_addNoteLike_168 : decode cX4_addNoteLike 168 = .ok (.bipush 7, 2) := by decide +kernel
theorem dX4_addNoteLike_170 : decode cX4_addNoteLike 170 = .ok (.iadd, 1) := by decide +kernel
theorem dX4_addNoteLike_171 : decode cX4_addNoteLike 171 = .ok (.aload_n 0, 1) := by decide +kernel
theorem dX4_addNoteLike_172 : decode cX4_addNoteLike 172 = .ok (.getfield 11, 3) := by decide +kernel
theorem dX4_addNoteLike_175 : decode cX4_addNoteLike 175 = .ok (.iload 6, 2) := by decide +kernel
theorem dX4_addNoteLike_177 : decode cX4_addNoteLike 177 = .ok (.bipush 7, 2) := by decide +kernel
theorem dX4_addNoteLike_179 : decode cX4_addNoteLike 179 = .ok (.iadd, 1) := by decide +kernel
theorem dX4_addNoteLike_180 : decode cX4_addNoteLike 180 = .ok (.iaload, 1) := by decide +kernel
theorem dX4_addNoteLike_181 : decode cX4_addNoteLike 181 = .ok (.iastore, 1) := by decide +kernel
theorem dX4_addNoteLike_182 : decode cX4_addNoteLike 182 = .ok (.aload_n 0, 1) := by decide +kernel
theorem dX4_addNoteLike_183 : decode cX4_addNoteLike 183 = .ok (.getfield 11, 3) := by decide +kernel
theorem dX4_addNoteLike_186 : decode cX4_addNoteLike 186 = .ok (.iload 5, 2) := by decide +kernel
theorem dX4_addNoteLike_188 : decode cX4_addNoteLike 188 = .ok (.bipush 8, 2) := by decide +kernel
theorem dX4_addNoteLike_190 : decode cX4_addNoteLike 190 = .ok (.iadd, 1) := by decide +kernel
theorem dX4_addNoteLike_191 : decode cX4_addNoteLike 191 = .ok (.iconst (-1), 1) := by decide +kernel
theorem dX4_addNoteLike_192 : decode cX4_addNoteLike 192 = .ok (.iastore, 1) := by decide +kernel
theorem dX4_addNoteLike_193 : decode cX4_addNoteLike 193 = .ok (.aload_n 0, 1) := by decide +kernel
theorem dX4_addNoteLike_194 : decode cX4_addNoteLike 194 = .ok (.getfield 11, 3) := by decide +kernel
theorem dX4_addNoteLike_197 : decode cX4_addNoteLike 197 = .ok (.iload 5, 2) := by decide +kernel
theorem dX4_addNoteLike_199 : decode cX4_addNoteLike 199 = .ok (.bipush 9, 2) := by decide +kernel
theorem dX4_addNoteLike_201 : decode cX4_addNoteLike 201 = .ok (.iadd, 1) := by decide +kernel
theorem dX4_addNoteLike_202 : decode cX4_addNoteLike 202 = .ok (.iconst 0, 1) := by decide +kernel
theorem dX4_addNoteLike_203 : decode cX4_addNoteLike 203 = .ok (.iastore, 1) := by decide +kernel
theorem dX4_addNoteLike_204 : decode cX4_addNoteLike 204 = .ok (.aload_n 0, 1) := by decide +kernel
theorem dX4_addNoteLike_205 : decode cX4_addNoteLike 205 = .ok (.getfield 11, 3) := by decide +kernel
theorem dX4_addNoteLike_208 : decode cX4_addNoteLike 208 = .ok (.iload 5, 2) := by decide +kernel
theorem dX4_addNoteLike_210 : decode cX4_addNoteLike 210 = .ok (.bipush 10, 2) := by decide +kernel
theorem dX4_addNoteLike_212 : decode cX4_addNoteLike 212 = .ok (.iadd, 1) := by decide +kernel
theorem dX4_addNoteLike_213 : decode cX4_addNoteLike 213 = .ok (.iconst 0, 1) := by decide +kernel
theorem dX4_addNoteLike_214 : decode cX4_addNoteLike 214 = .ok (.iastore, 1) := by decide +kernel
theorem dX4_addNoteLike_215 : decode cX4_addNoteLike 215 = .ok (.aload_n 0, 1) := by decide +kernel
theorem dX4_addNoteLike_216 : decode cX4_addNoteLike 216 = .ok (.getfield 11, 3) := by decide +kernel
theorem dX4_addNoteLike_219 : decode cX4_addNoteLike 219 = .ok (.iconst 1, 1) := by decide +kernel
theorem dX4_addNoteLike_220 : decode cX4_addNoteLike 220 = .ok (.iload 4, 2) := by decide +kernel
theorem dX4_addNoteLike_222 : decode cX4_addNoteLike 222 = .ok (.iconst 1, 1) := by decide +kernel
theorem dX4_addNoteLike_223 : decode cX4_addNoteLike 223 = .ok (.iadd, 1) := by decide +kernel
theorem dX4_addNoteLike_224 : decode cX4_addNoteLike 224 = .ok (.iastore, 1) := by decide +kernel
theorem dX4_addNoteLike_225 : decode cX4_addNoteLike 225 = .ok (.iload 4, 2) := by decide +kernel
theorem dX4_addNoteLike_227 : decode cX4_addNoteLike 227 = .ok (.ireturn, 1) := by decide +kernel
theorem dX4_turnComes_0 : decode cX4_turnComes 0 = .ok (.aload_n 0, 1) := by decide +kernel
theorem dX4_turnComes_1 : decode cX4_turnComes 1 = .ok (.iload_n 2, 1) := by decide +kernel
theorem dX4_turnComes_2 : decode cX4_turnComes 2 = .ok (.invokevirtual 111, 3) := by decide +kernel
theorem dX4_turnComes_5 : decode cX4_turnComes 5 = .ok (.istore 4, 2) := by decide +kernel
theorem dX4_turnComes_7 : decode cX4_turnComes 7 = .ok (.iload 4, 2) := by decide +kernel
theorem dX4_turnComes_9 : decode cX4_turnComes 9 = .ok (.iconst 2, 1) := by decide +kernel
theorem dX4_turnComes_10 : decode cX4_turnComes 10 = .ok (.if_icmp .ne 28, 3) := by decide +kernel
theorem dX4_turnComes_13 : decode cX4_turnComes 13 = .ok (.aload_n 0, 1) := by decide +kernel
theorem dX4_turnComes_14 : decode cX4_turnComes 14 = .ok (.bipush 9, 2) := by decide +kernel
theorem dX4_turnComes_16 : decode cX4_turnComes 16 = .ok (.iload_n 1, 1) := by decide +kernel
theorem dX4_turnComes_17 : decode cX4_turnComes 17 = .ok (.iconst 1, 1) := by decide +kernel
theorem dX4_turnComes_18 : decode cX4_turnComes 18 = .ok (.aload_n 0, 1) := by decide +kernel
theorem dX4_turnComes_19 : decode cX4_turnComes 19 = .ok (.getfield 11, 3) := by decide +kernel
theorem dX4_turnComes_22 : decode cX4_turnComes 22 = .ok (.iconst 1, 1) := by decide +kernel
theorem dX4_turnComes_23 : decode cX4_turnComes 23 = .ok (.iaload, 1) := by decide +kernel
theorem dX4_turnComes_24 : decode cX4_turnComes 24 = .ok (.iconst 2, 1) := by decide +kernel
theorem dX4_turnComes_25 : decode cX4_turnComes 25 = .ok (.isub, 1) := by decide +kernel
theorem dX4_turnComes_26 : decode cX4_turnComes 26 = .ok (.aload_n 0, 1) := by decide +kernel
theorem dX4_turnComes_27 : decode cX4_turnComes 27 = .ok (.getfield 11, 3) := by decide +kernel
theorem dX4_turnComes_30 : decode cX4_turnComes 30 = .ok (.iconst 1, 1) := by decide +kernel
theorem dX4_turnComes_31 : decode cX4_turnComes 31 = .ok (.iaload, 1) := by decide +kernel
theorem dX4_turnComes_32 : decode cX4_turnComes 32 = .ok (.iconst 1, 1) := by decide +kernel
theorem dX4_turnComes_33 : decode cX4_turnComes 33 = .ok (.isub, 1) := by decide +kernel
theorem dX4_turnComes_34 : decode cX4_turnComes 34 = .ok (.iload_n 3, 1) := by decide +kernel
theorem dX4_turnComes_35 : decode cX4_turnComes 35 = .ok (.invokevirtual 54, 3) := by decide +kernel
theorem dX4_turnComes_38 : decode cX4_turnComes 38 = .ok (.iload 4, 2) := by decide +kernel
theorem dX4_turnComes_40 : decode cX4_turnComes 40 = .ok (.iconst 1, 1) := by decide +kernel
theorem dX4_turnComes_41 : decode cX4_turnComes 41 = .ok (.if_icmp .ne 14, 3) := by decide +kernel
theorem dX4_turnComes_44 : decode cX4_turnComes 44 = .ok (.aload_n 0, 1) := by decide +kernel
theorem dX4_turnComes_45 : decode cX4_turnComes 45 = .ok (.aload_n 0, 1) := by decide +kernel
theorem dX4_turnComes_46 : decode cX4_turnComes 46 = .ok (.iload_n 2, 1) := by decide +kernel
theorem dX4_turnComes_47 : decode cX4_turnComes 47 = .ok (.bipush 6, 2) := by decide +kernel
theorem dX4_turnComes_49 : decode cX4_turnComes 49 = .ok (.invokevirtual 114, 3) := by decide +kernel
theorem dX4_turnComes_52 : decode cX4_turnComes 52 = .ok (.invokevirtual 117, 3) := by decide +kernel
theorem dX4_turnComes_55 : decode cX4_turnComes 55 = .ok (.iload 4, 2) := by decide +kernel
theorem dX4_turnComes_57 : decode cX4_turnComes 57 = .ok (.ifCond .ne 7, 3) := by decide +kernel
theorem dX4_turnComes_60 : decode cX4_turnComes 60 = .ok (.iconst 0, 1) := by decide +kernel
theorem dX4_turnComes_61 : decode cX4_turnComes 61 = .ok (.goto 4, 3) := by decide +kernel
theorem dX4_turnComes_64 : decode cX4_turnComes 64 = .ok (.iconst 1, 1) := by decide +kernel
theorem dX4_turnComes_65 : decode cX4_turnComes 65 = .ok (.ireturn, 1) := by decide +kernel
theorem dX4_thiefTurns_0 : decode cX4_thiefTurns 0 = .ok (.aload_n 0, 1) := by decide +kernel
theorem dX4_thiefTurns_1 : decode cX4_thiefTurns 1 = .ok (.iload_n 1, 1) := by decide +kernel
theorem dX4_thiefTurns_2 : decode cX4_thiefTurns 2 = .ok (.invokevirtual 111, 3) := by decide +kernel
theorem dX4_thiefTurns_5 : decode cX4_thiefTurns 5 = .ok (.istore_n 2, 1) := by decide +kernel
theorem dX4_thiefTurns_6 : decode cX4_thiefTurns 6 = .ok (.iload_n 2, 1) := by decide +kernel
theorem dX4_thiefTurns_7 : decode cX4_thiefTurns 7 = .ok (.iconst 2, 1) := by decide +kernel
theorem dX4_thiefTurns_8 : decode cX4_thiefTurns 8 = .ok (.if_icmp .ne 29, 3) := by decide +kernel
theorem dX4_thiefTurns_11 : decode cX4_thiefTurns 11 = .ok (.aload_n 0, 1) := by decide +kernel
theorem dX4_thiefTurns_12 : decode cX4_thiefTurns 12 = .ok (.iconst 4, 1) := by decide +kernel
theorem dX4_thiefTurns_13 : decode cX4_thiefTurns 13 = .ok (.aload_n 0, 1) := by decide +kernel
theorem dX4_thiefTurns_14 : decode cX4_thiefTurns 14 = .ok (.getfield 11, 3) := by decide +kernel
theorem dX4_thiefTurns_17 : decode cX4_thiefTurns 17 = .ok (.iconst 1, 1) := by decide +kernel
theorem dX4_thiefTurns_18 : decode cX4_thiefTurns 18 = .ok (.iaload, 1) := by decide +kernel
theorem dX4_thiefTurns_19 : decode cX4_thiefTurns 19 = .ok (.iconst 2, 1) := by decide +kernel
theorem dX4_thiefTurns_20 : decode cX4_thiefTurns 20 = .ok (.isub, 1) := by decide +kernel
theorem dX4_thiefTurns_21 : decode cX4_thiefTurns 21 = .ok (.invokevirtual 120, 3) := by decide +kernel
theorem dX4_thiefTurns_24 : decode cX4_thiefTurns 24 = .ok (.aload_n 0, 1) := by decide +kernel
theorem dX4_thiefTurns_25 : decode cX4_thiefTurns 25 = .ok (.iconst 4, 1) := by decide +kernel
theorem dX4_thiefTurns_26 : decode cX4_thiefTurns 26 = .ok (.aload_n 0, 1) := by decide +kernel
theorem dX4_thiefTurns_27 : decode cX4_thiefTurns 27 = .ok (.getfield 11, 3) := by decide +kernel
theorem dX4_thiefTurns_30 : decode cX4_thiefTurns 30 = .ok (.iconst 1, 1) := by decide +kernel
theorem dX4_thiefTurns_31 : decode cX4_thiefTurns 31 = .ok (.iaload, 1) := by decide +kernel
theorem dX4_thiefTurns_32 : decode cX4_thiefTurns 32 = .ok (.iconst 1, 1) := by decide +kernel
theorem dX4_thiefTurns_33 : decode cX4_thiefTurns 33 = .ok (.isub, 1) := by decide +kernel
theorem dX4_thiefTurns_34 : decode cX4_thiefTurns 34 = .ok (.invokevirtual 120, 3) := by decide +kernel
theorem dX4_thiefTurns_37 : decode cX4_thiefTurns 37 = .ok (.iload_n 2, 1) := by decide +kernel
theorem dX4_thiefTurns_38 : decode cX4_thiefTurns 38 = .ok (.iconst 1, 1) := by decide +kernel
theorem dX4_thiefTurns_39 : decode cX4_thiefTurns 39 = .ok (.if_icmp .ne 14, 3) := by decide +kernel
theorem dX4_thiefTurns_42 : decode cX4_thiefTurns 42 = .ok (.aload_n 0, 1) := by decide +kernel
theorem dX4_thiefTurns_43 : decode cX4_thiefTurns 43 = .ok (.aload_n 0, 1) := by decide +kernel
theorem dX4_thiefTurns_44 : decode cX4_thiefTurns 44 = .ok (.iload_n 1, 1) := by decide +kernel
theorem dX4_thiefTurns_45 : decode cX4_thiefTurns 45 = .ok (.bipush 6, 2) := by decide +kernel
theorem dX4_thiefTurns_47 : decode cX4_thiefTurns 47 = .ok (.invokevirtual 114, 3) := by decide +kernel
theorem dX4_thiefTurns_50 : decode cX4_thiefTurns 50 = .ok (.invokevirtual 117, 3) := by decide +kernel
theorem dX4_thiefTurns_53 : decode cX4_thiefTurns 53 = .ok (.iload_n 2, 1) := by decide +kernel
theorem dX4_thiefTurns_54 : decode cX4_thiefTurns 54 = .ok (.ifCond .eq 7, 3) := by decide +kernel
theorem dX4_thiefTurns_57 : decode cX4_thiefTurns 57 = .ok (.iconst 1, 1) := by decide +kernel
theorem dX4_thiefTurns_58 : decode cX4_thiefTurns 58 = .ok (.goto 4, 3) := by decide +kernel
theorem dX4_thiefTurns_61 : decode cX4_thiefTurns 61 = .ok (.iconst 0, 1) := by decide +kernel
theorem dX4_thiefTurns_62 : decode cX4_thiefTurns 62 = .ok (.ireturn, 1) := by decide +kernel
theorem dX4_renew_0 : decode cX4_renew 0 = .ok (.aload_n 0, 1) := by decide +kernel
theorem dX4_renew_1 : decode cX4_renew 1 = .ok (.iload_n 1, 1) := by decide +kernel
theorem dX4_renew_2 : decode cX4_renew 2 = .ok (.invokevirtual 124, 3) := by decide +kernel
theorem dX4_renew_5 : decode cX4_renew 5 = .ok (.ifCond .ne 5, 3) := by decide +kernel
theorem dX4_renew_8 : decode cX4_renew 8 = .ok (.iconst 0, 1) := by decide +kernel
theorem dX4_renew_9 : decode cX4_renew 9 = .ok (.ireturn, 1) := by decide +kernel
theorem dX4_renew_10 : decode cX4_renew 10 = .ok (.sipush 142, 3) := by decide +kernel
theorem dX4_renew_13 : decode cX4_renew 13 = .ok (.iload_n 1, 1) := by decide +kernel
theorem dX4_renew_14 : decode cX4_renew 14 = .ok (.bipush 11, 2) := by decide +kernel
theorem dX4_renew_16 : decode cX4_renew 16 = .ok (.imul, 1) := by decide +kernel
theorem dX4_renew_17 : decode cX4_renew 17 = .ok (.iadd, 1) := by decide +kernel
theorem dX4_renew_18 : decode cX4_renew 18 = .ok (.istore_n 2, 1) := by decide +kernel
theorem dX4_renew_19 : decode cX4_renew 19 = .ok (.aload_n 0, 1) := by decide +kernel
theorem dX4_renew_20 : decode cX4_renew 20 = .ok (.getfield 15, 3) := by decide +kernel
theorem dX4_renew_23 : decode cX4_renew 23 = .ok (.aload_n 0, 1) := by decide +kernel
theorem dX4_renew_24 : decode cX4_renew 24 = .ok (.getfield 11, 3) := by decide +kernel
theorem dX4_renew_27 : decode cX4_renew 27 = .ok (.iload_n 2, 1) := by decide +kernel
theorem dX4_renew_28 : decode cX4_renew 28 = .ok (.iconst 2, 1) := by decide +kernel
theorem dX4_renew_29 : decode cX4_renew 29 = .ok (.iadd, 1) := by decide +kernel
theorem dX4_renew_30 : decode cX4_renew 30 = .ok (.iaload, 1) := by decide +kernel
theorem dX4_renew_31 : decode cX4_renew 31 = .ok (.invokevirtual 92, 3) := by decide +kernel
theorem dX4_renew_34 : decode cX4_renew 34 = .ok (.ifCond .ne 5, 3) := by decide +kernel
theorem dX4_renew_37 : decode cX4_renew 37 = .ok (.iconst 0, 1) := by decide +kernel
theorem dX4_renew_38 : decode cX4_renew 38 = .ok (.ireturn, 1) := by decide +kernel
theorem dX4_renew_39 : decode cX4_renew 39 = .ok (.aload_n 0, 1) := by decide +kernel
theorem dX4_renew_40 : decode cX4_renew 40 = .ok (.getfield 11, 3) := by decide +kernel
theorem dX4_renew_43 : decode cX4_renew 43 = .ok (.iload_n 2, 1) := by decide +kernel
theorem dX4_renew_44 : decode cX4_renew 44 = .ok (.bipush 9, 2) := by decide +kernel
theorem dX4_renew_46 : decode cX4_renew 46 = .ok (.iadd, 1) := by decide +kernel
theorem dX4_renew_47 : decode cX4_renew 47 = .ok (.iaload, 1) := by decide +kernel
theorem dX4_renew_48 : decode cX4_renew 48 = .ok (.iconst 1, 1) := by decide +kernel
theorem dX4_renew_49 : decode cX4_renew 49 = .ok (.if_icmp .ne 16, 3) := by decide +kernel
theorem dX4_renew_52 : decode cX4_renew 52 = .ok (.aload_n 0, 1) := by decide +kernel
theorem dX4_renew_53 : decode cX4_renew 53 = .ok (.getfield 15, 3) := by decide +kernel
theorem dX4_renew_56 : decode cX4_renew 56 = .ok (.iconst 5, 1) := by decide +kernel
theorem dX4_renew_57 : decode cX4_renew 57 = .ok (.invokevirtual 127, 3) := by decide +kernel
theorem dX4_renew_60 : decode cX4_renew 60 = .ok (.ifCond .eq 5, 3) := by decide +kernel
theorem dX4_renew_63 : decode cX4_renew 63 = .ok (.iconst 1, 1) := by decide +kernel
theorem dX4_renew_64 : decode cX4_renew 64 = .ok (.ireturn, 1) := by decide +kernel
theorem dX4_renew_65 : decode cX4_renew 65 = .ok (.aload_n 0, 1) := by decide +kernel
theorem dX4_renew_66 : decode cX4_renew 66 = .ok (.getfield 11, 3) := by decide +kernel
theorem dX4_renew_69 : decode cX4_renew 69 = .ok (.iconst 1, 1) := by decide +kernel
theorem dX4_renew_70 : decode cX4_renew 70 = .ok (.iaload, 1) := by decide +kernel
theorem dX4_renew_71 : decode cX4_renew 71 = .ok (.iconst 2, 1) := by decide +kernel
theorem dX4_renew_72 : decode cX4_renew 72 = .ok (.iadd, 1) := by decide +kernel
theorem dX4_renew_73 : decode cX4_renew 73 = .ok (.bipush 32, 2) := by decide +kernel
theorem dX4_renew_75 : decode cX4_renew 75 = .ok (.if_icmp .le 5, 3) := by decide +kernel
theorem dX4_renew_78 : decode cX4_renew 78 = .ok (.iconst 0, 1) := by decide +kernel
theorem dX4_renew_79 : decode cX4_renew 79 = .ok (.ireturn, 1) := by decide +kernel
theorem dX4_renew_80 : decode cX4_renew 80 = .ok (.aload_n 0, 1) := by decide +kernel
theorem dX4_renew_81 : decode cX4_renew 81 = .ok (.getfield 11, 3) := by decide +kernel
theorem dX4_renew_84 : decode cX4_renew 84 = .ok (.iload_n 2, 1) := by decide +kernel
theorem dX4_renew_85 : decode cX4_renew 85 = .ok (.bipush 9, 2) := by decide +kernel
theorem dX4_renew_87 : decode cX4_renew 87 = .ok (.iadd, 1) := by decide +kernel
theorem dX4_renew_88 : decode cX4_renew 88 = .ok (.iconst 1, 1) := by decide +kernel
theorem dX4_renew_89 : decode cX4_renew 89 = .ok (.iastore, 1) := by decide +kernel
theorem dX4_renew_90 : decode cX4_renew 90 = .ok (.aload_n 0, 1) := by decide +kernel
theorem dX4_renew_91 : decode cX4_renew 91 = .ok (.iload_n 1, 1) := by decide +kernel
theorem dX4_renew_92 : decode cX4_renew 92 = .ok (.iconst 0, 1) := by decide +kernel
theorem dX4_renew_93 : decode cX4_renew 93 = .ok (.aload_n 0, 1) := by decide +kernel
theorem dX4_renew_94 : decode cX4_renew 94 = .ok (.getfield 11, 3) := by decide +kernel
theorem dX4_renew_97 : decode cX4_renew 97 = .ok (.iconst 0, 1) := by decide +kernel
theorem dX4_renew_98 : decode cX4_renew 98 = .ok (.iaload, 1) := by decide +kernel
theorem dX4_renew_99 : decode cX4_renew 99 = .ok (.aload_n 0, 1) := by decide +kernel
theorem dX4_renew_100 : decode cX4_renew 100 = .ok (.getfield 15, 3) := by decide +kernel
theorem dX4_renew_103 : decode cX4_renew 103 = .ok (.getfield 102, 3) := by decide +kernel
theorem dX4_renew_106 : decode cX4_renew 106 = .ok (.iadd, 1) := by decide +kernel
theorem dX4_renew_107 : decode cX4_renew 107 = .ok (.invokevirtual 105, 3) := by decide +kernel
theorem dX4_renew_110 : decode cX4_renew 110 = .ok (.pop, 1) := by decide +kernel
theorem dX4_renew_111 : decode cX4_renew 111 = .ok (.aload_n 0, 1) := by decide +kernel
theorem dX4_renew_112 : decode cX4_renew 112 = .ok (.iload_n 1, 1) := by decide +kernel
theorem dX4_renew_113 : decode cX4_renew 113 = .ok (.iconst 1, 1) := by decide +kernel
theorem dX4_renew_114 : decode cX4_renew 114 = .ok (.aload_n 0, 1) := by decide +kernel
theorem dX4_renew_115 : decode cX4_renew 115 = .ok (.getfield 11, 3) := by decide +kernel
theorem dX4_renew_118 : decode cX4_renew 118 = .ok (.iload_n 2, 1) := by decide +kernel
theorem dX4_renew_119 : decode cX4_renew 119 = .ok (.iconst 5, 1) := by decide +kernel
theorem dX4_renew_120 : decode cX4_renew 120 = .ok (.iadd, 1) := by decide +kernel
theorem dX4_renew_121 : decode cX4_renew 121 = .ok (.iaload, 1) := by decide +kernel
theorem dX4_renew_122 : decode cX4_renew 122 = .ok (.invokevirtual 105, 3) := by decide +kernel
theorem dX4_renew_125 : decode cX4_renew 125 = .ok (.pop, 1) := by decide +kernel
theorem dX4_renew_126 : decode cX4_renew 126 = .ok (.iconst 2, 1) := by decide +kernel
theorem dX4_renew_127 : decode cX4_renew 127 = .ok (.ireturn, 1) := by decide +kernel
theorem dX4_isGoodForKeeper_0 : decode cX4_isGoodForKeeper 0 = .ok (.aload_n 0, 1) := by decide +kernel
theorem dX4_isGoodForKeeper_1 : decode cX4_isGoodForKeeper 1 = .ok (.getfield 15, 3) := by decide +kernel
theorem dX4_isGoodForKeeper_4 : decode cX4_isGoodForKeeper 4 = .ok (.getfield 88, 3) := by decide +kernel
theorem dX4_isGoodForKeeper_7 : decode cX4_isGoodForKeeper 7 = .ok (.ifCond .eq 23, 3) := by decide +kernel
theorem dX4_isGoodForKeeper_10 : decode cX4_isGoodForKeeper 10 = .ok (.iload_n 1, 1) := by decide +kernel
theorem dX4_isGoodForKeeper_11 : decode cX4_isGoodForKeeper 11 = .ok (.ifCond .lt 19, 3) := by decide +kernel
theorem dX4_isGoodForKeeper_14 : decode cX4_isGoodForKeeper 14 = .ok (.iload_n 1, 1) := by decide +kernel
theorem dX4_isGoodForKeeper_15 : decode cX4_isGoodForKeeper 15 = .ok (.aload_n 0, 1) := by decide +kernel
theorem dX4_isGoodForKeeper_16 : decode cX4_isGoodForKeeper 16 = .ok (.getfield 11, 3) := by decide +kernel
theorem dX4_isGoodForKeeper_19 : decode cX4_isGoodForKeeper 19 = .ok (.iconst 1, 1) := by decide +kernel
theorem dX4_isGoodForKeeper_20 : decode cX4_isGoodForKeeper 20 = .ok (.iaload, 1) := by decide +kernel
theorem dX4_isGoodForKeeper_21 : decode cX4_isGoodForKeeper 21 = .ok (.if_icmp .ge 9, 3) := by decide +kernel
theorem dX4_isGoodForKeeper_24 : decode cX4_isGoodForKeeper 24 = .ok (.iload_n 1, 1) := by decide +kernel
theorem dX4_isGoodForKeeper_25 : decode cX4_isGoodForKeeper 25 = .ok (.bipush 32, 2) := by decide +kernel
theorem dX4_isGoodForKeeper_27 : decode cX4_isGoodForKeeper 27 = .ok (.if_icmp .lt 5, 3) := by decide +kernel
theorem dX4_isGoodForKeeper_30 : decode cX4_isGoodForKeeper 30 = .ok (.iconst 0, 1) := by decide +kernel
theorem dX4_isGoodForKeeper_31 : decode cX4_isGoodForKeeper 31 = .ok (.ireturn, 1) := by decide +kernel
theorem dX4_isGoodForKeeper_32 : decode cX4_isGoodForKeeper 32 = .ok (.sipush 142, 3) := by decide +kernel
theorem dX4_isGoodForKeeper_35 : decode cX4_isGoodForKeeper 35 = .ok (.iload_n 1, 1) := by decide +kernel
theorem dX4_isGoodForKeeper_36 : decode cX4_isGoodForKeeper 36 = .ok (.bipush 11, 2) := by decide +kernel
theorem dX4_isGoodForKeeper_38 : decode cX4_isGoodForKeeper 38 = .ok (.imul, 1) := by decide +kernel
theorem dX4_isGoodForKeeper_39 : decode cX4_isGoodForKeeper 39 = .ok (.iadd, 1) := by decide +kernel
theorem dX4_isGoodForKeeper_40 : decode cX4_isGoodForKeeper 40 = .ok (.istore_n 2, 1) := by decide +kernel
theorem dX4_isGoodForKeeper_41 : decode cX4_isGoodForKeeper 41 = .ok (.aload_n 0, 1) := by decide +kernel
theorem dX4_isGoodForKeeper_42 : decode cX4_isGoodForKeeper 42 = .ok (.getfield 11, 3) := by decide +kernel
theorem dX4_isGoodForKeeper_45 : decode cX4_isGoodForKeeper 45 = .ok (.iload_n 2, 1) := by decide +kernel
theorem dX4_isGoodForKeeper_46 : decode cX4_isGoodForKeeper 46 = .ok (.bipush 6, 2) := by decide +kernel
theorem dX4_isGoodForKeeper_48 : decode cX4_isGoodForKeeper 48 = .ok (.iadd, 1) := by decide +kernel
theorem dX4_isGoodForKeeper_49 : decode cX4_isGoodForKeeper 49 = .ok (.iaload, 1) := by decide +kernel
theorem dX4_isGoodForKeeper_50 : decode cX4_isGoodForKeeper 50 = .ok (.istore_n 3, 1) := by decide +kernel
theorem dX4_isGoodForKeeper_51 : decode cX4_isGoodForKeeper 51 = .ok (.iload_n 3, 1) := by decide +kernel
theorem dX4_isGoodForKeeper_52 : decode cX4_isGoodForKeeper 52 = .ok (.ifCond .lt 30, 3) := by decide +kernel
theorem dX4_isGoodForKeeper_55 : decode cX4_isGoodForKeeper 55 = .ok (.iload_n 3, 1) := by decide +kernel
theorem dX4_isGoodForKeeper_56 : decode cX4_isGoodForKeeper 56 = .ok (.bipush 16, 2) := by decide +kernel
theorem dX4_isGoodForKeeper_58 : decode cX4_isGoodForKeeper 58 = .ok (.if_icmp .ge 24, 3) := by decide +kernel
theorem dX4_isGoodForKeeper_61 : decode cX4_isGoodForKeeper 61 = .ok (.aload_n 0, 1) := by decide +kernel
theorem dX4_isGoodForKeeper_62 : decode cX4_isGoodForKeeper 62 = .ok (.getfield 11, 3) := by decide +kernel
theorem dX4_isGoodForKeeper_65 : decode cX4_isGoodForKeeper 65 = .ok (.bipush 26, 2) := by decide +kernel
theorem dX4_isGoodForKeeper_67 : decode cX4_isGoodForKeeper 67 = .ok (.iload_n 3, 1) := by decide +kernel
theorem dX4_isGoodForKeeper_68 : decode cX4_isGoodForKeeper 68 = .ok (.iconst 2, 1) := by decide +kernel
theorem dX4_isGoodForKeeper_69 : decode cX4_isGoodForKeeper 69 = .ok (.imul, 1) := by decide +kernel
theorem dX4_isGoodForKeeper_70 : decode cX4_isGoodForKeeper 70 = .ok (.iadd, 1) := by decide +kernel
theorem dX4_isGoodForKeeper_71 : decode cX4_isGoodForKeeper 71 = .ok (.iconst 1, 1) := by decide +kernel
theorem dX4_isGoodForKeeper_72 : decode cX4_isGoodForKeeper 72 = .ok (.iadd, 1) := by decide +kernel
theorem dX4_isGoodForKeeper_73 : decode cX4_isGoodForKeeper 73 = .ok (.iaload, 1) := by decide +kernel
theorem dX4_isGoodForKeeper_74 : decode cX4_isGoodForKeeper 74 = .ok (.iconst (-1), 1) := by decide +kernel
theorem dX4_isGoodForKeeper_75 : decode cX4_isGoodForKeeper 75 = .ok (.if_icmp .ne 7, 3) := by decide +kernel
theorem dX4_isGoodForKeeper_78 : decode cX4_isGoodForKeeper 78 = .ok (.iconst 1, 1) := by decide +kernel
theorem dX4_isGoodForKeeper_79 : decode cX4_isGoodForKeeper 79 = .ok (.goto 4, 3) := by decide +kernel
theorem dX4_isGoodForKeeper_82 : decode cX4_isGoodForKeeper 82 = .ok (.iconst 0, 1) := by decide +kernel
theorem dX4_isGoodForKeeper_83 : decode cX4_isGoodForKeeper 83 = .ok (.istore 4, 2) := by decide +kernel
theorem dX4_isGoodForKeeper_85 : decode cX4_isGoodForKeeper 85 = .ok (.iload 4, 2) := by decide +kernel
theorem dX4_isGoodForKeeper_87 : decode cX4_isGoodForKeeper 87 = .ok (.ifCond .eq 24, 3) := by decide +kernel
theorem dX4_isGoodForKeeper_90 : decode cX4_isGoodForKeeper 90 = .ok (.aload_n 0, 1) := by decide +kernel
theorem dX4_isGoodForKeeper_91 : decode cX4_isGoodForKeeper 91 = .ok (.getfield 11, 3) := by decide +kernel
theorem dX4_isGoodForKeeper_94 : decode cX4_isGoodForKeeper 94 = .ok (.iconst 0, 1) := by decide +kernel
theorem dX4_isGoodForKeeper_95 : decode cX4_isGoodForKeeper 95 = .ok (.iaload, 1) := by decide +kernel
theorem dX4_isGoodForKeeper_96 : decode cX4_isGoodForKeeper 96 = .ok (.aload_n 0, 1) := by decide +kernel
theorem dX4_isGoodForKeeper_97 : decode cX4_isGoodForKeeper 97 = .ok (.getfield 11, 3) := by decide +kernel
theorem dX4_isGoodForKeeper_100 : decode cX4_isGoodForKeeper 100 = .ok (.iload_n 2, 1) := by decide +kernel
theorem dX4_isGoodForKeeper_101 : decode cX4_isGoodForKeeper 101 = .ok (.iconst 5, 1) := by decide +kernel
theorem dX4_isGoodForKeeper_102 : decode cX4_isGoodForKeeper 102 = .ok (.iadd, 1) := by decide +kernel
theorem dX4_isGoodForKeeper_103 : decode cX4_isGoodForKeeper 103 = .ok (.iaload, 1) := by decide +kernel
theorem dX4_isGoodForKeeper_104 : decode cX4_isGoodForKeeper 104 = .ok (.if_icmp .ge 7, 3) := by decide +kernel
theorem dX4_isGoodForKeeper_107 : decode cX4_isGoodForKeeper 107 = .ok (.iconst 1, 1) := by decide +kernel
theorem dX4_isGoodForKeeper_108 : decode cX4_isGoodForKeeper 108 = .ok (.goto 4, 3) := by decide +kernel
theorem dX4_isGoodForKeeper_111 : decode cX4_isGoodForKeeper 111 = .ok (.iconst 0, 1) := by decide +kernel
theorem dX4_isGoodForKeeper_112 : decode cX4_isGoodForKeeper 112 = .ok (.ireturn, 1) := by decide +kernel
theorem dX4_handComes_0 : decode cX4_handComes 0 = .ok (.aload_n 0, 1) := by decide +kernel
theorem dX4_handComes_1 : decode cX4_handComes 1 = .ok (.iload_n 2, 1) := by decide +kernel
theorem dX4_handComes_2 : decode cX4_handComes 2 = .ok (.invokevirtual 124, 3) := by decide +kernel
theorem dX4_handComes_5 : decode cX4_handComes 5 = .ok (.ifCond .eq 25, 3) := by decide +kernel
theorem dX4_handComes_8 : decode cX4_handComes 8 = .ok (.aload_n 0, 1) := by decide +kernel
theorem dX4_handComes_9 : decode cX4_handComes 9 = .ok (.getfield 15, 3) := by decide +kernel
theorem dX4_handComes_12 : decode cX4_handComes 12 = .ok (.iload_n 3, 1) := by decide +kernel
theorem dX4_handComes_13 : decode cX4_handComes 13 = .ok (.invokevirtual 92, 3) := by decide +kernel
theorem dX4_handComes_16 : decode cX4_handComes 16 = .ok (.ifCond .eq 14, 3) := by decide +kernel
theorem dX4_handComes_19 : decode cX4_handComes 19 = .ok (.aload_n 0, 1) := by decide +kernel
theorem dX4_handComes_20 : decode cX4_handComes 20 = .ok (.getfield 11, 3) := by decide +kernel
theorem dX4_handComes_23 : decode cX4_handComes 23 = .ok (.iconst 1, 1) := by decide +kernel
theorem dX4_handComes_24 : decode cX4_handComes 24 = .ok (.iaload, 1) := by decide +kernel
theorem dX4_handComes_25 : decode cX4_handComes 25 = .ok (.bipush 32, 2) := by decide +kernel
theorem dX4_handComes_27 : decode cX4_handComes 27 = .ok (.if_icmp .lt 5, 3) := by decide +kernel
theorem dX4_handComes_30 : decode cX4_handComes 30 = .ok (.iconst 0, 1) := by decide +kernel
theorem dX4_handComes_31 : decode cX4_handComes 31 = .ok (.ireturn, 1) := by decide +kernel
theorem dX4_handComes_32 : decode cX4_handComes 32 = .ok (.iload 4, 2) := by decide +kernel
theorem dX4_handComes_34 : decode cX4_handComes 34 = .ok (.istore 5, 2) := by decide +kernel
theorem dX4_handComes_36 : decode cX4_handComes 36 = .ok (.aload_n 0, 1) := by decide +kernel
theorem dX4_handComes_37 : decode cX4_handComes 37 = .ok (.getfield 11, 3) := by decide +kernel
theorem dX4_handComes_40 : decode cX4_handComes 40 = .ok (.iconst 0, 1) := by decide +kernel
theorem dX4_handComes_41 : decode cX4_handComes 41 = .ok (.iaload, 1) := by decide +kernel
theorem dX4_handComes_42 : decode cX4_handComes 42 = .ok (.aload_n 0, 1) := by decide +kernel
theorem dX4_handComes_43 : decode cX4_handComes 43 = .ok (.getfield 15, 3) := by decide +kernel
theorem dX4_handComes_46 : decode cX4_handComes 46 = .ok (.getfield 102, 3) := by decide +kernel
theorem dX4_handComes_49 : decode cX4_handComes 49 = .ok (.iadd, 1) := by decide +kernel
theorem dX4_handComes_50 : decode cX4_handComes 50 = .ok (.istore 6, 2) := by decide +kernel
theorem dX4_handComes_52 : decode cX4_handComes 52 = .ok (.aload_n 0, 1) := by decide +kernel
theorem dX4_handComes_53 : decode cX4_handComes 53 = .ok (.getfield 15, 3) := by decide +kernel
theorem dX4_handComes_56 : decode cX4_handComes 56 = .ok (.bipush 6, 2) := by decide +kernel
theorem dX4_handComes_58 : decode cX4_handComes 58 = .ok (.invokevirtual 127, 3) := by decide +kernel
theorem dX4_handComes_61 : decode cX4_handComes 61 = .ok (.ifCond .eq 27, 3) := by decide +kernel
theorem dX4_handComes_64 : decode cX4_handComes 64 = .ok (.iload 5, 2) := by decide +kernel
theorem dX4_handComes_66 : decode cX4_handComes 66 = .ok (.aload_n 0, 1) := by decide +kernel
theorem dX4_handComes_67 : decode cX4_handComes 67 = .ok (.iload_n 2, 1) := by decide +kernel
theorem dX4_handComes_68 : decode cX4_handComes 68 = .ok (.iconst 3, 1) := by decide +kernel
theorem dX4_handComes_69 : decode cX4_handComes 69 = .ok (.invokevirtual 114, 3) := by decide +kernel
theorem dX4_handComes_72 : decode cX4_handComes 72 = .ok (.iand, 1) := by decide +kernel
theorem dX4_handComes_73 : decode cX4_handComes 73 = .ok (.istore 5, 2) := by decide +kernel
theorem dX4_handComes_75 : decode cX4_handComes 75 = .ok (.iload 6, 2) := by decide +kernel
theorem dX4_handComes_77 : decode cX4_handComes 77 = .ok (.aload_n 0, 1) := by decide +kernel
theorem dX4_handComes_78 : decode cX4_handComes 78 = .ok (.iload_n 2, 1) := by decide +kernel
theorem dX4_handComes_79 : decode cX4_handComes 79 = .ok (.iconst 5, 1) := by decide +kernel
theorem dX4_handComes_80 : decode cX4_handComes 80 = .ok (.invokevirtual 114, 3) := by decide +kernel
theorem dX4_handComes_83 : decode cX4_handComes 83 = .ok (.invokestatic 130, 3) := by decide +kernel
theorem dX4_handComes_86 : decode cX4_handComes 86 = .ok (.istore 6, 2) := by decide +kernel
theorem dX4_handComes_88 : decode cX4_handComes 88 = .ok (.iload 5, 2) := by decide +kernel
theorem dX4_handComes_90 : decode cX4_handComes 90 = .ok (.ifCond .ne 5, 3) := by decide +kernel
theorem dX4_handComes_93 : decode cX4_handComes 93 = .ok (.iconst 0, 1) := by decide +kernel
theorem dX4_handComes_94 : decode cX4_handComes 94 = .ok (.ireturn, 1) := by decide +kernel
theorem dX4_handComes_95 : decode cX4_handComes 95 = .ok (.aload_n 0, 1) := by decide +kernel
theorem dX4_handComes_96 : decode cX4_handComes 96 = .ok (.iload_n 2, 1) := by decide +kernel
theorem dX4_handComes_97 : decode cX4_handComes 97 = .ok (.iconst 2, 1) := by decide +kernel
theorem dX4_handComes_98 : decode cX4_handComes 98 = .ok (.iload 6, 2) := by decide +kernel
theorem dX4_handComes_100 : decode cX4_handComes 100 = .ok (.invokevirtual 105, 3) := by decide +kernel
theorem dX4_handComes_103 : decode cX4_handComes 103 = .ok (.istore 7, 2) := by decide +kernel
theorem dX4_handComes_105 : decode cX4_handComes 105 = .ok (.iload 7, 2) := by decide +kernel
theorem dX4_handComes_107 : decode cX4_handComes 107 = .ok (.iconst (-1), 1) := by decide +kernel
theorem dX4_handComes_108 : decode cX4_handComes 108 = .ok (.if_icmp .ne 5, 3) := by decide +kernel
theorem dX4_handComes_111 : decode cX4_handComes 111 = .ok (.iconst 0, 1) := by decide +kernel
theorem dX4_handComes_112 : decode cX4_handComes 112 = .ok (.ireturn, 1) := by decide +kernel
theorem dX4_handComes_113 : decode cX4_handComes 113 = .ok (.sipush 142, 3) := by decide +kernel
theorem dX4_handComes_116 : decode cX4_handComes 116 = .ok (.iload 7, 2) := by decide +kernel
theorem dX4_handComes_118 : decode cX4_handComes 118 = .ok (.bipush 11, 2) := by decide +kernel
theorem dX4_handComes_120 : decode cX4_handComes 120 = .ok (.imul, 1) := by decide +kernel
theorem dX4_handComes_121 : decode cX4_handComes 121 = .ok (.iadd, 1) := by decide +kernel
theorem dX4_handComes_122 : decode cX4_handComes 122 = .ok (.istore 8, 2) := by decide +kernel
theorem dX4_handComes_124 : decode cX4_handComes 124 = .ok (.aload_n 0, 1) := by decide +kernel
theorem dX4_handComes_125 : decode cX4_handComes 125 = .ok (.getfield 11, 3) := by decide +kernel
theorem dX4_handComes_128 : decode cX4_handComes 128 = .ok (.iload 8, 2) := by decide +kernel
theorem dX4_handComes_130 : decode cX4_handComes 130 = .ok (.iconst 2, 1) := by decide +kernel
theorem dX4_handComes_131 : decode cX4_handComes 131 = .ok (.iadd, 1) := by decide +kernel
theorem dX4_handComes_132 : decode cX4_handComes 132 = .ok (.iload_n 3, 1) := by decide +kernel
theorem dX4_handComes_133 : decode cX4_handComes 133 = .ok (.iastore, 1) := by decide +kernel
theorem dX4_handComes_134 : decode cX4_handComes 134 = .ok (.aload_n 0, 1) := by decide +kernel
theorem dX4_handComes_135 : decode cX4_handComes 135 = .ok (.getfield 11, 3) := by decide +kernel
theorem dX4_handComes_138 : decode cX4_handComes 138 = .ok (.iload 8, 2) := by decide +kernel
theorem dX4_handComes_140 : decode cX4_handComes 140 = .ok (.iconst 3, 1) := by decide +kernel
theorem dX4_handComes_141 : decode cX4_handComes 141 = .ok (.iadd, 1) := by decide +kernel
theorem dX4_handComes_142 : decode cX4_handComes 142 = .ok (.iload 5, 2) := by decide +kernel
theorem dX4_handComes_144 : decode cX4_handComes 144 = .ok (.iastore, 1) := by decide +kernel
theorem dX4_handComes_145 : decode cX4_handComes 145 = .ok (.aload_n 0, 1) := by decide +kernel
theorem dX4_handComes_146 : decode cX4_handComes 146 = .ok (.getfield 11, 3) := by decide +kernel
theorem dX4_handComes_149 : decode cX4_handComes 149 = .ok (.iload 8, 2) := by decide +kernel
theorem dX4_handComes_151 : decode cX4_handComes 151 = .ok (.bipush 8, 2) := by decide +kernel
theorem dX4_handComes_153 : decode cX4_handComes 153 = .ok (.iadd, 1) := by decide +kernel
theorem dX4_handComes_154 : decode cX4_handComes 154 = .ok (.iload_n 2, 1) := by decide +kernel
theorem dX4_handComes_155 : decode cX4_handComes 155 = .ok (.iastore, 1) := by decide +kernel
theorem dX4_handComes_156 : decode cX4_handComes 156 = .ok (.aload_n 0, 1) := by decide +kernel
theorem dX4_handComes_157 : decode cX4_handComes 157 = .ok (.bipush 9, 2) := by decide +kernel
theorem dX4_handComes_159 : decode cX4_handComes 159 = .ok (.iload_n 1, 1) := by decide +kernel
theorem dX4_handComes_160 : decode cX4_handComes 160 = .ok (.iconst 1, 1) := by decide +kernel
theorem dX4_handComes_161 : decode cX4_handComes 161 = .ok (.iload 7, 2) := by decide +kernel
theorem dX4_handComes_163 : decode cX4_handComes 163 = .ok (.iconst (-1), 1) := by decide +kernel
theorem dX4_handComes_164 : decode cX4_handComes 164 = .ok (.iconst 0, 1) := by decide +kernel
theorem dX4_handComes_165 : decode cX4_handComes 165 = .ok (.invokevirtual 54, 3) := by decide +kernel
theorem dX4_handComes_168 : decode cX4_handComes 168 = .ok (.iconst 1, 1) := by decide +kernel
theorem dX4_handComes_169 : decode cX4_handComes 169 = .ok (.ireturn, 1) := by decide +kernel
theorem dX4_giveComes_0 : decode cX4_giveComes 0 = .ok (.iload_n 1, 1) := by decide +kernel
theorem dX4_giveComes_1 : decode cX4_giveComes 1 = .ok (.invokestatic 33, 3) := by decide +kernel
theorem dX4_giveComes_4 : decode cX4_giveComes 4 = .ok (.ifCond .eq 35, 3) := by decide +kernel
theorem dX4_giveComes_7 : decode cX4_giveComes 7 = .ok (.aload_n 0, 1) := by decide +kernel
theorem dX4_giveComes_8 : decode cX4_giveComes 8 = .ok (.iload_n 1, 1) := by decide +kernel
theorem dX4_giveComes_9 : decode cX4_giveComes 9 = .ok (.iload 4, 2) := by decide +kernel
theorem dX4_giveComes_11 : decode cX4_giveComes 11 = .ok (.invokevirtual 135, 3) := by decide +kernel
theorem dX4_giveComes_14 : decode cX4_giveComes 14 = .ok (.ifCond .ne 5, 3) := by decide +kernel
theorem dX4_giveComes_17 : decode cX4_giveComes 17 = .ok (.iconst 0, 1) := by decide +kernel
theorem dX4_giveComes_18 : decode cX4_giveComes 18 = .ok (.ireturn, 1) := by decide +kernel
theorem dX4_giveComes_19 : decode cX4_giveComes 19 = .ok (.aload_n 0, 1) := by decide +kernel
theorem dX4_giveComes_20 : decode cX4_giveComes 20 = .ok (.iload_n 1, 1) := by decide +kernel
theorem dX4_giveComes_21 : decode cX4_giveComes 21 = .ok (.iload_n 3, 1) := by decide +kernel
theorem dX4_giveComes_22 : decode cX4_giveComes 22 = .ok (.invokevirtual 120, 3) := by decide +kernel
theorem dX4_giveComes_25 : decode cX4_giveComes 25 = .ok (.aload_n 0, 1) := by decide +kernel
theorem dX4_giveComes_26 : decode cX4_giveComes 26 = .ok (.getfield 11, 3) := by decide +kernel
theorem dX4_giveComes_29 : decode cX4_giveComes 29 = .ok (.bipush 16, 2) := by decide +kernel
theorem dX4_giveComes_31 : decode cX4_giveComes 31 = .ok (.iload_n 1, 1) := by decide +kernel
theorem dX4_giveComes_32 : decode cX4_giveComes 32 = .ok (.iconst 2, 1) := by decide +kernel
theorem dX4_giveComes_33 : decode cX4_giveComes 33 = .ok (.imul, 1) := by decide +kernel
theorem dX4_giveComes_34 : decode cX4_giveComes 34 = .ok (.iadd, 1) := by decide +kernel
theorem dX4_giveComes_35 : decode cX4_giveComes 35 = .ok (.iconst 0, 1) := by decide +kernel
theorem dX4_giveComes_36 : decode cX4_giveComes 36 = .ok (.iadd, 1) := by decide +kernel
theorem dX4_giveComes_37 : decode cX4_giveComes 37 = .ok (.iconst 0, 1) := by decide +kernel
theorem dX4_giveComes_38 : decode cX4_giveComes 38 = .ok (.iastore, 1) := by decide +kernel
theorem dX4_giveComes_39 : decode cX4_giveComes 39 = .ok (.aload_n 0, 1) := by decide +kernel
theorem dX4_giveComes_40 : decode cX4_giveComes 40 = .ok (.iload_n 1, 1) := by decide +kernel
theorem dX4_giveComes_41 : decode cX4_giveComes 41 = .ok (.iload_n 2, 1) := by decide +kernel
theorem dX4_giveComes_42 : decode cX4_giveComes 42 = .ok (.invokevirtual 120, 3) := by decide +kernel
theorem dX4_giveComes_45 : decode cX4_giveComes 45 = .ok (.iconst 1, 1) := by decide +kernel
theorem dX4_giveComes_46 : decode cX4_giveComes 46 = .ok (.ireturn, 1) := by decide +kernel
theorem dX4_takes_0 : decode cX4_takes 0 = .ok (.iload_n 1, 1) := by decide +kernel
theorem dX4_takes_1 : decode cX4_takes 1 = .ok (.ifCond .lt 8, 3) := by decide +kernel
theorem dX4_takes_4 : decode cX4_takes 4 = .ok (.iload_n 1, 1) := by decide +kernel
theorem dX4_takes_5 : decode cX4_takes 5 = .ok (.iconst 5, 1) := by decide +kernel
theorem dX4_takes_6 : decode cX4_takes 6 = .ok (.if_icmp .lt 5, 3) := by decide +kernel
theorem dX4_takes_9 : decode cX4_takes 9 = .ok (.iconst 0, 1) := by decide +kernel
theorem dX4_takes_10 : decode cX4_takes 10 = .ok (.ireturn, 1) := by decide +kernel
theorem dX4_takes_11 : decode cX4_takes 11 = .ok (.aload_n 0, 1) := by decide +kernel
theorem dX4_takes_12 : decode cX4_takes 12 = .ok (.getfield 11, 3) := by decide +kernel
theorem dX4_takes_15 : decode cX4_takes 15 = .ok (.bipush 16, 2) := by decide +kernel
theorem dX4_takes_17 : decode cX4_takes 17 = .ok (.iload_n 1, 1) := by decide +kernel
theorem dX4_takes_18 : decode cX4_takes 18 = .ok (.iconst 2, 1) := by decide +kernel
theorem dX4_takes_19 : decode cX4_takes 19 = .ok (.imul, 1) := by decide +kernel
theorem dX4_takes_20 : decode cX4_takes 20 = .ok (.iadd, 1) := by decide +kernel
theorem dX4_takes_21 : decode cX4_takes 21 = .ok (.iconst 0, 1) := by decide +kernel
theorem dX4_takes_22 : decode cX4_takes 22 = .ok (.iadd, 1) := by decide +kernel
theorem dX4_takes_23 : decode cX4_takes 23 = .ok (.iaload, 1) := by decide +kernel
theorem dX4_takes_24 : decode cX4_takes 24 = .ok (.istore_n 3, 1) := by decide +kernel
theorem dX4_takes_25 : decode cX4_takes 25 = .ok (.aload_n 0, 1) := by decide +kernel
theorem dX4_takes_26 : decode cX4_takes 26 = .ok (.getfield 15, 3) := by decide +kernel
theorem dX4_takes_29 : decode cX4_takes 29 = .ok (.iconst 4, 1) := by decide +kernel
theorem dX4_takes_30 : decode cX4_takes 30 = .ok (.invokevirtual 127, 3) := by decide +kernel
theorem dX4_takes_33 : decode cX4_takes 33 = .ok (.ifCond .eq 12, 3) := by decide +kernel
theorem dX4_takes_36 : decode cX4_takes 36 = .ok (.iload_n 3, 1) := by decide +kernel
theorem dX4_takes_37 : decode cX4_takes 37 = .ok (.ifCond .eq 12, 3) := by decide +kernel
theorem dX4_takes_40 : decode cX4_takes 40 = .ok (.iload_n 3, 1) := by decide +kernel
theorem dX4_takes_41 : decode cX4_takes 41 = .ok (.iload_n 2, 1) := by decide +kernel
theorem dX4_takes_42 : decode cX4_takes 42 = .ok (.if_icmp .ne 7, 3) := by decide +kernel
theorem dX4_takes_45 : decode cX4_takes 45 = .ok (.iconst 1, 1) := by decide +kernel
theorem dX4_takes_46 : decode cX4_takes 46 = .ok (.goto 4, 3) := by decide +kernel
theorem dX4_takes_49 : decode cX4_takes 49 = .ok (.iconst 0, 1) := by decide +kernel
theorem dX4_takes_50 : decode cX4_takes 50 = .ok (.ireturn, 1) := by decide +kernel
theorem dX4_overComes_0 : decode cX4_overComes 0 = .ok (.iload_n 1, 1) := by decide +kernel
theorem dX4_overComes_1 : decode cX4_overComes 1 = .ok (.ifCond .lt 34, 3) := by decide +kernel
theorem dX4_overComes_4 : decode cX4_overComes 4 = .ok (.iload_n 1, 1) := by decide +kernel
theorem dX4_overComes_5 : decode cX4_overComes 5 = .ok (.iconst 4, 1) := by decide +kernel
theorem dX4_overComes_6 : decode cX4_overComes 6 = .ok (.if_icmp .ge 29, 3) := by decide +kernel
theorem dX4_overComes_9 : decode cX4_overComes 9 = .ok (.aload_n 0, 1) := by decide +kernel
theorem dX4_overComes_10 : decode cX4_overComes 10 = .ok (.iload_n 2, 1) := by decide +kernel
theorem dX4_overComes_11 : decode cX4_overComes 11 = .ok (.invokevirtual 27, 3) := by decide +kernel
theorem dX4_overComes_14 : decode cX4_overComes 14 = .ok (.ifCond .eq 21, 3) := by decide +kernel
theorem dX4_overComes_17 : decode cX4_overComes 17 = .ok (.aload_n 0, 1) := by decide +kernel
theorem dX4_overComes_18 : decode cX4_overComes 18 = .ok (.getfield 11, 3) := by decide +kernel
theorem dX4_overComes_21 : decode cX4_overComes 21 = .ok (.iconst 4, 1) := by decide +kernel
theorem dX4_overComes_22 : decode cX4_overComes 22 = .ok (.iload_n 1, 1) := by decide +kernel
theorem dX4_overComes_23 : decode cX4_overComes 23 = .ok (.iconst 3, 1) := by decide +kernel
theorem dX4_overComes_24 : decode cX4_overComes 24 = .ok (.imul, 1) := by decide +kernel
theorem dX4_overComes_25 : decode cX4_overComes 25 = .ok (.iadd, 1) := by decide +kernel
theorem dX4_overComes_26 : decode cX4_overComes 26 = .ok (.iconst 1, 1) := by decide +kernel
theorem dX4_overComes_27 : decode cX4_overComes 27 = .ok (.iadd, 1) := by decide +kernel
theorem dX4_overComes_28 : decode cX4_overComes 28 = .ok (.dup2, 1) := by decide +kernel
theorem dX4_overComes_29 : decode cX4_overComes 29 = .ok (.iaload, 1) := by decide +kernel
theorem dX4_overComes_30 : decode cX4_overComes 30 = .ok (.iconst 1, 1) := by decide +kernel
theorem dX4_overComes_31 : decode cX4_overComes 31 = .ok (.iload_n 2, 1) := by decide +kernel
theorem dX4_overComes_32 : decode cX4_overComes 32 = .ok (.ishl, 1) := by decide +kernel
theorem dX4_overComes_33 : decode cX4_overComes 33 = .ok (.ior, 1) := by decide +kernel
theorem dX4_overComes_34 : decode cX4_overComes 34 = .ok (.iastore, 1) := by decide +kernel
theorem dX4_overComes_35 : decode cX4_overComes 35 = .ok (.iconst 1, 1) := by decide +kernel
theorem dX4_overComes_36 : decode cX4_overComes 36 = .ok (.ireturn, 1) := by decide +kernel
theorem dX4_showComes_0 : decode cX4_showComes 0 = .ok (.aload_n 0, 1) := by decide +kernel
theorem dX4_showComes_1 : decode cX4_showComes 1 = .ok (.iload_n 2, 1) := by decide +kernel
theorem dX4_showComes_2 : decode cX4_showComes 2 = .ok (.iload_n 3, 1) := by decide +kernel
theorem dX4_showComes_3 : decode cX4_showComes 3 = .ok (.iload 4, 2) := by decide +kernel
theorem dX4_showComes_5 : decode cX4_showComes 5 = .ok (.invokevirtual 139, 3) := by decide +kernel
theorem dX4_showComes_8 : decode cX4_showComes 8 = .ok (.istore 5, 2) := by decide +kernel
theorem dX4_showComes_10 : decode cX4_showComes 10 = .ok (.iload 5, 2) := by decide +kernel
theorem dX4_showComes_12 : decode cX4_showComes 12 = .ok (.ifCond .ne 9, 3) := by decide +kernel
theorem dX4_showComes_15 : decode cX4_showComes 15 = .ok (.aload_n 0, 1) := by decide +kernel
theorem dX4_showComes_16 : decode cX4_showComes 16 = .ok (.iload_n 2, 1) := by decide +kernel
theorem dX4_showComes_17 : decode cX4_showComes 17 = .ok (.iload_n 3, 1) := by decide +kernel
theorem dX4_showComes_18 : decode cX4_showComes 18 = .ok (.invokevirtual 142, 3) := by decide +kernel
theorem dX4_showComes_21 : decode cX4_showComes 21 = .ok (.aload_n 0, 1) := by decide +kernel
theorem dX4_showComes_22 : decode cX4_showComes 22 = .ok (.getfield 19, 3) := by decide +kernel
theorem dX4_showComes_25 : decode cX4_showComes 25 = .ok (.ifnull 23, 3) := by decide +kernel
theorem dX4_showComes_28 : decode cX4_showComes 28 = .ok (.aload_n 0, 1) := by decide +kernel
theorem dX4_showComes_29 : decode cX4_showComes 29 = .ok (.getfield 19, 3) := by decide +kernel
theorem dX4_showComes_32 : decode cX4_showComes 32 = .ok (.aload_n 0, 1) := by decide +kernel
theorem dX4_showComes_33 : decode cX4_showComes 33 = .ok (.getfield 11, 3) := by decide +kernel
theorem dX4_showComes_36 : decode cX4_showComes 36 = .ok (.iconst 0, 1) := by decide +kernel
theorem dX4_showComes_37 : decode cX4_showComes 37 = .ok (.iaload, 1) := by decide +kernel
theorem dX4_showComes_38 : decode cX4_showComes 38 = .ok (.iload_n 2, 1) := by decide +kernel
theorem dX4_showComes_39 : decode cX4_showComes 39 = .ok (.iload_n 1, 1) := by decide +kernel
theorem dX4_showComes_40 : decode cX4_showComes 40 = .ok (.iload_n 3, 1) := by decide +kernel
theorem dX4_showComes_41 : decode cX4_showComes 41 = .ok (.iload 4, 2) := by decide +kernel
theorem dX4_showComes_43 : decode cX4_showComes 43 = .ok (.iload 5, 2) := by decide +kernel
theorem dX4_showComes_45 : decode cX4_showComes 45 = .ok (.invokevirtual 145, 3) := by decide +kernel
theorem dX4_showComes_48 : decode cX4_showComes 48 = .ok (.iload 5, 2) := by decide +kernel
theorem dX4_showComes_50 : decode cX4_showComes 50 = .ok (.ireturn, 1) := by decide +kernel
theorem dX4_verdict_0 : decode cX4_verdict 0 = .ok (.aload_n 0, 1) := by decide +kernel
theorem dX4_verdict_1 : decode cX4_verdict 1 = .ok (.getfield 15, 3) := by decide +kernel
theorem dX4_verdict_4 : decode cX4_verdict 4 = .ok (.iload_n 1, 1) := by decide +kernel
theorem dX4_verdict_5 : decode cX4_verdict 5 = .ok (.invokevirtual 92, 3) := by decide +kernel
theorem dX4_verdict_8 : decode cX4_verdict 8 = .ok (.ifCond .eq 11, 3) := by decide +kernel
theorem dX4_verdict_11 : decode cX4_verdict 11 = .ok (.aload_n 0, 1) := by decide +kernel
theorem dX4_verdict_12 : decode cX4_verdict 12 = .ok (.iload_n 2, 1) := by decide +kernel
theorem dX4_verdict_13 : decode cX4_verdict 13 = .ok (.invokevirtual 23, 3) := by decide +kernel
theorem dX4_verdict_16 : decode cX4_verdict 16 = .ok (.ifCond .ne 5, 3) := by decide +kernel
theorem dX4_verdict_19 : decode cX4_verdict 19 = .ok (.iconst 1, 1) := by decide +kernel
theorem dX4_verdict_20 : decode cX4_verdict 20 = .ok (.ireturn, 1) := by decide +kernel
theorem dX4_verdict_21 : decode cX4_verdict 21 = .ok (.sipush 142, 3) := by decide +kernel
theorem dX4_verdict_24 : decode cX4_verdict 24 = .ok (.iload_n 2, 1) := by decide +kernel
theorem dX4_verdict_25 : decode cX4_verdict 25 = .ok (.bipush 11, 2) := by decide +kernel
theorem dX4_verdict_27 : decode cX4_verdict 27 = .ok (.imul, 1) := by decide +kernel
theorem dX4_verdict_28 : decode cX4_verdict 28 = .ok (.iadd, 1) := by decide +kernel
theorem dX4_verdict_29 : decode cX4_verdict 29 = .ok (.istore 4, 2) := by decide +kernel
theorem dX4_verdict_31 : decode cX4_verdict 31 = .ok (.iconst 4, 1) := by decide +kernel
theorem dX4_verdict_32 : decode cX4_verdict 32 = .ok (.iload_n 1, 1) := by decide +kernel
theorem dX4_verdict_33 : decode cX4_verdict 33 = .ok (.iconst 3, 1) := by decide +kernel
theorem dX4_verdict_34 : decode cX4_verdict 34 = .ok (.imul, 1) := by decide +kernel
theorem dX4_verdict_35 : decode cX4_verdict 35 = .ok (.iadd, 1) := by decide +kernel
theorem dX4_verdict_36 : decode cX4_verdict 36 = .ok (.istore 5, 2) := by decide +kernel
theorem dX4_verdict_38 : decode cX4_verdict 38 = .ok (.aload_n 0, 1) := by decide +kernel
theorem dX4_verdict_39 : decode cX4_verdict 39 = .ok (.getfield 11, 3) := by decide +kernel
theorem dX4_verdict_42 : decode cX4_verdict 42 = .ok (.iconst 0, 1) := by decide +kernel
theorem dX4_verdict_43 : decode cX4_verdict 43 = .ok (.iaload, 1) := by decide +kernel
theorem dX4_verdict_44 : decode cX4_verdict 44 = .ok (.aload_n 0, 1) := by decide +kernel
theorem dX4_verdict_45 : decode cX4_verdict 45 = .ok (.getfield 15, 3) := by decide +kernel
theorem dX4_verdict_48 : decode cX4_verdict 48 = .ok (.getfield 148, 3) := by decide +kernel
theorem dX4_verdict_51 : decode cX4_verdict 51 = .ok (.iload_n 1, 1) := by decide +kernel
theorem dX4_verdict_52 : decode cX4_verdict 52 = .ok (.iaload, 1) := by decide +kernel
theorem dX4_verdict_53 : decode cX4_verdict 53 = .ok (.iadd, 1) := by decide +kernel
theorem dX4_verdict_54 : decode cX4_verdict 54 = .ok (.istore 6, 2) := by decide +kernel
theorem dX4_verdict_56 : decode cX4_verdict 56 = .ok (.aload_n 0, 1) := by decide +kernel
theorem dX4_verdict_57 : decode cX4_verdict 57 = .ok (.getfield 11, 3) := by decide +kernel
theorem dX4_verdict_60 : decode cX4_verdict 60 = .ok (.iload 4, 2) := by decide +kernel
theorem dX4_verdict_62 : decode cX4_verdict 62 = .ok (.iconst 0, 1) := by decide +kernel
theorem dX4_verdict_63 : decode cX4_verdict 63 = .ok (.iadd, 1) := by decide +kernel
theorem dX4_verdict_64 : decode cX4_verdict 64 = .ok (.iaload, 1) := by decide +kernel
theorem dX4_verdict_65 : decode cX4_verdict 65 = .ok (.iconst 1, 1) := by decide +kernel
theorem dX4_verdict_66 : decode cX4_verdict 66 = .ok (.if_icmp .ne 5, 3) := by decide +kernel
theorem dX4_verdict_69 : decode cX4_verdict 69 = .ok (.iconst 2, 1) := by decide +kernel
theorem dX4_verdict_70 : decode cX4_verdict 70 = .ok (.ireturn, 1) := by decide +kernel
theorem dX4_verdict_71 : decode cX4_verdict 71 = .ok (.aload_n 0, 1) := by decide +kernel
theorem dX4_verdict_72 : decode cX4_verdict 72 = .ok (.getfield 11, 3) := by decide +kernel
theorem dX4_verdict_75 : decode cX4_verdict 75 = .ok (.iload 4, 2) := by decide +kernel
theorem dX4_verdict_77 : decode cX4_verdict 77 = .ok (.iconst 2, 1) := by decide +kernel
theorem dX4_verdict_78 : decode cX4_verdict 78 = .ok (.iadd, 1) := by decide +kernel
theorem dX4_verdict_79 : decode cX4_verdict 79 = .ok (.iaload, 1) := by decide +kernel
theorem dX4_verdict_80 : decode cX4_verdict 80 = .ok (.iload_n 1, 1) := by decide +kernel
theorem dX4_verdict_81 : decode cX4_verdict 81 = .ok (.if_icmp .eq 16, 3) := by decide +kernel
theorem dX4_verdict_84 : decode cX4_verdict 84 = .ok (.aload_n 0, 1) := by decide +kernel
theorem dX4_verdict_85 : decode cX4_verdict 85 = .ok (.getfield 15, 3) := by decide +kernel
theorem dX4_verdict_88 : decode cX4_verdict 88 = .ok (.iconst 0, 1) := by decide +kernel
theorem dX4_verdict_89 : decode cX4_verdict 89 = .ok (.invokevirtual 127, 3) := by decide +kernel
theorem dX4_verdict_92 : decode cX4_verdict 92 = .ok (.ifCond .eq 5, 3) := by decide +kernel
theorem dX4_verdict_95 : decode cX4_verdict 95 = .ok (.iconst 3, 1) := by decide +kernel
theorem dX4_verdict_96 : decode cX4_verdict 96 = .ok (.ireturn, 1) := by decide +kernel
theorem dX4_verdict_97 : decode cX4_verdict 97 = .ok (.iload 6, 2) := by decide +kernel
theorem dX4_verdict_99 : decode cX4_verdict 99 = .ok (.aload_n 0, 1) := by decide +kernel
theorem dX4_verdict_100 : decode cX4_verdict 100 = .ok (.getfield 11, 3) := by decide +kernel
theorem dX4_verdict_103 : decode cX4_verdict 103 = .ok (.iload 4, 2) := by decide +kernel
theorem dX4_verdict_105 : decode cX4_verdict 105 = .ok (.iconst 4, 1) := by decide +kernel
theorem dX4_verdict_106 : decode cX4_verdict 106 = .ok (.iadd, 1) := by decide +kernel
theorem dX4_verdict_107 : decode cX4_verdict 107 = .ok (.iaload, 1) := by decide +kernel
theorem dX4_verdict_108 : decode cX4_verdict 108 = .ok (.aload_n 0, 1) := by decide +kernel
theorem dX4_verdict_109 : decode cX4_verdict 109 = .ok (.getfield 15, 3) := by decide +kernel
theorem dX4_verdict_112 : decode cX4_verdict 112 = .ok (.getfield 151, 3) := by decide +kernel
theorem dX4_verdict_115 : decode cX4_verdict 115 = .ok (.isub, 1) := by decide +kernel
theorem dX4_verdict_116 : decode cX4_verdict 116 = .ok (.if_icmp .ge 16, 3) := by decide +kernel
theorem dX4_verdict_119 : decode cX4_verdict 119 = .ok (.aload_n 0, 1) := by decide +kernel
theorem dX4_verdict_120 : decode cX4_verdict 120 = .ok (.getfield 15, 3) := by decide +kernel
theorem dX4_verdict_123 : decode cX4_verdict 123 = .ok (.iconst 1, 1) := by decide +kernel
theorem dX4_verdict_124 : decode cX4_verdict 124 = .ok (.invokevirtual 127, 3) := by decide +kernel
theorem dX4_verdict_127 : decode cX4_verdict 127 = .ok (.ifCond .eq 5, 3) := by decide +kernel
theorem dX4_verdict_130 : decode cX4_verdict 130 = .ok (.iconst 4, 1) := by decide +kernel
theorem dX4_verdict_131 : decode cX4_verdict 131 = .ok (.ireturn, 1) := by decide +kernel
theorem dX4_verdict_132 : decode cX4_verdict 132 = .ok (.iload 6, 2) := by decide +kernel
theorem dX4_verdict_134 : decode cX4_verdict 134 = .ok (.aload_n 0, 1) := by decide +kernel
theorem dX4_verdict_135 : decode cX4_verdict 135 = .ok (.getfield 11, 3) := by decide +kernel
theorem dX4_verdict_138 : decode cX4_verdict 138 = .ok (.iload 4, 2) := by decide +kernel
theorem dX4_verdict_140 : decode cX4_verdict 140 = .ok (.iconst 5, 1) := by decide +kernel
theorem dX4_verdict_141 : decode cX4_verdict 141 = .ok (.iadd, 1) := by decide +kernel
theorem dX4_verdict_142 : decode cX4_verdict 142 = .ok (.iaload, 1) := by decide +kernel
theorem dX4_verdict_143 : decode cX4_verdict 143 = .ok (.aload_n 0, 1) := by decide +kernel
theorem dX4_verdict_144 : decode cX4_verdict 144 = .ok (.getfield 15, 3) := by decide +kernel
theorem dX4_verdict_147 : decode cX4_verdict 147 = .ok (.getfield 151, 3) := by decide +kernel
theorem dX4_verdict_150 : decode cX4_verdict 150 = .ok (.iadd, 1) := by decide +kernel
theorem dX4_verdict_151 : decode cX4_verdict 151 = .ok (.if_icmp .lt 16, 3) := by decide +kernel
theorem dX4_verdict_154 : decode cX4_verdict 154 = .ok (.aload_n 0, 1) := by decide +kernel
theorem dX4_verdict_155 : decode cX4_verdict 155 = .ok (.getfield 15, 3) := by decide +kernel
theorem dX4_verdict_158 : decode cX4_verdict 158 = .ok (.iconst 1, 1) := by decide +kernel
theorem dX4_verdict_159 : decode cX4_verdict 159 = .ok (.invokevirtual 127, 3) := by decide +kernel
theorem dX4_verdict_162 : decode cX4_verdict 162 = .ok (.ifCond .eq 5, 3) := by decide +kernel
theorem dX4_verdict_165 : decode cX4_verdict 165 = .ok (.iconst 5, 1) := by decide +kernel
theorem dX4_verdict_166 : decode cX4_verdict 166 = .ok (.ireturn, 1) := by decide +kernel
theorem dX4_verdict_167 : decode cX4_verdict 167 = .ok (.aload_n 0, 1) := by decide +kernel
theorem dX4_verdict_168 : decode cX4_verdict 168 = .ok (.getfield 11, 3) := by decide +kernel
theorem dX4_verdict_171 : decode cX4_verdict 171 = .ok (.iload 5, 2) := by decide +kernel
theorem dX4_verdict_173 : decode cX4_verdict 173 = .ok (.iconst 1, 1) := by decide +kernel
theorem dX4_verdict_174 : decode cX4_verdict 174 = .ok (.iadd, 1) := by decide +kernel
theorem dX4_verdict_175 : decode cX4_verdict 175 = .ok (.iaload, 1) := by decide +kernel
theorem dX4_verdict_176 : decode cX4_verdict 176 = .ok (.aload_n 0, 1) := by decide +kernel
theorem dX4_verdict_177 : decode cX4_verdict 177 = .ok (.getfield 11, 3) := by decide +kernel
theorem dX4_verdict_180 : decode cX4_verdict 180 = .ok (.iload 4, 2) := by decide +kernel
theorem dX4_verdict_182 : decode cX4_verdict 182 = .ok (.bipush 6, 2) := by decide +kernel
theorem dX4_verdict_184 : decode cX4_verdict 184 = .ok (.iadd, 1) := by decide +kernel
theorem dX4_verdict_185 : decode cX4_verdict 185 = .ok (.iaload, 1) := by decide +kernel
theorem dX4_verdict_186 : decode cX4_verdict 186 = .ok (.ishr, 1) := by decide +kernel
theorem dX4_verdict_187 : decode cX4_verdict 187 = .ok (.iconst 1, 1) := by decide +kernel
theorem dX4_verdict_188 : decode cX4_verdict 188 = .ok (.iand, 1) := by decide +kernel
theorem dX4_verdict_189 : decode cX4_verdict 189 = .ok (.iconst 1, 1) := by decide +kernel
theorem dX4_verdict_190 : decode cX4_verdict 190 = .ok (.if_icmp .ne 17, 3) := by decide +kernel
theorem dX4_verdict_193 : decode cX4_verdict 193 = .ok (.aload_n 0, 1) := by decide +kernel
theorem dX4_verdict_194 : decode cX4_verdict 194 = .ok (.getfield 15, 3) := by decide +kernel
theorem dX4_verdict_197 : decode cX4_verdict 197 = .ok (.iconst 3, 1) := by decide +kernel
theorem dX4_verdict_198 : decode cX4_verdict 198 = .ok (.invokevirtual 127, 3) := by decide +kernel
theorem dX4_verdict_201 : decode cX4_verdict 201 = .ok (.ifCond .eq 6, 3) := by decide +kernel
theorem dX4_verdict_204 : decode cX4_verdict 204 = .ok (.bipush 6, 2) := by decide +kernel
theorem dX4_verdict_206 : decode cX4_verdict 206 = .ok (.ireturn, 1) := by decide +kernel
theorem dX4_verdict_207 : decode cX4_verdict 207 = .ok (.aload_n 0, 1) := by decide +kernel
theorem dX4_verdict_208 : decode cX4_verdict 208 = .ok (.getfield 15, 3) := by decide +kernel
theorem dX4_verdict_211 : decode cX4_verdict 211 = .ok (.getfield 154, 3) := by decide +kernel
theorem dX4_verdict_214 : decode cX4_verdict 214 = .ok (.ifCond .le 33, 3) := by decide +kernel
theorem dX4_verdict_217 : decode cX4_verdict 217 = .ok (.aload_n 0, 1) := by decide +kernel
theorem dX4_verdict_218 : decode cX4_verdict 218 = .ok (.getfield 11, 3) := by decide +kernel
theorem dX4_verdict_221 : decode cX4_verdict 221 = .ok (.iconst 0, 1) := by decide +kernel
theorem dX4_verdict_222 : decode cX4_verdict 222 = .ok (.iaload, 1) := by decide +kernel
theorem dX4_verdict_223 : decode cX4_verdict 223 = .ok (.aload_n 0, 1) := by decide +kernel
theorem dX4_verdict_224 : decode cX4_verdict 224 = .ok (.getfield 11, 3) := by decide +kernel
theorem dX4_verdict_227 : decode cX4_verdict 227 = .ok (.iload 5, 2) := by decide +kernel
theorem dX4_verdict_229 : decode cX4_verdict 229 = .ok (.iconst 0, 1) := by decide +kernel
theorem dX4_verdict_230 : decode cX4_verdict 230 = .ok (.iadd, 1) := by decide +kernel
theorem dX4_verdict_231 : decode cX4_verdict 231 = .ok (.iaload, 1) := by decide +kernel
theorem dX4_verdict_232 : decode cX4_verdict 232 = .ok (.isub, 1) := by decide +kernel
theorem dX4_verdict_233 : decode cX4_verdict 233 = .ok (.aload_n 0, 1) := by decide +kernel
theorem dX4_verdict_234 : decode cX4_verdict 234 = .ok (.getfield 15, 3) := by decide +kernel
theorem dX4_verdict_237 : decode cX4_verdict 237 = .ok (.getfield 154, 3) := by decide +kernel
theorem dX4_verdict_240 : decode cX4_verdict 240 = .ok (.if_icmp .le 7, 3) := by decide +kernel
theorem dX4_verdict_243 : decode cX4_verdict 243 = .ok (.iconst 1, 1) := by decide +kernel
theorem dX4_verdict_244 : decode cX4_verdict 244 = .ok (.goto 4, 3) := by decide +kernel
theorem dX4_verdict_247 : decode cX4_verdict 247 = .ok (.iconst 0, 1) := by decide +kernel
theorem dX4_verdict_248 : decode cX4_verdict 248 = .ok (.istore 7, 2) := by decide +kernel
theorem dX4_verdict_250 : decode cX4_verdict 250 = .ok (.iload 7, 2) := by decide +kernel
theorem dX4_verdict_252 : decode cX4_verdict 252 = .ok (.ifCond .eq 17, 3) := by decide +kernel
theorem dX4_verdict_255 : decode cX4_verdict 255 = .ok (.aload_n 0, 1) := by decide +kernel
theorem dX4_verdict_256 : decode cX4_verdict 256 = .ok (.getfield 15, 3) := by decide +kernel
theorem dX4_verdict_259 : decode cX4_verdict 259 = .ok (.iconst 3, 1) := by decide +kernel
theorem dX4_verdict_260 : decode cX4_verdict 260 = .ok (.invokevirtual 127, 3) := by decide +kernel
theorem dX4_verdict_263 : decode cX4_verdict 263 = .ok (.ifCond .eq 6, 3) := by decide +kernel
theorem dX4_verdict_266 : decode cX4_verdict 266 = .ok (.bipush 7, 2) := by decide +kernel
theorem dX4_verdict_268 : decode cX4_verdict 268 = .ok (.ireturn, 1) := by decide +kernel
theorem dX4_verdict_269 : decode cX4_verdict 269 = .ok (.aload_n 0, 1) := by decide +kernel
theorem dX4_verdict_270 : decode cX4_verdict 270 = .ok (.getfield 15, 3) := by decide +kernel
theorem dX4_verdict_273 : decode cX4_verdict 273 = .ok (.iload_n 1, 1) := by decide +kernel
theorem dX4_verdict_274 : decode cX4_verdict 274 = .ok (.invokevirtual 157, 3) := by decide +kernel
theorem dX4_verdict_277 : decode cX4_verdict 277 = .ok (.ifCond .eq 24, 3) := by decide +kernel
theorem dX4_verdict_280 : decode cX4_verdict 280 = .ok (.aload_n 0, 1) := by decide +kernel
theorem dX4_verdict_281 : decode cX4_verdict 281 = .ok (.getfield 11, 3) := by decide +kernel
theorem dX4_verdict_284 : decode cX4_verdict 284 = .ok (.iload 5, 2) := by decide +kernel
theorem dX4_verdict_286 : decode cX4_verdict 286 = .ok (.iconst 2, 1) := by decide +kernel
theorem dX4_verdict_287 : decode cX4_verdict 287 = .ok (.iadd, 1) := by decide +kernel
theorem dX4_verdict_288 : decode cX4_verdict 288 = .ok (.iaload, 1) := by decide +kernel
theorem dX4_verdict_289 : decode cX4_verdict 289 = .ok (.iload_n 2, 1) := by decide +kernel
theorem dX4_verdict_290 : decode cX4_verdict 290 = .ok (.ishr, 1) := by decide +kernel
theorem dX4_verdict_291 : decode cX4_verdict 291 = .ok (.iconst 1, 1) := by decide +kernel
theorem dX4_verdict_292 : decode cX4_verdict 292 = .ok (.iand, 1) := by decide +kernel
theorem dX4_verdict_293 : decode cX4_verdict 293 = .ok (.iconst 1, 1) := by decide +kernel
theorem dX4_verdict_294 : decode cX4_verdict 294 = .ok (.if_icmp .ne 7, 3) := by decide +kernel
theorem dX4_verdict_297 : decode cX4_verdict 297 = .ok (.iconst 1, 1) := by decide +kernel
theorem dX4_verdict_298 : decode cX4_verdict 298 = .ok (.goto 4, 3) := by decide +kernel
theorem dX4_verdict_301 : decode cX4_verdict 301 = .ok (.iconst 0, 1) := by decide +kernel
theorem dX4_verdict_302 : decode cX4_verdict 302 = .ok (.istore 8, 2) := by decide +kernel
theorem dX4_verdict_304 : decode cX4_verdict 304 = .ok (.iload 8, 2) := by decide +kernel
theorem dX4_verdict_306 : decode cX4_verdict 306 = .ok (.ifCond .eq 17, 3) := by decide +kernel
theorem dX4_verdict_309 : decode cX4_verdict 309 = .ok (.aload_n 0, 1) := by decide +kernel
theorem dX4_verdict_310 : decode cX4_verdict 310 = .ok (.getfield 15, 3) := by decide +kernel
theorem dX4_verdict_313 : decode cX4_verdict 313 = .ok (.iconst 2, 1) := by decide +kernel
theorem dX4_verdict_314 : decode cX4_verdict 314 = .ok (.invokevirtual 127, 3) := by decide +kernel
theorem dX4_verdict_317 : decode cX4_verdict 317 = .ok (.ifCond .eq 6, 3) := by decide +kernel
theorem dX4_verdict_320 : decode cX4_verdict 320 = .ok (.bipush 8, 2) := by decide +kernel
theorem dX4_verdict_322 : decode cX4_verdict 322 = .ok (.ireturn, 1) := by decide +kernel
theorem dX4_verdict_323 : decode cX4_verdict 323 = .ok (.aload_n 0, 1) := by decide +kernel
theorem dX4_verdict_324 : decode cX4_verdict 324 = .ok (.getfield 11, 3) := by decide +kernel
theorem dX4_verdict_327 : decode cX4_verdict 327 = .ok (.iload 4, 2) := by decide +kernel
theorem dX4_verdict_329 : decode cX4_verdict 329 = .ok (.iconst 3, 1) := by decide +kernel
theorem dX4_verdict_330 : decode cX4_verdict 330 = .ok (.iadd, 1) := by decide +kernel
theorem dX4_verdict_331 : decode cX4_verdict 331 = .ok (.iaload, 1) := by decide +kernel
theorem dX4_verdict_332 : decode cX4_verdict 332 = .ok (.iload_n 3, 1) := by decide +kernel
theorem dX4_verdict_333 : decode cX4_verdict 333 = .ok (.ishr, 1) := by decide +kernel
theorem dX4_verdict_334 : decode cX4_verdict 334 = .ok (.iconst 1, 1) := by decide +kernel
theorem dX4_verdict_335 : decode cX4_verdict 335 = .ok (.iand, 1) := by decide +kernel
theorem dX4_verdict_336 : decode cX4_verdict 336 = .ok (.ifCond .ne 6, 3) := by decide +kernel
theorem dX4_verdict_339 : decode cX4_verdict 339 = .ok (.bipush 9, 2) := by decide +kernel
theorem dX4_verdict_341 : decode cX4_verdict 341 = .ok (.ireturn, 1) := by decide +kernel
theorem dX4_verdict_342 : decode cX4_verdict 342 = .ok (.iload 6, 2) := by decide +kernel
theorem dX4_verdict_344 : decode cX4_verdict 344 = .ok (.aload_n 0, 1) := by decide +kernel
theorem dX4_verdict_345 : decode cX4_verdict 345 = .ok (.getfield 11, 3) := by decide +kernel
theorem dX4_verdict_348 : decode cX4_verdict 348 = .ok (.iload 4, 2) := by decide +kernel
theorem dX4_verdict_350 : decode cX4_verdict 350 = .ok (.bipush 7, 2) := by decide +kernel
theorem dX4_verdict_352 : decode cX4_verdict 352 = .ok (.iadd, 1) := by decide +kernel
theorem dX4_verdict_353 : decode cX4_verdict 353 = .ok (.iaload, 1) := by decide +kernel
theorem dX4_verdict_354 : decode cX4_verdict 354 = .ok (.isub, 1) := by decide +kernel
theorem dX4_verdict_355 : decode cX4_verdict 355 = .ok (.aload_n 0, 1) := by decide +kernel
theorem dX4_verdict_356 : decode cX4_verdict 356 = .ok (.getfield 15, 3) := by decide +kernel
theorem dX4_verdict_359 : decode cX4_verdict 359 = .ok (.getfield 160, 3) := by decide +kernel
theorem dX4_verdict_362 : decode cX4_verdict 362 = .ok (.aload_n 0, 1) := by decide +kernel
theorem dX4_verdict_363 : decode cX4_verdict 363 = .ok (.getfield 15, 3) := by decide +kernel
theorem dX4_verdict_366 : decode cX4_verdict 366 = .ok (.getfield 151, 3) := by decide +kernel
theorem dX4_verdict_369 : decode cX4_verdict 369 = .ok (.iadd, 1) := by decide +kernel
theorem dX4_verdict_370 : decode cX4_verdict 370 = .ok (.if_icmp .le 7, 3) := by decide +kernel
theorem dX4_verdict_373 : decode cX4_verdict 373 = .ok (.iconst 1, 1) := by decide +kernel
theorem dX4_verdict_374 : decode cX4_verdict 374 = .ok (.goto 4, 3) := by decide +kernel
theorem dX4_verdict_377 : decode cX4_verdict 377 = .ok (.iconst 0, 1) := by decide +kernel
theorem dX4_verdict_378 : decode cX4_verdict 378 = .ok (.istore 9, 2) := by decide +kernel
theorem dX4_verdict_380 : decode cX4_verdict 380 = .ok (.aload_n 0, 1) := by decide +kernel
theorem dX4_verdict_381 : decode cX4_verdict 381 = .ok (.getfield 15, 3) := by decide +kernel
theorem dX4_verdict_384 : decode cX4_verdict 384 = .ok (.getfield 163, 3) := by decide +kernel
theorem dX4_verdict_387 : decode cX4_verdict 387 = .ok (.iload_n 1, 1) := by decide +kernel
theorem dX4_verdict_388 : decode cX4_verdict 388 = .ok (.iaload, 1) := by decide +kernel
theorem dX4_verdict_389 : decode cX4_verdict 389 = .ok (.iload_n 3, 1) := by decide +kernel
theorem dX4_verdict_390 : decode cX4_verdict 390 = .ok (.ishr, 1) := by decide +kernel
theorem dX4_verdict_391 : decode cX4_verdict 391 = .ok (.iconst 1, 1) := by decide +kernel
theorem dX4_verdict_392 : decode cX4_verdict 392 = .ok (.iand, 1) := by decide +kernel
theorem dX4_verdict_393 : decode cX4_verdict 393 = .ok (.iconst 1, 1) := by decide +kernel
theorem dX4_verdict_394 : decode cX4_verdict 394 = .ok (.if_icmp .ne 7, 3) := by decide +kernel
theorem dX4_verdict_397 : decode cX4_verdict 397 = .ok (.iconst 1, 1) := by decide +kernel
theorem dX4_verdict_398 : decode cX4_verdict 398 = .ok (.goto 4, 3) := by decide +kernel
theorem dX4_verdict_401 : decode cX4_verdict 401 = .ok (.iconst 0, 1) := by decide +kernel
theorem dX4_verdict_402 : decode cX4_verdict 402 = .ok (.istore 10, 2) := by decide +kernel
theorem dX4_verdict_404 : decode cX4_verdict 404 = .ok (.iload 9, 2) := by decide +kernel
theorem dX4_verdict_406 : decode cX4_verdict 406 = .ok (.ifCond .eq 25, 3) := by decide +kernel
theorem dX4_verdict_409 : decode cX4_verdict 409 = .ok (.iload 10, 2) := by decide +kernel
theorem dX4_verdict_411 : decode cX4_verdict 411 = .ok (.ifCond .eq 20, 3) := by decide +kernel
theorem dX4_verdict_414 : decode cX4_verdict 414 = .ok (.aload_n 0, 1) := by decide +kernel
theorem dX4_verdict_415 : decode cX4_verdict 415 = .ok (.getfield 15, 3) := by decide +kernel
theorem dX4_verdict_418 : decode cX4_verdict 418 = .ok (.bipush 7, 2) := by decide +kernel
theorem dX4_verdict_420 : decode cX4_verdict 420 = .ok (.invokevirtual 127, 3) := by decide +kernel
theorem dX4_verdict_423 : decode cX4_verdict 423 = .ok (.ifCond .eq 8, 3) := by decide +kernel
theorem dX4_verdict_426 : decode cX4_verdict 426 = .ok (.bipush 10, 2) := by decide +kernel
theorem dX4_verdict_428 : decode cX4_verdict 428 = .ok (.goto 4, 3) := by decide +kernel
theorem dX4_verdict_431 : decode cX4_verdict 431 = .ok (.iconst 0, 1) := by decide +kernel
theorem dX4_verdict_432 : decode cX4_verdict 432 = .ok (.ireturn, 1) := by decide +kernel
theorem dX4_letIn_0 : decode cX4_letIn 0 = .ok (.iload_n 1, 1) := by decide +kernel
theorem dX4_letIn_1 : decode cX4_letIn 1 = .ok (.ifCond .lt 58, 3) := by decide +kernel
theorem dX4_letIn_4 : decode cX4_letIn 4 = .ok (.iload_n 1, 1) := by decide +kernel
theorem dX4_letIn_5 : decode cX4_letIn 5 = .ok (.iconst 4, 1) := by decide +kernel
theorem dX4_letIn_6 : decode cX4_letIn 6 = .ok (.if_icmp .ge 53, 3) := by decide +kernel
theorem dX4_letIn_9 : decode cX4_letIn 9 = .ok (.aload_n 0, 1) := by decide +kernel
theorem dX4_letIn_10 : decode cX4_letIn 10 = .ok (.iload_n 2, 1) := by decide +kernel
theorem dX4_letIn_11 : decode cX4_letIn 11 = .ok (.invokevirtual 23, 3) := by decide +kernel
theorem dX4_letIn_14 : decode cX4_letIn 14 = .ok (.ifCond .eq 45, 3) := by decide +kernel
theorem dX4_letIn_17 : decode cX4_letIn 17 = .ok (.aload_n 0, 1) := by decide +kernel
theorem dX4_letIn_18 : decode cX4_letIn 18 = .ok (.getfield 11, 3) := by decide +kernel
theorem dX4_letIn_21 : decode cX4_letIn 21 = .ok (.iconst 4, 1) := by decide +kernel
theorem dX4_letIn_22 : decode cX4_letIn 22 = .ok (.iload_n 1, 1) := by decide +kernel
theorem dX4_letIn_23 : decode cX4_letIn 23 = .ok (.iconst 3, 1) := by decide +kernel
theorem dX4_letIn_24 : decode cX4_letIn 24 = .ok (.imul, 1) := by decide +kernel
theorem dX4_letIn_25 : decode cX4_letIn 25 = .ok (.iadd, 1) := by decide +kernel
theorem dX4_letIn_26 : decode cX4_letIn 26 = .ok (.iconst 2, 1) := by decide +kernel
theorem dX4_letIn_27 : decode cX4_letIn 27 = .ok (.iadd, 1) := by decide +kernel
theorem dX4_letIn_28 : decode cX4_letIn 28 = .ok (.dup2, 1) := by decide +kernel
theorem dX4_letIn_29 : decode cX4_letIn 29 = .ok (.iaload, 1) := by decide +kernel
theorem dX4_letIn_30 : decode cX4_letIn 30 = .ok (.iconst 1, 1) := by decide +kernel
theorem dX4_letIn_31 : decode cX4_letIn 31 = .ok (.iload_n 2, 1) := by decide +kernel
theorem dX4_letIn_32 : decode cX4_letIn 32 = .ok (.ishl, 1) := by decide +kernel
theorem dX4_letIn_33 : decode cX4_letIn 33 = .ok (.ior, 1) := by decide +kernel
theorem dX4_letIn_34 : decode cX4_letIn 34 = .ok (.iastore, 1) := by decide +kernel
theorem dX4_letIn_35 : decode cX4_letIn 35 = .ok (.aload_n 0, 1) := by decide +kernel
theorem dX4_letIn_36 : decode cX4_letIn 36 = .ok (.getfield 11, 3) := by decide +kernel
theorem dX4_letIn_39 : decode cX4_letIn 39 = .ok (.sipush 142, 3) := by decide +kernel
theorem dX4_letIn_42 : decode cX4_letIn 42 = .ok (.iload_n 2, 1) := by decide +kernel
theorem dX4_letIn_43 : decode cX4_letIn 43 = .ok (.bipush 11, 2) := by decide +kernel
theorem dX4_letIn_45 : decode cX4_letIn 45 = .ok (.imul, 1) := by decide +kernel
theorem dX4_letIn_46 : decode cX4_letIn 46 = .ok (.iadd, 1) := by decide +kernel
theorem dX4_letIn_47 : decode cX4_letIn 47 = .ok (.bipush 10, 2) := by decide +kernel
theorem dX4_letIn_49 : decode cX4_letIn 49 = .ok (.iadd, 1) := by decide +kernel
theorem dX4_letIn_50 : decode cX4_letIn 50 = .ok (.dup2, 1) := by decide +kernel
theorem dX4_letIn_51 : decode cX4_letIn 51 = .ok (.iaload, 1) := by decide +kernel
theorem dX4_letIn_52 : decode cX4_letIn 52 = .ok (.iconst 1, 1) := by decide +kernel
theorem dX4_letIn_53 : decode cX4_letIn 53 = .ok (.iconst 5, 1) := by decide +kernel
theorem dX4_letIn_54 : decode cX4_letIn 54 = .ok (.iload_n 1, 1) := by decide +kernel
theorem dX4_letIn_55 : decode cX4_letIn 55 = .ok (.iadd, 1) := by decide +kernel
theorem dX4_letIn_56 : decode cX4_letIn 56 = .ok (.ishl, 1) := by decide +kernel
theorem dX4_letIn_57 : decode cX4_letIn 57 = .ok (.ior, 1) := by decide +kernel
theorem dX4_letIn_58 : decode cX4_letIn 58 = .ok (.iastore, 1) := by decide +kernel
theorem dX4_letIn_59 : decode cX4_letIn 59 = .ok (.return_, 1) := by decide +kernel
theorem dX4_endFamiliesOf_0 : decode cX4_endFamiliesOf 0 = .ok (.iconst 0, 1) := by decide +kernel
theorem dX4_endFamiliesOf_1 : decode cX4_endFamiliesOf 1 = .ok (.istore_n 2, 1) := by decide +kernel
theorem dX4_endFamiliesOf_2 : decode cX4_endFamiliesOf 2 = .ok (.iconst 0, 1) := by decide +kernel
theorem dX4_endFamiliesOf_3 : decode cX4_endFamiliesOf 3 = .ok (.istore_n 3, 1) := by decide +kernel
theorem dX4_endFamiliesOf_4 : decode cX4_endFamiliesOf 4 = .ok (.iload_n 3, 1) := by decide +kernel
theorem dX4_endFamiliesOf_5 : decode cX4_endFamiliesOf 5 = .ok (.aload_n 0, 1) := by decide +kernel
theorem dX4_endFamiliesOf_6 : decode cX4_endFamiliesOf 6 = .ok (.getfield 11, 3) := by decide +kernel
theorem dX4_endFamiliesOf_9 : decode cX4_endFamiliesOf 9 = .ok (.iconst 2, 1) := by decide +kernel
theorem dX4_endFamiliesOf_10 : decode cX4_endFamiliesOf 10 = .ok (.iaload, 1) := by decide +kernel
theorem dX4_endFamiliesOf_11 : decode cX4_endFamiliesOf 11 = .ok (.if_icmp .ge 35, 3) := by decide +kernel
theorem dX4_endFamiliesOf_14 : decode cX4_endFamiliesOf 14 = .ok (.aload_n 0, 1) := by decide +kernel
theorem dX4_endFamiliesOf_15 : decode cX4_endFamiliesOf 15 = .ok (.iload_n 3, 1) := by decide +kernel
theorem dX4_endFamiliesOf_16 : decode cX4_endFamiliesOf 16 = .ok (.iconst 0, 1) := by decide +kernel
theorem dX4_endFamiliesOf_17 : decode cX4_endFamiliesOf 17 = .ok (.invokevirtual 36, 3) := by decide +kernel
theorem dX4_endFamiliesOf_20 : decode cX4_endFamiliesOf 20 = .ok (.iload_n 1, 1) := by decide +kernel
theorem dX4_endFamiliesOf_21 : decode cX4_endFamiliesOf 21 = .ok (.if_icmp .ne 19, 3) := by decide +kernel
theorem dX4_endFamiliesOf_24 : decode cX4_endFamiliesOf 24 = .ok (.aload_n 0, 1) := by decide +kernel
theorem dX4_endFamiliesOf_25 : decode cX4_endFamiliesOf 25 = .ok (.iload_n 3, 1) := by decide +kernel
theorem dX4_endFamiliesOf_26 : decode cX4_endFamiliesOf 26 = .ok (.invokevirtual 166, 3) := by decide +kernel
theorem dX4_endFamiliesOf_29 : decode cX4_endFamiliesOf 29 = .ok (.ifCond .ne 11, 3) := by decide +kernel
theorem dX4_endFamiliesOf_32 : decode cX4_endFamiliesOf 32 = .ok (.aload_n 0, 1) := by decide +kernel
theorem dX4_endFamiliesOf_33 : decode cX4_endFamiliesOf 33 = .ok (.iload_n 3, 1) := by decide +kernel
theorem dX4_endFamiliesOf_34 : decode cX4_endFamiliesOf 34 = .ok (.invokevirtual 117, 3) := by decide +kernel
theorem dX4_endFamiliesOf_37 : decode cX4_endFamiliesOf 37 = .ok (.iinc 2 1, 3) := by decide +kernel
theorem dX4_endFamiliesOf_40 : decode cX4_endFamiliesOf 40 = .ok (.iinc 3 1, 3) := by decide +kernel
theorem dX4_endFamiliesOf_43 : decode cX4_endFamiliesOf 43 = .ok (.goto (-39), 3) := by decide +kernel
theorem dX4_endFamiliesOf_46 : decode cX4_endFamiliesOf 46 = .ok (.iload_n 2, 1) := by decide +kernel
theorem dX4_endFamiliesOf_47 : decode cX4_endFamiliesOf 47 = .ok (.ireturn, 1) := by decide +kernel
theorem dX4_endFamily_0 : decode cX4_endFamily 0 = .ok (.aload_n 0, 1) := by decide +kernel
theorem dX4_endFamily_1 : decode cX4_endFamily 1 = .ok (.iload_n 1, 1) := by decide +kernel
theorem dX4_endFamily_2 : decode cX4_endFamily 2 = .ok (.invokevirtual 27, 3) := by decide +kernel
theorem dX4_endFamily_5 : decode cX4_endFamily 5 = .ok (.ifCond .ne 4, 3) := by decide +kernel
theorem dX4_endFamily_8 : decode cX4_endFamily 8 = .ok (.return_, 1) := by decide +kernel
theorem dX4_endFamily_9 : decode cX4_endFamily 9 = .ok (.aload_n 0, 1) := by decide +kernel
theorem dX4_endFamily_10 : decode cX4_endFamily 10 = .ok (.getfield 11, 3) := by decide +kernel
theorem dX4_endFamily_13 : decode cX4_endFamily 13 = .ok (.bipush 26, 2) := by decide +kernel
theorem dX4_endFamily_15 : decode cX4_endFamily 15 = .ok (.iload_n 1, 1) := by decide +kernel
theorem dX4_endFamily_16 : decode cX4_endFamily 16 = .ok (.iconst 2, 1) := by decide +kernel
theorem dX4_endFamily_17 : decode cX4_endFamily 17 = .ok (.imul, 1) := by decide +kernel
theorem dX4_endFamily_18 : decode cX4_endFamily 18 = .ok (.iadd, 1) := by decide +kernel
theorem dX4_endFamily_19 : decode cX4_endFamily 19 = .ok (.iconst 1, 1) := by decide +kernel
theorem dX4_endFamily_20 : decode cX4_endFamily 20 = .ok (.iadd, 1) := by decide +kernel
theorem dX4_endFamily_21 : decode cX4_endFamily 21 = .ok (.aload_n 0, 1) := by decide +kernel
theorem dX4_endFamily_22 : decode cX4_endFamily 22 = .ok (.getfield 11, 3) := by decide +kernel
theorem dX4_endFamily_25 : decode cX4_endFamily 25 = .ok (.iconst 0, 1) := by decide +kernel
theorem dX4_endFamily_26 : decode cX4_endFamily 26 = .ok (.iaload, 1) := by decide +kernel
theorem dX4_endFamily_27 : decode cX4_endFamily 27 = .ok (.iastore, 1) := by decide +kernel
theorem dX4_endFamily_28 : decode cX4_endFamily 28 = .ok (.iconst 0, 1) := by decide +kernel
theorem dX4_endFamily_29 : decode cX4_endFamily 29 = .ok (.istore_n 2, 1) := by decide +kernel
theorem dX4_endFamily_30 : decode cX4_endFamily 30 = .ok (.iconst 0, 1) := by decide +kernel
theorem dX4_endFamily_31 : decode cX4_endFamily 31 = .ok (.istore_n 3, 1) := by decide +kernel
theorem dX4_endFamily_32 : decode cX4_endFamily 32 = .ok (.iload_n 3, 1) := by decide +kernel
theorem dX4_endFamily_33 : decode cX4_endFamily 33 = .ok (.aload_n 0, 1) := by decide +kernel
theorem dX4_endFamily_34 : decode cX4_endFamily 34 = .ok (.getfield 11, 3) := by decide +kernel
theorem dX4_endFamily_37 : decode cX4_endFamily 37 = .ok (.iconst 1, 1) := by decide +kernel
theorem dX4_endFamily_38 : decode cX4_endFamily 38 = .ok (.iaload, 1) := by decide +kernel
theorem dX4_endFamily_39 : decode cX4_endFamily 39 = .ok (.if_icmp .ge 66, 3) := by decide +kernel
theorem dX4_endFamily_42 : decode cX4_endFamily 42 = .ok (.iload_n 3, 1) := by decide +kernel
theorem dX4_endFamily_43 : decode cX4_endFamily 43 = .ok (.bipush 32, 2) := by decide +kernel
theorem dX4_endFamily_45 : decode cX4_endFamily 45 = .ok (.if_icmp .ge 60, 3) := by decide +kernel
theorem dX4_endFamily_48 : decode cX4_endFamily 48 = .ok (.sipush 142, 3) := by decide +kernel
theorem dX4_endFamily_51 : decode cX4_endFamily 51 = .ok (.iload_n 3, 1) := by decide +kernel
theorem dX4_endFamily_52 : decode cX4_endFamily 52 = .ok (.bipush 11, 2) := by decide +kernel
theorem dX4_endFamily_54 : decode cX4_endFamily 54 = .ok (.imul, 1) := by decide +kernel
theorem dX4_endFamily_55 : decode cX4_endFamily 55 = .ok (.iadd, 1) := by decide +kernel
theorem dX4_endFamily_56 : decode cX4_endFamily 56 = .ok (.istore 4, 2) := by decide +kernel
theorem dX4_endFamily_58 : decode cX4_endFamily 58 = .ok (.aload_n 0, 1) := by decide +kernel
theorem dX4_endFamily_59 : decode cX4_endFamily 59 = .ok (.getfield 11, 3) := by decide +kernel
theorem dX4_endFamily_62 : decode cX4_endFamily 62 = .ok (.iload 4, 2) := by decide +kernel
theorem dX4_endFamily_64 : decode cX4_endFamily 64 = .ok (.bipush 6, 2) := by decide +kernel
theorem dX4_endFamily_66 : decode cX4_endFamily 66 = .ok (.iadd, 1) := by decide +kernel
theorem dX4_endFamily_67 : decode cX4_endFamily 67 = .ok (.iaload, 1) := by decide +kernel
theorem dX4_endFamily_68 : decode cX4_endFamily 68 = .ok (.iload_n 1, 1) := by decide +kernel
theorem dX4_endFamily_69 : decode cX4_endFamily 69 = .ok (.if_icmp .ne 30, 3) := by decide +kernel
theorem dX4_endFamily_72 : decode cX4_endFamily 72 = .ok (.aload_n 0, 1) := by decide +kernel
theorem dX4_endFamily_73 : decode cX4_endFamily 73 = .ok (.getfield 11, 3) := by decide +kernel
theorem dX4_endFamily_76 : decode cX4_endFamily 76 = .ok (.iload 4, 2) := by decide +kernel
theorem dX4_endFamily_78 : decode cX4_endFamily 78 = .ok (.iconst 0, 1) := by decide +kernel
theorem dX4_endFamily_79 : decode cX4_endFamily 79 = .ok (.iadd, 1) := by decide +kernel
theorem dX4_endFamily_80 : decode cX4_endFamily 80 = .ok (.iaload, 1) := by decide +kernel
theorem dX4_endFamily_81 : decode cX4_endFamily 81 = .ok (.iconst 1, 1) := by decide +kernel
theorem dX4_endFamily_82 : decode cX4_endFamily 82 = .ok (.if_icmp .eq 17, 3) := by decide +kernel
theorem dX4_endFamily_85 : decode cX4_endFamily 85 = .ok (.iload_n 2, 1) := by decide +kernel
theorem dX4_endFamily_86 : decode cX4_endFamily 86 = .ok (.iconst 1, 1) := by decide +kernel
theorem dX4_endFamily_87 : decode cX4_endFamily 87 = .ok (.aload_n 0, 1) := by decide +kernel
theorem dX4_endFamily_88 : decode cX4_endFamily 88 = .ok (.getfield 11, 3) := by decide +kernel
theorem dX4_endFamily_91 : decode cX4_endFamily 91 = .ok (.iload 4, 2) := by decide +kernel
theorem dX4_endFamily_93 : decode cX4_endFamily 93 = .ok (.iconst 2, 1) := by decide +kernel
theorem dX4_endFamily_94 : decode cX4_endFamily 94 = .ok (.iadd, 1) := by decide +kernel
theorem dX4_endFamily_95 : decode cX4_endFamily 95 = .ok (.iaload, 1) := by decide +kernel
theorem dX4_endFamily_96 : decode cX4_endFamily 96 = .ok (.ishl, 1) := by decide +kernel
theorem dX4_endFamily_97 : decode cX4_endFamily 97 = .ok (.ior, 1) := by decide +kernel
theorem dX4_endFamily_98 : decode cX4_endFamily 98 = .ok (.istore_n 2, 1) := by decide +kernel
theorem dX4_endFamily_99 : decode cX4_endFamily 99 = .ok (.iinc 3 1, 3) := by decide +kernel
theorem dX4_endFamily_102 : decode cX4_endFamily 102 = .ok (.goto (-70), 3) := by decide +kernel
theorem dX4_endFamily_105 : decode cX4_endFamily 105 = .ok (.iconst 0, 1) := by decide +kernel
theorem dX4_endFamily_106 : decode cX4_endFamily 106 = .ok (.istore_n 3, 1) := by decide +kernel
theorem dX4_endFamily_107 : decode cX4_endFamily 107 = .ok (.iload_n 3, 1) := by decide +kernel
theorem dX4_endFamily_108 : decode cX4_endFamily 108 = .ok (.iconst 4, 1) := by decide +kernel
theorem dX4_endFamily_109 : decode cX4_endFamily 109 = .ok (.if_icmp .ge 42, 3) := by decide +kernel
theorem dX4_endFamily_112 : decode cX4_endFamily 112 = .ok (.iload_n 2, 1) := by decide +kernel
theorem dX4_endFamily_113 : decode cX4_endFamily 113 = .ok (.iload_n 3, 1) := by decide +kernel
theorem dX4_endFamily_114 : decode cX4_endFamily 114 = .ok (.ishr, 1) := by decide +kernel
theorem dX4_endFamily_115 : decode cX4_endFamily 115 = .ok (.iconst 1, 1) := by decide +kernel
theorem dX4_endFamily_116 : decode cX4_endFamily 116 = .ok (.iand, 1) := by decide +kernel
theorem dX4_endFamily_117 : decode cX4_endFamily 117 = .ok (.iconst 1, 1) := by decide +kernel
theorem dX4_endFamily_118 : decode cX4_endFamily 118 = .ok (.if_icmp .ne 27, 3) := by decide +kernel
theorem dX4_endFamily_121 : decode cX4_endFamily 121 = .ok (.aload_n 0, 1) := by decide +kernel
theorem dX4_endFamily_122 : decode cX4_endFamily 122 = .ok (.getfield 15, 3) := by decide +kernel
theorem dX4_endFamily_125 : decode cX4_endFamily 125 = .ok (.iload_n 3, 1) := by decide +kernel
theorem dX4_endFamily_126 : decode cX4_endFamily 126 = .ok (.invokevirtual 92, 3) := by decide +kernel
theorem dX4_endFamily_129 : decode cX4_endFamily 129 = .ok (.ifCond .eq 16, 3) := by decide +kernel
theorem dX4_endFamily_132 : decode cX4_endFamily 132 = .ok (.aload_n 0, 1) := by decide +kernel
theorem dX4_endFamily_133 : decode cX4_endFamily 133 = .ok (.bipush 9, 2) := by decide +kernel
theorem dX4_endFamily_135 : decode cX4_endFamily 135 = .ok (.iconst 5, 1) := by decide +kernel
theorem dX4_endFamily_136 : decode cX4_endFamily 136 = .ok (.iload_n 3, 1) := by decide +kernel
theorem dX4_endFamily_137 : decode cX4_endFamily 137 = .ok (.iadd, 1) := by decide +kernel
theorem dX4_endFamily_138 : decode cX4_endFamily 138 = .ok (.iconst 5, 1) := by decide +kernel
theorem dX4_endFamily_139 : decode cX4_endFamily 139 = .ok (.iload_n 1, 1) := by decide +kernel
theorem dX4_endFamily_140 : decode cX4_endFamily 140 = .ok (.iconst (-1), 1) := by decide +kernel
theorem dX4_endFamily_141 : decode cX4_endFamily 141 = .ok (.iconst 0, 1) := by decide +kernel
theorem dX4_endFamily_142 : decode cX4_endFamily 142 = .ok (.invokevirtual 54, 3) := by decide +kernel
theorem dX4_endFamily_145 : decode cX4_endFamily 145 = .ok (.iinc 3 1, 3) := by decide +kernel
theorem dX4_endFamily_148 : decode cX4_endFamily 148 = .ok (.goto (-41), 3) := by decide +kernel
theorem dX4_endFamily_151 : decode cX4_endFamily 151 = .ok (.return_, 1) := by decide +kernel
theorem dX4_passTick_0 : decode cX4_passTick 0 = .ok (.aload_n 0, 1) := by decide +kernel
theorem dX4_passTick_1 : decode cX4_passTick 1 = .ok (.getfield 11, 3) := by decide +kernel
theorem dX4_passTick_4 : decode cX4_passTick 4 = .ok (.iconst 0, 1) := by decide +kernel
theorem dX4_passTick_5 : decode cX4_passTick 5 = .ok (.dup2, 1) := by decide +kernel
theorem dX4_passTick_6 : decode cX4_passTick 6 = .ok (.iaload, 1) := by decide +kernel
theorem dX4_passTick_7 : decode cX4_passTick 7 = .ok (.iconst 1, 1) := by decide +kernel
theorem dX4_passTick_8 : decode cX4_passTick 8 = .ok (.iadd, 1) := by decide +kernel
theorem dX4_passTick_9 : decode cX4_passTick 9 = .ok (.iastore, 1) := by decide +kernel
theorem dX4_passTick_10 : decode cX4_passTick 10 = .ok (.aload_n 0, 1) := by decide +kernel
theorem dX4_passTick_11 : decode cX4_passTick 11 = .ok (.getfield 15, 3) := by decide +kernel
theorem dX4_passTick_14 : decode cX4_passTick 14 = .ok (.getfield 88, 3) := by decide +kernel
theorem dX4_passTick_17 : decode cX4_passTick 17 = .ok (.ifCond .eq 34, 3) := by decide +kernel
theorem dX4_passTick_20 : decode cX4_passTick 20 = .ok (.aload_n 0, 1) := by decide +kernel
theorem dX4_passTick_21 : decode cX4_passTick 21 = .ok (.getfield 15, 3) := by decide +kernel
theorem dX4_passTick_24 : decode cX4_passTick 24 = .ok (.getfield 169, 3) := by decide +kernel
theorem dX4_passTick_27 : decode cX4_passTick 27 = .ok (.ifCond .le 24, 3) := by decide +kernel
theorem dX4_passTick_30 : decode cX4_passTick 30 = .ok (.aload_n 0, 1) := by decide +kernel
theorem dX4_passTick_31 : decode cX4_passTick 31 = .ok (.getfield 11, 3) := by decide +kernel
theorem dX4_passTick_34 : decode cX4_passTick 34 = .ok (.iconst 0, 1) := by decide +kernel
theorem dX4_passTick_35 : decode cX4_passTick 35 = .ok (.iaload, 1) := by decide +kernel
theorem dX4_passTick_36 : decode cX4_passTick 36 = .ok (.aload_n 0, 1) := by decide +kernel
theorem dX4_passTick_37 : decode cX4_passTick 37 = .ok (.getfield 15, 3) := by decide +kernel
theorem dX4_passTick_40 : decode cX4_passTick 40 = .ok (.getfield 169, 3) := by decide +kernel
theorem dX4_passTick_43 : decode cX4_passTick 43 = .ok (.irem, 1) := by decide +kernel
theorem dX4_passTick_44 : decode cX4_passTick 44 = .ok (.ifCond .ne 7, 3) := by decide +kernel
theorem dX4_passTick_47 : decode cX4_passTick 47 = .ok (.aload_n 0, 1) := by decide +kernel
theorem dX4_passTick_48 : decode cX4_passTick 48 = .ok (.invokevirtual 172, 3) := by decide +kernel
theorem dX4_passTick_51 : decode cX4_passTick 51 = .ok (.iconst 0, 1) := by decide +kernel
theorem dX4_passTick_52 : decode cX4_passTick 52 = .ok (.istore_n 1, 1) := by decide +kernel
theorem dX4_passTick_53 : decode cX4_passTick 53 = .ok (.iload_n 1, 1) := by decide +kernel
theorem dX4_passTick_54 : decode cX4_passTick 54 = .ok (.bipush 12, 2) := by decide +kernel
theorem dX4_passTick_56 : decode cX4_passTick 56 = .ok (.if_icmp .ge 49, 3) := by decide +kernel
theorem dX4_passTick_59 : decode cX4_passTick 59 = .ok (.aload_n 0, 1) := by decide +kernel
theorem dX4_passTick_60 : decode cX4_passTick 60 = .ok (.getfield 11, 3) := by decide +kernel
theorem dX4_passTick_63 : decode cX4_passTick 63 = .ok (.iconst 3, 1) := by decide +kernel
theorem dX4_passTick_64 : decode cX4_passTick 64 = .ok (.iaload, 1) := by decide +kernel
theorem dX4_passTick_65 : decode cX4_passTick 65 = .ok (.ifCond .eq 27, 3) := by decide +kernel
theorem dX4_passTick_68 : decode cX4_passTick 68 = .ok (.aload_n 0, 1) := by decide +kernel
theorem dX4_passTick_69 : decode cX4_passTick 69 = .ok (.getfield 11, 3) := by decide +kernel
theorem dX4_passTick_72 : decode cX4_passTick 72 = .ok (.iconst 0, 1) := by decide +kernel
theorem dX4_passTick_73 : decode cX4_passTick 73 = .ok (.iaload, 1) := by decide +kernel
theorem dX4_passTick_74 : decode cX4_passTick 74 = .ok (.aload_n 0, 1) := by decide +kernel
theorem dX4_passTick_75 : decode cX4_passTick 75 = .ok (.getfield 11, 3) := by decide +kernel
theorem dX4_passTick_78 : decode cX4_passTick 78 = .ok (.bipush 64, 2) := by decide +kernel
theorem dX4_passTick_80 : decode cX4_passTick 80 = .ok (.iaload, 1) := by decide +kernel
theorem dX4_passTick_81 : decode cX4_passTick 81 = .ok (.isub, 1) := by decide +kernel
theorem dX4_passTick_82 : decode cX4_passTick 82 = .ok (.aload_n 0, 1) := by decide +kernel
theorem dX4_passTick_83 : decode cX4_passTick 83 = .ok (.getfield 15, 3) := by decide +kernel
theorem dX4_passTick_86 : decode cX4_passTick 86 = .ok (.getfield 175, 3) := by decide +kernel
theorem dX4_passTick_89 : decode cX4_passTick 89 = .ok (.if_icmp .ge 4, 3) := by decide +kernel
theorem dX4_passTick_92 : decode cX4_passTick 92 = .ok (.return_, 1) := by decide +kernel
theorem dX4_passTick_93 : decode cX4_passTick 93 = .ok (.aload_n 0, 1) := by decide +kernel
theorem dX4_passTick_94 : decode cX4_passTick 94 = .ok (.iconst 0, 1) := by decide +kernel
theorem dX4_passTick_95 : decode cX4_passTick 95 = .ok (.invokevirtual 178, 3) := by decide +kernel
theorem dX4_passTick_98 : decode cX4_passTick 98 = .ok (.pop, 1) := by decide +kernel
theorem dX4_passTick_99 : decode cX4_passTick 99 = .ok (.iinc 1 1, 3) := by decide +kernel
theorem dX4_passTick_102 : decode cX4_passTick 102 = .ok (.goto (-49), 3) := by decide +kernel
theorem dX4_passTick_105 : decode cX4_passTick 105 = .ok (.return_, 1) := by decide +kernel
theorem dX4_hearOfEnded_0 : decode cX4_hearOfEnded 0 = .ok (.iconst 0, 1) := by decide +kernel
theorem dX4_hearOfEnded_1 : decode cX4_hearOfEnded 1 = .ok (.istore_n 1, 1) := by decide +kernel
theorem dX4_hearOfEnded_2 : decode cX4_hearOfEnded 2 = .ok (.iconst 0, 1) := by decide +kernel
theorem dX4_hearOfEnded_3 : decode cX4_hearOfEnded 3 = .ok (.istore_n 2, 1) := by decide +kernel
theorem dX4_hearOfEnded_4 : decode cX4_hearOfEnded 4 = .ok (.iload_n 2, 1) := by decide +kernel
theorem dX4_hearOfEnded_5 : decode cX4_hearOfEnded 5 = .ok (.aload_n 0, 1) := by decide +kernel
theorem dX4_hearOfEnded_6 : decode cX4_hearOfEnded 6 = .ok (.getfield 11, 3) := by decide +kernel
theorem dX4_hearOfEnded_9 : decode cX4_hearOfEnded 9 = .ok (.iconst 2, 1) := by decide +kernel
theorem dX4_hearOfEnded_10 : decode cX4_hearOfEnded 10 = .ok (.iaload, 1) := by decide +kernel
theorem dX4_hearOfEnded_11 : decode cX4_hearOfEnded 11 = .ok (.if_icmp .ge 27, 3) := by decide +kernel
theorem dX4_hearOfEnded_14 : decode cX4_hearOfEnded 14 = .ok (.iload_n 1, 1) := by decide +kernel
theorem dX4_hearOfEnded_15 : decode cX4_hearOfEnded 15 = .ok (.aload_n 0, 1) := by decide +kernel
theorem dX4_hearOfEnded_16 : decode cX4_hearOfEnded 16 = .ok (.iload_n 2, 1) := by decide +kernel
theorem dX4_hearOfEnded_17 : decode cX4_hearOfEnded 17 = .ok (.invokevirtual 166, 3) := by decide +kernel
theorem dX4_hearOfEnded_20 : decode cX4_hearOfEnded 20 = .ok (.ifCond .eq 9, 3) := by decide +kernel
theorem dX4_hearOfEnded_23 : decode cX4_hearOfEnded 23 = .ok (.iconst 1, 1) := by decide +kernel
theorem dX4_hearOfEnded_24 : decode cX4_hearOfEnded 24 = .ok (.iload_n 2, 1) := by decide +kernel
theorem dX4_hearOfEnded_25 : decode cX4_hearOfEnded 25 = .ok (.ishl, 1) := by decide +kernel
theorem dX4_hearOfEnded_26 : decode cX4_hearOfEnded 26 = .ok (.goto 4, 3) := by decide +kernel
theorem dX4_hearOfEnded_29 : decode cX4_hearOfEnded 29 = .ok (.iconst 0, 1) := by decide +kernel
theorem dX4_hearOfEnded_30 : decode cX4_hearOfEnded 30 = .ok (.ior, 1) := by decide +kernel
theorem dX4_hearOfEnded_31 : decode cX4_hearOfEnded 31 = .ok (.istore_n 1, 1) := by decide +kernel
theorem dX4_hearOfEnded_32 : decode cX4_hearOfEnded 32 = .ok (.iinc 2 1, 3) := by decide +kernel
theorem dX4_hearOfEnded_35 : decode cX4_hearOfEnded 35 = .ok (.goto (-31), 3) := by decide +kernel
theorem dX4_hearOfEnded_38 : decode cX4_hearOfEnded 38 = .ok (.iconst 0, 1) := by decide +kernel
theorem dX4_hearOfEnded_39 : decode cX4_hearOfEnded 39 = .ok (.istore_n 2, 1) := by decide +kernel
theorem dX4_hearOfEnded_40 : decode cX4_hearOfEnded 40 = .ok (.iload_n 2, 1) := by decide +kernel
theorem dX4_hearOfEnded_41 : decode cX4_hearOfEnded 41 = .ok (.iconst 4, 1) := by decide +kernel
theorem dX4_hearOfEnded_42 : decode cX4_hearOfEnded 42 = .ok (.if_icmp .ge 54, 3) := by decide +kernel
theorem dX4_hearOfEnded_45 : decode cX4_hearOfEnded 45 = .ok (.aload_n 0, 1) := by decide +kernel
theorem dX4_hearOfEnded_46 : decode cX4_hearOfEnded 46 = .ok (.getfield 15, 3) := by decide +kernel
theorem dX4_hearOfEnded_49 : decode cX4_hearOfEnded 49 = .ok (.iload_n 2, 1) := by decide +kernel
theorem dX4_hearOfEnded_50 : decode cX4_hearOfEnded 50 = .ok (.invokevirtual 92, 3) := by decide +kernel
theorem dX4_hearOfEnded_53 : decode cX4_hearOfEnded 53 = .ok (.ifCond .eq 37, 3) := by decide +kernel
theorem dX4_hearOfEnded_56 : decode cX4_hearOfEnded 56 = .ok (.aload_n 0, 1) := by decide +kernel
theorem dX4_hearOfEnded_57 : decode cX4_hearOfEnded 57 = .ok (.getfield 11, 3) := by decide +kernel
theorem dX4_hearOfEnded_60 : decode cX4_hearOfEnded 60 = .ok (.iconst 4, 1) := by decide +kernel
theorem dX4_hearOfEnded_61 : decode cX4_hearOfEnded 61 = .ok (.iload_n 2, 1) := by decide +kernel
theorem dX4_hearOfEnded_62 : decode cX4_hearOfEnded 62 = .ok (.iconst 3, 1) := by decide +kernel
theorem dX4_hearOfEnded_63 : decode cX4_hearOfEnded 63 = .ok (.imul, 1) := by decide +kernel
theorem dX4_hearOfEnded_64 : decode cX4_hearOfEnded 64 = .ok (.iadd, 1) := by decide +kernel
theorem dX4_hearOfEnded_65 : decode cX4_hearOfEnded 65 = .ok (.iconst 1, 1) := by decide +kernel
theorem dX4_hearOfEnded_66 : decode cX4_hearOfEnded 66 = .ok (.iadd, 1) := by decide +kernel
theorem dX4_hearOfEnded_67 : decode cX4_hearOfEnded 67 = .ok (.dup2, 1) := by decide +kernel
theorem dX4_hearOfEnded_68 : decode cX4_hearOfEnded 68 = .ok (.iaload, 1) := by decide +kernel
theorem dX4_hearOfEnded_69 : decode cX4_hearOfEnded 69 = .ok (.iload_n 1, 1) := by decide +kernel
theorem dX4_hearOfEnded_70 : decode cX4_hearOfEnded 70 = .ok (.ior, 1) := by decide +kernel
theorem dX4_hearOfEnded_71 : decode cX4_hearOfEnded 71 = .ok (.iastore, 1) := by decide +kernel
theorem dX4_hearOfEnded_72 : decode cX4_hearOfEnded 72 = .ok (.aload_n 0, 1) := by decide +kernel
theorem dX4_hearOfEnded_73 : decode cX4_hearOfEnded 73 = .ok (.getfield 11, 3) := by decide +kernel
theorem dX4_hearOfEnded_76 : decode cX4_hearOfEnded 76 = .ok (.iconst 4, 1) := by decide +kernel
theorem dX4_hearOfEnded_77 : decode cX4_hearOfEnded 77 = .ok (.iload_n 2, 1) := by decide +kernel
theorem dX4_hearOfEnded_78 : decode cX4_hearOfEnded 78 = .ok (.iconst 3, 1) := by decide +kernel
theorem dX4_hearOfEnded_79 : decode cX4_hearOfEnded 79 = .ok (.imul, 1) := by decide +kernel
theorem dX4_hearOfEnded_80 : decode cX4_hearOfEnded 80 = .ok (.iadd, 1) := by decide +kernel
theorem dX4_hearOfEnded_81 : decode cX4_hearOfEnded 81 = .ok (.iconst 0, 1) := by decide +kernel
theorem dX4_hearOfEnded_82 : decode cX4_hearOfEnded 82 = .ok (.iadd, 1) := by decide +kernel
theorem dX4_hearOfEnded_83 : decode cX4_hearOfEnded 83 = .ok (.aload_n 0, 1) := by decide +kernel
theorem dX4_hearOfEnded_84 : decode cX4_hearOfEnded 84 = .ok (.getfield 11, 3) := by decide +kernel
theorem dX4_hearOfEnded_87 : decode cX4_hearOfEnded 87 = .ok (.iconst 0, 1) := by decide +kernel
theorem dX4_hearOfEnded_88 : decode cX4_hearOfEnded 88 = .ok (.iaload, 1) := by decide +kernel
theorem dX4_hearOfEnded_89 : decode cX4_hearOfEnded 89 = .ok (.iastore, 1) := by decide +kernel
theorem dX4_hearOfEnded_90 : decode cX4_hearOfEnded 90 = .ok (.iinc 2 1, 3) := by decide +kernel
theorem dX4_hearOfEnded_93 : decode cX4_hearOfEnded 93 = .ok (.goto (-53), 3) := by decide +kernel
theorem dX4_hearOfEnded_96 : decode cX4_hearOfEnded 96 = .ok (.return_, 1) := by decide +kernel
theorem dX4_become_0 : decode cX4_become 0 = .ok (.sipush 142, 3) := by decide +kernel
theorem dX4_become_3 : decode cX4_become 3 = .ok (.aload_n 1, 1) := by decide +kernel
theorem dX4_become_4 : decode cX4_become 4 = .ok (.getfield 11, 3) := by decide +kernel
theorem dX4_become_7 : decode cX4_become 7 = .ok (.iconst 1, 1) := by decide +kernel
theorem dX4_become_8 : decode cX4_become 8 = .ok (.iaload, 1) := by decide +kernel
theorem dX4_become_9 : decode cX4_become 9 = .ok (.bipush 11, 2) := by decide +kernel
theorem dX4_become_11 : decode cX4_become 11 = .ok (.imul, 1) := by decide +kernel
theorem dX4_become_12 : decode cX4_become 12 = .ok (.iadd, 1) := by decide +kernel
theorem dX4_become_13 : decode cX4_become 13 = .ok (.istore_n 2, 1) := by decide +kernel
theorem dX4_become_14 : decode cX4_become 14 = .ok (.iload_n 2, 1) := by decide +kernel
theorem dX4_become_15 : decode cX4_become 15 = .ok (.ifCond .lt 24, 3) := by decide +kernel
theorem dX4_become_18 : decode cX4_become 18 = .ok (.iload_n 2, 1) := by decide +kernel
theorem dX4_become_19 : decode cX4_become 19 = .ok (.sipush 494, 3) := by decide +kernel
theorem dX4_become_22 : decode cX4_become 22 = .ok (.if_icmp .gt 17, 3) := by decide +kernel
theorem dX4_become_25 : decode cX4_become 25 = .ok (.aload_n 1, 1) := by decide +kernel
theorem dX4_become_26 : decode cX4_become 26 = .ok (.getfield 11, 3) := by decide +kernel
theorem dX4_become_29 : decode cX4_become 29 = .ok (.iconst 0, 1) := by decide +kernel
theorem dX4_become_30 : decode cX4_become 30 = .ok (.aload_n 0, 1) := by decide +kernel
theorem dX4_become_31 : decode cX4_become 31 = .ok (.getfield 11, 3) := by decide +kernel
theorem dX4_become_34 : decode cX4_become 34 = .ok (.iconst 0, 1) := by decide +kernel
theorem dX4_become_35 : decode cX4_become 35 = .ok (.iload_n 2, 1) := by decide +kernel
theorem dX4_become_36 : decode cX4_become 36 = .ok (.invokestatic 58, 3) := by decide +kernel
theorem dX4_become_39 : decode cX4_become 39 = .ok (.return_, 1) := by decide +kernel
theorem dX4_mark_0 : decode cX4_mark 0 = .ok (.aload_n 0, 1) := by decide +kernel
theorem dX4_mark_1 : decode cX4_mark 1 = .ok (.iconst 1, 1) := by decide +kernel
theorem dX4_mark_2 : decode cX4_mark 2 = .ok (.iconst 0, 1) := by decide +kernel
theorem dX4_mark_3 : decode cX4_mark 3 = .ok (.bipush 26, 2) := by decide +kernel
theorem dX4_mark_5 : decode cX4_mark 5 = .ok (.aload_n 0, 1) := by decide +kernel
theorem dX4_mark_6 : decode cX4_mark 6 = .ok (.getfield 11, 3) := by decide +kernel
theorem dX4_mark_9 : decode cX4_mark 9 = .ok (.iconst 2, 1) := by decide +kernel
theorem dX4_mark_10 : decode cX4_mark 10 = .ok (.iaload, 1) := by decide +kernel
theorem dX4_mark_11 : decode cX4_mark 11 = .ok (.iconst 2, 1) := by decide +kernel
theorem dX4_mark_12 : decode cX4_mark 12 = .ok (.imul, 1) := by decide +kernel
theorem dX4_mark_13 : decode cX4_mark 13 = .ok (.iadd, 1) := by decide +kernel
theorem dX4_mark_14 : decode cX4_mark 14 = .ok (.invokevirtual 181, 3) := by decide +kernel
theorem dX4_mark_17 : decode cX4_mark 17 = .ok (.istore_n 1, 1) := by decide +kernel
theorem dX4_mark_18 : decode cX4_mark 18 = .ok (.aload_n 0, 1) := by decide +kernel
theorem dX4_mark_19 : decode cX4_mark 19 = .ok (.iload_n 1, 1) := by decide +kernel
theorem dX4_mark_20 : decode cX4_mark 20 = .ok (.bipush 58, 2) := by decide +kernel
theorem dX4_mark_22 : decode cX4_mark 22 = .ok (.bipush 58, 2) := by decide +kernel
theorem dX4_mark_24 : decode cX4_mark 24 = .ok (.aload_n 0, 1) := by decide +kernel
theorem dX4_mark_25 : decode cX4_mark 25 = .ok (.getfield 11, 3) := by decide +kernel
theorem dX4_mark_28 : decode cX4_mark 28 = .ok (.iconst 3, 1) := by decide +kernel
theorem dX4_mark_29 : decode cX4_mark 29 = .ok (.iaload, 1) := by decide +kernel
theorem dX4_mark_30 : decode cX4_mark 30 = .ok (.bipush 7, 2) := by decide +kernel
theorem dX4_mark_32 : decode cX4_mark 32 = .ok (.imul, 1) := by decide +kernel
theorem dX4_mark_33 : decode cX4_mark 33 = .ok (.iadd, 1) := by decide +kernel
theorem dX4_mark_34 : decode cX4_mark 34 = .ok (.invokevirtual 181, 3) := by decide +kernel
theorem dX4_mark_37 : decode cX4_mark 37 = .ok (.istore_n 1, 1) := by decide +kernel
theorem dX4_mark_38 : decode cX4_mark 38 = .ok (.iconst 0, 1) := by decide +kernel
theorem dX4_mark_39 : decode cX4_mark 39 = .ok (.istore_n 2, 1) := by decide +kernel
theorem dX4_mark_40 : decode cX4_mark 40 = .ok (.iload_n 2, 1) := by decide +kernel
theorem dX4_mark_41 : decode cX4_mark 41 = .ok (.aload_n 0, 1) := by decide +kernel
theorem dX4_mark_42 : decode cX4_mark 42 = .ok (.getfield 11, 3) := by decide +kernel
theorem dX4_mark_45 : decode cX4_mark 45 = .ok (.iconst 1, 1) := by decide +kernel
theorem dX4_mark_46 : decode cX4_mark 46 = .ok (.iaload, 1) := by decide +kernel
theorem dX4_mark_47 : decode cX4_mark 47 = .ok (.if_icmp .ge 51, 3) := by decide +kernel
theorem dX4_mark_50 : decode cX4_mark 50 = .ok (.iload_n 2, 1) := by decide +kernel
theorem dX4_mark_51 : decode cX4_mark 51 = .ok (.bipush 32, 2) := by decide +kernel
theorem dX4_mark_53 : decode cX4_mark 53 = .ok (.if_icmp .ge 45, 3) := by decide +kernel
theorem dX4_mark_56 : decode cX4_mark 56 = .ok (.sipush 142, 3) := by decide +kernel
theorem dX4_mark_59 : decode cX4_mark 59 = .ok (.iload_n 2, 1) := by decide +kernel
theorem dX4_mark_60 : decode cX4_mark 60 = .ok (.bipush 11, 2) := by decide +kernel
theorem dX4_mark_62 : decode cX4_mark 62 = .ok (.imul, 1) := by decide +kernel
theorem dX4_mark_63 : decode cX4_mark 63 = .ok (.iadd, 1) := by decide +kernel
theorem dX4_mark_64 : decode cX4_mark 64 = .ok (.istore_n 3, 1) := by decide +kernel
theorem dX4_mark_65 : decode cX4_mark 65 = .ok (.iload_n 1, 1) := by decide +kernel
theorem dX4_mark_66 : decode cX4_mark 66 = .ok (.bipush 31, 2) := by decide +kernel
theorem dX4_mark_68 : decode cX4_mark 68 = .ok (.imul, 1) := by decide +kernel
theorem dX4_mark_69 : decode cX4_mark 69 = .ok (.aload_n 0, 1) := by decide +kernel
theorem dX4_mark_70 : decode cX4_mark 70 = .ok (.getfield 11, 3) := by decide +kernel
theorem dX4_mark_73 : decode cX4_mark 73 = .ok (.iload_n 3, 1) := by decide +kernel
theorem dX4_mark_74 : decode cX4_mark 74 = .ok (.bipush 10, 2) := by decide +kernel
theorem dX4_mark_76 : decode cX4_mark 76 = .ok (.iadd, 1) := by decide +kernel
theorem dX4_mark_77 : decode cX4_mark 77 = .ok (.iaload, 1) := by decide +kernel
theorem dX4_mark_78 : decode cX4_mark 78 = .ok (.iconst 1, 1) := by decide +kernel
theorem dX4_mark_79 : decode cX4_mark 79 = .ok (.ishl, 1) := by decide +kernel
theorem dX4_mark_80 : decode cX4_mark 80 = .ok (.aload_n 0, 1) := by decide +kernel
theorem dX4_mark_81 : decode cX4_mark 81 = .ok (.getfield 11, 3) := by decide +kernel
theorem dX4_mark_84 : decode cX4_mark 84 = .ok (.iload_n 3, 1) := by decide +kernel
theorem dX4_mark_85 : decode cX4_mark 85 = .ok (.bipush 9, 2) := by decide +kernel
theorem dX4_mark_87 : decode cX4_mark 87 = .ok (.iadd, 1) := by decide +kernel
theorem dX4_mark_88 : decode cX4_mark 88 = .ok (.iaload, 1) := by decide +kernel
theorem dX4_mark_89 : decode cX4_mark 89 = .ok (.ior, 1) := by decide +kernel
theorem dX4_mark_90 : decode cX4_mark 90 = .ok (.iadd, 1) := by decide +kernel
theorem dX4_mark_91 : decode cX4_mark 91 = .ok (.istore_n 1, 1) := by decide +kernel
theorem dX4_mark_92 : decode cX4_mark 92 = .ok (.iinc 2 1, 3) := by decide +kernel
theorem dX4_mark_95 : decode cX4_mark 95 = .ok (.goto (-55), 3) := by decide +kernel
theorem dX4_mark_98 : decode cX4_mark 98 = .ok (.iload_n 1, 1) := by decide +kernel
theorem dX4_mark_99 : decode cX4_mark 99 = .ok (.iload_n 1, 1) := by decide +kernel
theorem dX4_mark_100 : decode cX4_mark 100 = .ok (.bipush 15, 2) := by decide +kernel
theorem dX4_mark_102 : decode cX4_mark 102 = .ok (.iushr, 1) := by decide +kernel
theorem dX4_mark_103 : decode cX4_mark 103 = .ok (.ixor, 1) := by decide +kernel
theorem dX4_mark_104 : decode cX4_mark 104 = .ok (.ireturn, 1) := by decide +kernel
theorem dX4_mixed_0 : decode cX4_mixed 0 = .ok (.iload_n 1, 1) := by decide +kernel
theorem dX4_mixed_1 : decode cX4_mixed 1 = .ok (.istore 4, 2) := by decide +kernel
theorem dX4_mixed_3 : decode cX4_mixed 3 = .ok (.iload_n 2, 1) := by decide +kernel
theorem dX4_mixed_4 : decode cX4_mixed 4 = .ok (.istore 5, 2) := by decide +kernel
theorem dX4_mixed_6 : decode cX4_mixed 6 = .ok (.iload 5, 2) := by decide +kernel
theorem dX4_mixed_8 : decode cX4_mixed 8 = .ok (.iload_n 3, 1) := by decide +kernel
theorem dX4_mixed_9 : decode cX4_mixed 9 = .ok (.if_icmp .ge 32, 3) := by decide +kernel
theorem dX4_mixed_12 : decode cX4_mixed 12 = .ok (.iload 5, 2) := by decide +kernel
theorem dX4_mixed_14 : decode cX4_mixed 14 = .ok (.sipush 494, 3) := by decide +kernel
theorem dX4_mixed_17 : decode cX4_mixed 17 = .ok (.if_icmp .ge 24, 3) := by decide +kernel
theorem dX4_mixed_20 : decode cX4_mixed 20 = .ok (.iload 4, 2) := by decide +kernel
theorem dX4_mixed_22 : decode cX4_mixed 22 = .ok (.bipush 31, 2) := by decide +kernel
theorem dX4_mixed_24 : decode cX4_mixed 24 = .ok (.imul, 1) := by decide +kernel
theorem dX4_mixed_25 : decode cX4_mixed 25 = .ok (.aload_n 0, 1) := by decide +kernel
theorem dX4_mixed_26 : decode cX4_mixed 26 = .ok (.getfield 11, 3) := by decide +kernel
theorem dX4_mixed_29 : decode cX4_mixed 29 = .ok (.iload 5, 2) := by decide +kernel
theorem dX4_mixed_31 : decode cX4_mixed 31 = .ok (.iaload, 1) := by decide +kernel
theorem dX4_mixed_32 : decode cX4_mixed 32 = .ok (.iadd, 1) := by decide +kernel
theorem dX4_mixed_33 : decode cX4_mixed 33 = .ok (.istore 4, 2) := by decide +kernel
theorem dX4_mixed_35 : decode cX4_mixed 35 = .ok (.iinc 5 1, 3) := by decide +kernel
theorem dX4_mixed_38 : decode cX4_mixed 38 = .ok (.goto (-32), 3) := by decide +kernel
theorem dX4_mixed_41 : decode cX4_mixed 41 = .ok (.iload 4, 2) := by decide +kernel
theorem dX4_mixed_43 : decode cX4_mixed 43 = .ok (.ireturn, 1) := by decide +kernel
theorem dX4_isLike_0 : decode cX4_isLike 0 = .ok (.aload_n 0, 1) := by decide +kernel
theorem dX4_isLike_1 : decode cX4_isLike 1 = .ok (.aload_n 1, 1) := by decide +kernel
theorem dX4_isLike_2 : decode cX4_isLike 2 = .ok (.iconst 0, 1) := by decide +kernel
theorem dX4_isLike_3 : decode cX4_isLike 3 = .ok (.bipush 26, 2) := by decide +kernel
theorem dX4_isLike_5 : decode cX4_isLike 5 = .ok (.aload_n 0, 1) := by decide +kernel
theorem dX4_isLike_6 : decode cX4_isLike 6 = .ok (.getfield 11, 3) := by decide +kernel
theorem dX4_isLike_9 : decode cX4_isLike 9 = .ok (.iconst 2, 1) := by decide +kernel
theorem dX4_isLike_10 : decode cX4_isLike 10 = .ok (.iaload, 1) := by decide +kernel
theorem dX4_isLike_11 : decode cX4_isLike 11 = .ok (.iconst 2, 1) := by decide +kernel
theorem dX4_isLike_12 : decode cX4_isLike 12 = .ok (.imul, 1) := by decide +kernel
theorem dX4_isLike_13 : decode cX4_isLike 13 = .ok (.iadd, 1) := by decide +kernel
theorem dX4_isLike_14 : decode cX4_isLike 14 = .ok (.invokevirtual 184, 3) := by decide +kernel
theorem dX4_isLike_17 : decode cX4_isLike 17 = .ok (.ifCond .eq 53, 3) := by decide +kernel
theorem dX4_isLike_20 : decode cX4_isLike 20 = .ok (.aload_n 0, 1) := by decide +kernel
theorem dX4_isLike_21 : decode cX4_isLike 21 = .ok (.aload_n 1, 1) := by decide +kernel
theorem dX4_isLike_22 : decode cX4_isLike 22 = .ok (.bipush 58, 2) := by decide +kernel
theorem dX4_isLike_24 : decode cX4_isLike 24 = .ok (.bipush 58, 2) := by decide +kernel
theorem dX4_isLike_26 : decode cX4_isLike 26 = .ok (.aload_n 0, 1) := by decide +kernel
theorem dX4_isLike_27 : decode cX4_isLike 27 = .ok (.getfield 11, 3) := by decide +kernel
theorem dX4_isLike_30 : decode cX4_isLike 30 = .ok (.iconst 3, 1) := by decide +kernel
theorem dX4_isLike_31 : decode cX4_isLike 31 = .ok (.iaload, 1) := by decide +kernel
theorem dX4_isLike_32 : decode cX4_isLike 32 = .ok (.bipush 7, 2) := by decide +kernel
theorem dX4_isLike_34 : decode cX4_isLike 34 = .ok (.imul, 1) := by decide +kernel
theorem dX4_isLike_35 : decode cX4_isLike 35 = .ok (.iadd, 1) := by decide +kernel
theorem dX4_isLike_36 : decode cX4_isLike 36 = .ok (.invokevirtual 184, 3) := by decide +kernel
theorem dX4_isLike_39 : decode cX4_isLike 39 = .ok (.ifCond .eq 31, 3) := by decide +kernel
theorem dX4_isLike_42 : decode cX4_isLike 42 = .ok (.aload_n 0, 1) := by decide +kernel
theorem dX4_isLike_43 : decode cX4_isLike 43 = .ok (.aload_n 1, 1) := by decide +kernel
theorem dX4_isLike_44 : decode cX4_isLike 44 = .ok (.sipush 142, 3) := by decide +kernel
theorem dX4_isLike_47 : decode cX4_isLike 47 = .ok (.sipush 142, 3) := by decide +kernel
theorem dX4_isLike_50 : decode cX4_isLike 50 = .ok (.aload_n 0, 1) := by decide +kernel
theorem dX4_isLike_51 : decode cX4_isLike 51 = .ok (.getfield 11, 3) := by decide +kernel
theorem dX4_isLike_54 : decode cX4_isLike 54 = .ok (.iconst 1, 1) := by decide +kernel
theorem dX4_isLike_55 : decode cX4_isLike 55 = .ok (.iaload, 1) := by decide +kernel
theorem dX4_isLike_56 : decode cX4_isLike 56 = .ok (.bipush 11, 2) := by decide +kernel
theorem dX4_isLike_58 : decode cX4_isLike 58 = .ok (.imul, 1) := by decide +kernel
theorem dX4_isLike_59 : decode cX4_isLike 59 = .ok (.iadd, 1) := by decide +kernel
theorem dX4_isLike_60 : decode cX4_isLike 60 = .ok (.invokevirtual 184, 3) := by decide +kernel
theorem dX4_isLike_63 : decode cX4_isLike 63 = .ok (.ifCond .eq 7, 3) := by decide +kernel
theorem dX4_isLike_66 : decode cX4_isLike 66 = .ok (.iconst 1, 1) := by decide +kernel
theorem dX4_isLike_67 : decode cX4_isLike 67 = .ok (.goto 4, 3) := by decide +kernel
theorem dX4_isLike_70 : decode cX4_isLike 70 = .ok (.iconst 0, 1) := by decide +kernel
theorem dX4_isLike_71 : decode cX4_isLike 71 = .ok (.ireturn, 1) := by decide +kernel
theorem dX4_sameWords_0 : decode cX4_sameWords 0 = .ok (.iload_n 2, 1) := by decide +kernel
theorem dX4_sameWords_1 : decode cX4_sameWords 1 = .ok (.istore 4, 2) := by decide +kernel
theorem dX4_sameWords_3 : decode cX4_sameWords 3 = .ok (.iload 4, 2) := by decide +kernel
theorem dX4_sameWords_5 : decode cX4_sameWords 5 = .ok (.iload_n 3, 1) := by decide +kernel
theorem dX4_sameWords_6 : decode cX4_sameWords 6 = .ok (.if_icmp .ge 36, 3) := by decide +kernel
theorem dX4_sameWords_9 : decode cX4_sameWords 9 = .ok (.iload 4, 2) := by decide +kernel
theorem dX4_sameWords_11 : decode cX4_sameWords 11 = .ok (.sipush 494, 3) := by decide +kernel
theorem dX4_sameWords_14 : decode cX4_sameWords 14 = .ok (.if_icmp .ge 28, 3) := by decide +kernel
theorem dX4_sameWords_17 : decode cX4_sameWords 17 = .ok (.aload_n 0, 1) := by decide +kernel
theorem dX4_sameWords_18 : decode cX4_sameWords 18 = .ok (.getfield 11, 3) := by decide +kernel
theorem dX4_sameWords_21 : decode cX4_sameWords 21 = .ok (.iload 4, 2) := by decide +kernel
theorem dX4_sameWords_23 : decode cX4_sameWords 23 = .ok (.iaload, 1) := by decide +kernel
theorem dX4_sameWords_24 : decode cX4_sameWords 24 = .ok (.aload_n 1, 1) := by decide +kernel
theorem dX4_sameWords_25 : decode cX4_sameWords 25 = .ok (.getfield 11, 3) := by decide +kernel
theorem dX4_sameWords_28 : decode cX4_sameWords 28 = .ok (.iload 4, 2) := by decide +kernel
theorem dX4_sameWords_30 : decode cX4_sameWords 30 = .ok (.iaload, 1) := by decide +kernel
theorem dX4_sameWords_31 : decode cX4_sameWords 31 = .ok (.if_icmp .eq 5, 3) := by decide +kernel
theorem dX4_sameWords_34 : decode cX4_sameWords 34 = .ok (.iconst 0, 1) := by decide +kernel
theorem dX4_sameWords_35 : decode cX4_sameWords 35 = .ok (.ireturn, 1) := by decide +kernel
theorem dX4_sameWords_36 : decode cX4_sameWords 36 = .ok (.iinc 4 1, 3) := by decide +kernel
theorem dX4_sameWords_39 : decode cX4_sameWords 39 = .ok (.goto (-36), 3) := by decide +kernel
theorem dX4_sameWords_42 : decode cX4_sameWords 42 = .ok (.iconst 1, 1) := by decide +kernel
theorem dX4_sameWords_43 : decode cX4_sameWords 43 = .ok (.ireturn, 1) := by decide +kernel
