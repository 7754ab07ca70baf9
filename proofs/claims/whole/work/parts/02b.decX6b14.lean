theorem dX6_turn_11 : decode cX6_turn 11 = .ok (.ifCond .eq 11, 3) := by decide +kernel
theorem dX6_turn_14 : decode cX6_turn 14 = .ok (.aload_n 0, 1) := by decide +kernel
theorem dX6_turn_15 : decode cX6_turn 15 = .ok (.iload_n 2, 1) := by decide +kernel
theorem dX6_turn_16 : decode cX6_turn 16 = .ok (.invokevirtual 162, 3) := by decide +kernel
theorem dX6_turn_19 : decode cX6_turn 19 = .ok (.ifCond .ne 6, 3) := by decide +kernel
theorem dX6_turn_22 : decode cX6_turn 22 = .ok (.bipush (-2), 2) := by decide +kernel
theorem dX6_turn_24 : decode cX6_turn 24 = .ok (.ireturn, 1) := by decide +kernel
theorem dX6_turn_25 : decode cX6_turn 25 = .ok (.aload_n 0, 1) := by decide +kernel
theorem dX6_turn_26 : decode cX6_turn 26 = .ok (.getfield 9, 3) := by decide +kernel
theorem dX6_turn_29 : decode cX6_turn 29 = .ok (.iload_n 1, 1) := by decide +kernel
theorem dX6_turn_30 : decode cX6_turn 30 = .ok (.iload_n 2, 1) := by decide +kernel
theorem dX6_turn_31 : decode cX6_turn 31 = .ok (.invokestatic 165, 3) := by decide +kernel
theorem dX6_turn_34 : decode cX6_turn 34 = .ok (.ifCond .eq 18, 3) := by decide +kernel
theorem dX6_turn_37 : decode cX6_turn 37 = .ok (.aload_n 0, 1) := by decide +kernel
theorem dX6_turn_38 : decode cX6_turn 38 = .ok (.getfield 9, 3) := by decide +kernel
theorem dX6_turn_41 : decode cX6_turn 41 = .ok (.iload_n 2, 1) := by decide +kernel
theorem dX6_turn_42 : decode cX6_turn 42 = .ok (.invokestatic 71, 3) := by decide +kernel
theorem dX6_turn_45 : decode cX6_turn 45 = .ok (.iconst 0, 1) := by decide +kernel
theorem dX6_turn_46 : decode cX6_turn 46 = .ok (.iadd, 1) := by decide +kernel
theorem dX6_turn_47 : decode cX6_turn 47 = .ok (.iaload, 1) := by decide +kernel
theorem dX6_turn_48 : decode cX6_turn 48 = .ok (.iconst 1, 1) := by decide +kernel
theorem dX6_turn_49 : decode cX6_turn 49 = .ok (.if_icmp .eq 6, 3) := by decide +kernel
theorem dX6_turn_52 : decode cX6_turn 52 = .ok (.bipush (-3), 2) := by decide +kernel
theorem dX6_turn_54 : decode cX6_turn 54 = .ok (.ireturn, 1) := by decide +kernel
theorem dX6_turn_55 : decode cX6_turn 55 = .ok (.aload_n 0, 1) := by decide +kernel
theorem dX6_turn_56 : decode cX6_turn 56 = .ok (.iload_n 1, 1) := by decide +kernel
theorem dX6_turn_57 : decode cX6_turn 57 = .ok (.invokevirtual 159, 3) := by decide +kernel
theorem dX6_turn_60 : decode cX6_turn 60 = .ok (.istore_n 3, 1) := by decide +kernel
theorem dX6_turn_61 : decode cX6_turn 61 = .ok (.aload_n 0, 1) := by decide +kernel
theorem dX6_turn_62 : decode cX6_turn 62 = .ok (.aload_n 0, 1) := by decide +kernel
theorem dX6_turn_63 : decode cX6_turn 63 = .ok (.getfield 9, 3) := by decide +kernel
theorem dX6_turn_66 : decode cX6_turn 66 = .ok (.iload_n 1, 1) := by decide +kernel
theorem dX6_turn_67 : decode cX6_turn 67 = .ok (.bipush 9, 2) := by decide +kernel
theorem dX6_turn_69 : decode cX6_turn 69 = .ok (.iconst 3, 1) := by decide +kernel
theorem dX6_turn_70 : decode cX6_turn 70 = .ok (.iload_n 2, 1) := by decide +kernel
theorem dX6_turn_71 : decode cX6_turn 71 = .ok (.iconst (-1), 1) := by decide +kernel
theorem dX6_turn_72 : decode cX6_turn 72 = .ok (.iload_n 3, 1) := by decide +kernel
theorem dX6_turn_73 : decode cX6_turn 73 = .ok (.invokevirtual 106, 3) := by decide +kernel
theorem dX6_turn_76 : decode cX6_turn 76 = .ok (.iload_n 3, 1) := by decide +kernel
theorem dX6_turn_77 : decode cX6_turn 77 = .ok (.ireturn, 1) := by decide +kernel
theorem dX6_isHolder_0 : decode cX6_isHolder 0 = .ok (.iload_n 1, 1) := by decide +kernel
theorem dX6_isHolder_1 : decode cX6_isHolder 1 = .ok (.iconst 0, 1) := by decide +kernel
theorem dX6_isHolder_2 : decode cX6_isHolder 2 = .ok (.iconst 4, 1) := by decide +kernel
theorem dX6_isHolder_3 : decode cX6_isHolder 3 = .ok (.invokestatic 67, 3) := by decide +kernel
theorem dX6_isHolder_6 : decode cX6_isHolder 6 = .ok (.ifCond .ne 18, 3) := by decide +kernel
theorem dX6_isHolder_9 : decode cX6_isHolder 9 = .ok (.aload_n 0, 1) := by decide +kernel
theorem dX6_isHolder_10 : decode cX6_isHolder 10 = .ok (.iload_n 1, 1) := by decide +kernel
theorem dX6_isHolder_11 : decode cX6_isHolder 11 = .ok (.iconst 5, 1) := by decide +kernel
theorem dX6_isHolder_12 : decode cX6_isHolder 12 = .ok (.isub, 1) := by decide +kernel
theorem dX6_isHolder_13 : decode cX6_isHolder 13 = .ok (.invokevirtual 78, 3) := by decide +kernel
theorem dX6_isHolder_16 : decode cX6_isHolder 16 = .ok (.ifCond .eq 12, 3) := by decide +kernel
theorem dX6_isHolder_19 : decode cX6_isHolder 19 = .ok (.iload_n 1, 1) := by decide +kernel
theorem dX6_isHolder_20 : decode cX6_isHolder 20 = .ok (.iconst 5, 1) := by decide +kernel
theorem dX6_isHolder_21 : decode cX6_isHolder 21 = .ok (.if_icmp .lt 7, 3) := by decide +kernel
theorem dX6_isHolder_24 : decode cX6_isHolder 24 = .ok (.iconst 1, 1) := by decide +kernel
theorem dX6_isHolder_25 : decode cX6_isHolder 25 = .ok (.goto 4, 3) := by decide +kernel
theorem dX6_isHolder_28 : decode cX6_isHolder 28 = .ok (.iconst 0, 1) := by decide +kernel
theorem dX6_isHolder_29 : decode cX6_isHolder 29 = .ok (.ireturn, 1) := by decide +kernel
theorem dX6_show_0 : decode cX6_show 0 = .ok (.aload_n 0, 1) := by decide +kernel
theorem dX6_show_1 : decode cX6_show 1 = .ok (.iconst 0, 1) := by decide +kernel
theorem dX6_show_2 : decode cX6_show 2 = .ok (.putfield 64, 3) := by decide +kernel
theorem dX6_show_5 : decode cX6_show 5 = .ok (.aload_n 0, 1) := by decide +kernel
theorem dX6_show_6 : decode cX6_show 6 = .ok (.iload_n 1, 1) := by decide +kernel
theorem dX6_show_7 : decode cX6_show 7 = .ok (.invokevirtual 169, 3) := by decide +kernel
theorem dX6_show_10 : decode cX6_show 10 = .ok (.ifCond .eq 42, 3) := by decide +kernel
theorem dX6_show_13 : decode cX6_show 13 = .ok (.aload_n 0, 1) := by decide +kernel
theorem dX6_show_14 : decode cX6_show 14 = .ok (.iload_n 2, 1) := by decide +kernel
theorem dX6_show_15 : decode cX6_show 15 = .ok (.invokevirtual 78, 3) := by decide +kernel
theorem dX6_show_18 : decode cX6_show 18 = .ok (.ifCond .eq 34, 3) := by decide +kernel
theorem dX6_show_21 : decode cX6_show 21 = .ok (.aload_n 0, 1) := by decide +kernel
theorem dX6_show_22 : decode cX6_show 22 = .ok (.iload_n 3, 1) := by decide +kernel
theorem dX6_show_23 : decode cX6_show 23 = .ok (.invokevirtual 162, 3) := by decide +kernel
theorem dX6_show_26 : decode cX6_show 26 = .ok (.ifCond .eq 26, 3) := by decide +kernel
theorem dX6_show_29 : decode cX6_show 29 = .ok (.iload 4, 2) := by decide +kernel
theorem dX6_show_31 : decode cX6_show 31 = .ok (.iconst 0, 1) := by decide +kernel
theorem dX6_show_32 : decode cX6_show 32 = .ok (.bipush 7, 2) := by decide +kernel
theorem dX6_show_34 : decode cX6_show 34 = .ok (.invokestatic 67, 3) := by decide +kernel
theorem dX6_show_37 : decode cX6_show 37 = .ok (.ifCond .eq 15, 3) := by decide +kernel
theorem dX6_show_40 : decode cX6_show 40 = .ok (.aload_n 0, 1) := by decide +kernel
theorem dX6_show_41 : decode cX6_show 41 = .ok (.getfield 9, 3) := by decide +kernel
theorem dX6_show_44 : decode cX6_show 44 = .ok (.iload_n 1, 1) := by decide +kernel
theorem dX6_show_45 : decode cX6_show 45 = .ok (.iload_n 3, 1) := by decide +kernel
theorem dX6_show_46 : decode cX6_show 46 = .ok (.invokestatic 165, 3) := by decide +kernel
theorem dX6_show_49 : decode cX6_show 49 = .ok (.ifCond .ne 5, 3) := by decide +kernel
theorem dX6_show_52 : decode cX6_show 52 = .ok (.iconst 0, 1) := by decide +kernel
theorem dX6_show_53 : decode cX6_show 53 = .ok (.ireturn, 1) := by decide +kernel
theorem dX6_show_54 : decode cX6_show 54 = .ok (.aload_n 0, 1) := by decide +kernel
theorem dX6_show_55 : decode cX6_show 55 = .ok (.aload_n 0, 1) := by decide +kernel
theorem dX6_show_56 : decode cX6_show 56 = .ok (.getfield 9, 3) := by decide +kernel
theorem dX6_show_59 : decode cX6_show 59 = .ok (.iload_n 1, 1) := by decide +kernel
theorem dX6_show_60 : decode cX6_show 60 = .ok (.iconst 5, 1) := by decide +kernel
theorem dX6_show_61 : decode cX6_show 61 = .ok (.iload_n 2, 1) := by decide +kernel
theorem dX6_show_62 : decode cX6_show 62 = .ok (.iadd, 1) := by decide +kernel
theorem dX6_show_63 : decode cX6_show 63 = .ok (.iconst 2, 1) := by decide +kernel
theorem dX6_show_64 : decode cX6_show 64 = .ok (.iload_n 3, 1) := by decide +kernel
theorem dX6_show_65 : decode cX6_show 65 = .ok (.iload 4, 2) := by decide +kernel
theorem dX6_show_67 : decode cX6_show 67 = .ok (.iconst 0, 1) := by decide +kernel
theorem dX6_show_68 : decode cX6_show 68 = .ok (.invokevirtual 106, 3) := by decide +kernel
theorem dX6_show_71 : decode cX6_show 71 = .ok (.iconst 1, 1) := by decide +kernel
theorem dX6_show_72 : decode cX6_show 72 = .ok (.ireturn, 1) := by decide +kernel
theorem dX6_hand_0 : decode cX6_hand 0 = .ok (.aload_n 0, 1) := by decide +kernel
theorem dX6_hand_1 : decode cX6_hand 1 = .ok (.iconst 0, 1) := by decide +kernel
theorem dX6_hand_2 : decode cX6_hand 2 = .ok (.putfield 64, 3) := by decide +kernel
theorem dX6_hand_5 : decode cX6_hand 5 = .ok (.aload_n 0, 1) := by decide +kernel
theorem dX6_hand_6 : decode cX6_hand 6 = .ok (.iload_n 1, 1) := by decide +kernel
theorem dX6_hand_7 : decode cX6_hand 7 = .ok (.invokevirtual 78, 3) := by decide +kernel
theorem dX6_hand_10 : decode cX6_hand 10 = .ok (.ifCond .eq 50, 3) := by decide +kernel
theorem dX6_hand_13 : decode cX6_hand 13 = .ok (.aload_n 0, 1) := by decide +kernel
theorem dX6_hand_14 : decode cX6_hand 14 = .ok (.iload_n 3, 1) := by decide +kernel
theorem dX6_hand_15 : decode cX6_hand 15 = .ok (.invokevirtual 78, 3) := by decide +kernel
theorem dX6_hand_18 : decode cX6_hand 18 = .ok (.ifCond .eq 42, 3) := by decide +kernel
theorem dX6_hand_21 : decode cX6_hand 21 = .ok (.iload_n 1, 1) := by decide +kernel
theorem dX6_hand_22 : decode cX6_hand 22 = .ok (.iload_n 3, 1) := by decide +kernel
theorem dX6_hand_23 : decode cX6_hand 23 = .ok (.if_icmp .eq 37, 3) := by decide +kernel
theorem dX6_hand_26 : decode cX6_hand 26 = .ok (.aload_n 0, 1) := by decide +kernel
theorem dX6_hand_27 : decode cX6_hand 27 = .ok (.iload_n 2, 1) := by decide +kernel
theorem dX6_hand_28 : decode cX6_hand 28 = .ok (.invokevirtual 162, 3) := by decide +kernel
theorem dX6_hand_31 : decode cX6_hand 31 = .ok (.ifCond .eq 29, 3) := by decide +kernel
theorem dX6_hand_34 : decode cX6_hand 34 = .ok (.aload_n 0, 1) := by decide +kernel
theorem dX6_hand_35 : decode cX6_hand 35 = .ok (.getfield 9, 3) := by decide +kernel
theorem dX6_hand_38 : decode cX6_hand 38 = .ok (.iconst 5, 1) := by decide +kernel
theorem dX6_hand_39 : decode cX6_hand 39 = .ok (.iload_n 1, 1) := by decide +kernel
theorem dX6_hand_40 : decode cX6_hand 40 = .ok (.iadd, 1) := by decide +kernel
theorem dX6_hand_41 : decode cX6_hand 41 = .ok (.iload_n 2, 1) := by decide +kernel
theorem dX6_hand_42 : decode cX6_hand 42 = .ok (.invokestatic 165, 3) := by decide +kernel
theorem dX6_hand_45 : decode cX6_hand 45 = .ok (.ifCond .eq 15, 3) := by decide +kernel
theorem dX6_hand_48 : decode cX6_hand 48 = .ok (.iload 4, 2) := by decide +kernel
theorem dX6_hand_50 : decode cX6_hand 50 = .ok (.iconst 1, 1) := by decide +kernel
theorem dX6_hand_51 : decode cX6_hand 51 = .ok (.sipush 255, 3) := by decide +kernel
theorem dX6_hand_54 : decode cX6_hand 54 = .ok (.invokestatic 67, 3) := by decide +kernel
theorem dX6_hand_57 : decode cX6_hand 57 = .ok (.ifCond .ne 5, 3) := by decide +kernel
theorem dX6_hand_60 : decode cX6_hand 60 = .ok (.iconst 0, 1) := by decide +kernel
theorem dX6_hand_61 : decode cX6_hand 61 = .ok (.ireturn, 1) := by decide +kernel
theorem dX6_hand_62 : decode cX6_hand 62 = .ok (.aload_n 0, 1) := by decide +kernel
theorem dX6_hand_63 : decode cX6_hand 63 = .ok (.aload_n 0, 1) := by decide +kernel
theorem dX6_hand_64 : decode cX6_hand 64 = .ok (.getfield 9, 3) := by decide +kernel
theorem dX6_hand_67 : decode cX6_hand 67 = .ok (.iconst 5, 1) := by decide +kernel
theorem dX6_hand_68 : decode cX6_hand 68 = .ok (.iload_n 1, 1) := by decide +kernel
theorem dX6_hand_69 : decode cX6_hand 69 = .ok (.iadd, 1) := by decide +kernel
theorem dX6_hand_70 : decode cX6_hand 70 = .ok (.bipush 9, 2) := by decide +kernel
theorem dX6_hand_72 : decode cX6_hand 72 = .ok (.iconst 4, 1) := by decide +kernel
theorem dX6_hand_73 : decode cX6_hand 73 = .ok (.iload_n 2, 1) := by decide +kernel
theorem dX6_hand_74 : decode cX6_hand 74 = .ok (.iload_n 3, 1) := by decide +kernel
theorem dX6_hand_75 : decode cX6_hand 75 = .ok (.iload 4, 2) := by decide +kernel
theorem dX6_hand_77 : decode cX6_hand 77 = .ok (.invokevirtual 106, 3) := by decide +kernel
theorem dX6_hand_80 : decode cX6_hand 80 = .ok (.iconst 1, 1) := by decide +kernel
theorem dX6_hand_81 : decode cX6_hand 81 = .ok (.ireturn, 1) := by decide +kernel
theorem dX6_fake_0 : decode cX6_fake 0 = .ok (.aload_n 0, 1) := by decide +kernel
theorem dX6_fake_1 : decode cX6_fake 1 = .ok (.iconst 0, 1) := by decide +kernel
theorem dX6_fake_2 : decode cX6_fake 2 = .ok (.putfield 64, 3) := by decide +kernel
theorem dX6_fake_5 : decode cX6_fake 5 = .ok (.iload_n 1, 1) := by decide +kernel
theorem dX6_fake_6 : decode cX6_fake 6 = .ok (.iconst 0, 1) := by decide +kernel
theorem dX6_fake_7 : decode cX6_fake 7 = .ok (.iconst 3, 1) := by decide +kernel
theorem dX6_fake_8 : decode cX6_fake 8 = .ok (.invokestatic 67, 3) := by decide +kernel
theorem dX6_fake_11 : decode cX6_fake 11 = .ok (.ifCond .eq 23, 3) := by decide +kernel
theorem dX6_fake_14 : decode cX6_fake 14 = .ok (.aload_n 0, 1) := by decide +kernel
theorem dX6_fake_15 : decode cX6_fake 15 = .ok (.iload_n 2, 1) := by decide +kernel
theorem dX6_fake_16 : decode cX6_fake 16 = .ok (.invokevirtual 162, 3) := by decide +kernel
theorem dX6_fake_19 : decode cX6_fake 19 = .ok (.ifCond .eq 15, 3) := by decide +kernel
theorem dX6_fake_22 : decode cX6_fake 22 = .ok (.aload_n 0, 1) := by decide +kernel
theorem dX6_fake_23 : decode cX6_fake 23 = .ok (.getfield 9, 3) := by decide +kernel
theorem dX6_fake_26 : decode cX6_fake 26 = .ok (.iconst 4, 1) := by decide +kernel
theorem dX6_fake_27 : decode cX6_fake 27 = .ok (.iload_n 2, 1) := by decide +kernel
theorem dX6_fake_28 : decode cX6_fake 28 = .ok (.invokestatic 165, 3) := by decide +kernel
theorem dX6_fake_31 : decode cX6_fake 31 = .ok (.ifCond .ne 5, 3) := by decide +kernel
theorem dX6_fake_34 : decode cX6_fake 34 = .ok (.iconst 0, 1) := by decide +kernel
theorem dX6_fake_35 : decode cX6_fake 35 = .ok (.ireturn, 1) := by decide +kernel
theorem dX6_fake_36 : decode cX6_fake 36 = .ok (.aload_n 0, 1) := by decide +kernel
theorem dX6_fake_37 : decode cX6_fake 37 = .ok (.aload_n 0, 1) := by decide +kernel
theorem dX6_fake_38 : decode cX6_fake 38 = .ok (.getfield 9, 3) := by decide +kernel
theorem dX6_fake_41 : decode cX6_fake 41 = .ok (.iconst 4, 1) := by decide +kernel
theorem dX6_fake_42 : decode cX6_fake 42 = .ok (.iload_n 1, 1) := by decide +kernel
theorem dX6_fake_43 : decode cX6_fake 43 = .ok (.iconst 1, 1) := by decide +kernel
theorem dX6_fake_44 : decode cX6_fake 44 = .ok (.iload_n 2, 1) := by decide +kernel
theorem dX6_fake_45 : decode cX6_fake 45 = .ok (.iconst (-1), 1) := by decide +kernel
theorem dX6_fake_46 : decode cX6_fake 46 = .ok (.aload_n 0, 1) := by decide +kernel
theorem dX6_fake_47 : decode cX6_fake 47 = .ok (.getfield 9, 3) := by decide +kernel
theorem dX6_fake_50 : decode cX6_fake 50 = .ok (.iload_n 1, 1) := by decide +kernel
theorem dX6_fake_51 : decode cX6_fake 51 = .ok (.invokestatic 82, 3) := by decide +kernel
theorem dX6_fake_54 : decode cX6_fake 54 = .ok (.iconst 2, 1) := by decide +kernel
theorem dX6_fake_55 : decode cX6_fake 55 = .ok (.iadd, 1) := by decide +kernel
theorem dX6_fake_56 : decode cX6_fake 56 = .ok (.iaload, 1) := by decide +kernel
theorem dX6_fake_57 : decode cX6_fake 57 = .ok (.invokevirtual 106, 3) := by decide +kernel
theorem dX6_fake_60 : decode cX6_fake 60 = .ok (.iconst 1, 1) := by decide +kernel
theorem dX6_fake_61 : decode cX6_fake 61 = .ok (.ireturn, 1) := by decide +kernel
theorem dX6_deliver_0 : decode cX6_deliver 0 = .ok (.aload_n 0, 1) := by decide +kernel
theorem dX6_deliver_1 : decode cX6_deliver 1 = .ok (.iconst 0, 1) := by decide +kernel
theorem dX6_deliver_2 : decode cX6_deliver 2 = .ok (.putfield 64, 3) := by decide +kernel
theorem dX6_deliver_5 : decode cX6_deliver 5 = .ok (.iload_n 1, 1) := by decide +kernel
theorem dX6_deliver_6 : decode cX6_deliver 6 = .ok (.iconst 0, 1) := by decide +kernel
theorem dX6_deliver_7 : decode cX6_deliver 7 = .ok (.aload_n 0, 1) := by decide +kernel
theorem dX6_deliver_8 : decode cX6_deliver 8 = .ok (.getfield 9, 3) := by decide +kernel
theorem dX6_deliver_11 : decode cX6_deliver 11 = .ok (.bipush 14, 2) := by decide +kernel
theorem dX6_deliver_13 : decode cX6_deliver 13 = .ok (.iaload, 1) := by decide +kernel
theorem dX6_deliver_14 : decode cX6_deliver 14 = .ok (.iconst 1, 1) := by decide +kernel
theorem dX6_deliver_15 : decode cX6_deliver 15 = .ok (.isub, 1) := by decide +kernel
theorem dX6_deliver_16 : decode cX6_deliver 16 = .ok (.invokestatic 67, 3) := by decide +kernel
theorem dX6_deliver_19 : decode cX6_deliver 19 = .ok (.ifCond .eq 15, 3) := by decide +kernel
theorem dX6_deliver_22 : decode cX6_deliver 22 = .ok (.aload_n 0, 1) := by decide +kernel
theorem dX6_deliver_23 : decode cX6_deliver 23 = .ok (.aload_n 0, 1) := by decide +kernel
theorem dX6_deliver_24 : decode cX6_deliver 24 = .ok (.getfield 9, 3) := by decide +kernel
theorem dX6_deliver_27 : decode cX6_deliver 27 = .ok (.iload_n 1, 1) := by decide +kernel
theorem dX6_deliver_28 : decode cX6_deliver 28 = .ok (.invokevirtual 155, 3) := by decide +kernel
theorem dX6_deliver_31 : decode cX6_deliver 31 = .ok (.goto 4, 3) := by decide +kernel
theorem dX6_deliver_34 : decode cX6_deliver 34 = .ok (.iconst (-1), 1) := by decide +kernel
theorem dX6_deliver_35 : decode cX6_deliver 35 = .ok (.ireturn, 1) := by decide +kernel
theorem dX6_copy_0 : decode cX6_copy 0 = .ok (.aload_n 0, 1) := by decide +kernel
theorem dX6_copy_1 : decode cX6_copy 1 = .ok (.iconst 0, 1) := by decide +kernel
theorem dX6_copy_2 : decode cX6_copy 2 = .ok (.putfield 64, 3) := by decide +kernel
theorem dX6_copy_5 : decode cX6_copy 5 = .ok (.iload_n 1, 1) := by decide +kernel
theorem dX6_copy_6 : decode cX6_copy 6 = .ok (.iconst 0, 1) := by decide +kernel
theorem dX6_copy_7 : decode cX6_copy 7 = .ok (.aload_n 0, 1) := by decide +kernel
theorem dX6_copy_8 : decode cX6_copy 8 = .ok (.getfield 9, 3) := by decide +kernel
theorem dX6_copy_11 : decode cX6_copy 11 = .ok (.bipush 14, 2) := by decide +kernel
theorem dX6_copy_13 : decode cX6_copy 13 = .ok (.iaload, 1) := by decide +kernel
theorem dX6_copy_14 : decode cX6_copy 14 = .ok (.iconst 1, 1) := by decide +kernel
theorem dX6_copy_15 : decode cX6_copy 15 = .ok (.isub, 1) := by decide +kernel
theorem dX6_copy_16 : decode cX6_copy 16 = .ok (.invokestatic 67, 3) := by decide +kernel
theorem dX6_copy_19 : decode cX6_copy 19 = .ok (.ifCond .eq 15, 3) := by decide +kernel
theorem dX6_copy_22 : decode cX6_copy 22 = .ok (.aload_n 0, 1) := by decide +kernel
theorem dX6_copy_23 : decode cX6_copy 23 = .ok (.getfield 9, 3) := by decide +kernel
theorem dX6_copy_26 : decode cX6_copy 26 = .ok (.bipush 14, 2) := by decide +kernel
theorem dX6_copy_28 : decode cX6_copy 28 = .ok (.iaload, 1) := by decide +kernel
theorem dX6_copy_29 : decode cX6_copy 29 = .ok (.bipush 12, 2) := by decide +kernel
theorem dX6_copy_31 : decode cX6_copy 31 = .ok (.if_icmp .ne 5, 3) := by decide +kernel
theorem dX6_copy_34 : decode cX6_copy 34 = .ok (.iconst 0, 1) := by decide +kernel
theorem dX6_copy_35 : decode cX6_copy 35 = .ok (.ireturn, 1) := by decide +kernel
theorem dX6_copy_36 : decode cX6_copy 36 = .ok (.iload_n 1, 1) := by decide +kernel
theorem dX6_copy_37 : decode cX6_copy 37 = .ok (.invokestatic 99, 3) := by decide +kernel
theorem dX6_copy_40 : decode cX6_copy 40 = .ok (.istore_n 2, 1) := by decide +kernel
theorem dX6_copy_41 : decode cX6_copy 41 = .ok (.aload_n 0, 1) := by decide +kernel
theorem dX6_copy_42 : decode cX6_copy 42 = .ok (.aload_n 0, 1) := by decide +kernel
theorem dX6_copy_43 : decode cX6_copy 43 = .ok (.getfield 9, 3) := by decide +kernel
theorem dX6_copy_46 : decode cX6_copy 46 = .ok (.aload_n 0, 1) := by decide +kernel
theorem dX6_copy_47 : decode cX6_copy 47 = .ok (.getfield 9, 3) := by decide +kernel
theorem dX6_copy_50 : decode cX6_copy 50 = .ok (.iload_n 2, 1) := by decide +kernel
theorem dX6_copy_51 : decode cX6_copy 51 = .ok (.iaload, 1) := by decide +kernel
theorem dX6_copy_52 : decode cX6_copy 52 = .ok (.aload_n 0, 1) := by decide +kernel
theorem dX6_copy_53 : decode cX6_copy 53 = .ok (.getfield 9, 3) := by decide +kernel
theorem dX6_copy_56 : decode cX6_copy 56 = .ok (.iload_n 2, 1) := by decide +kernel
theorem dX6_copy_57 : decode cX6_copy 57 = .ok (.iconst 1, 1) := by decide +kernel
theorem dX6_copy_58 : decode cX6_copy 58 = .ok (.iadd, 1) := by decide +kernel
theorem dX6_copy_59 : decode cX6_copy 59 = .ok (.iaload, 1) := by decide +kernel
theorem dX6_copy_60 : decode cX6_copy 60 = .ok (.aload_n 0, 1) := by decide +kernel
theorem dX6_copy_61 : decode cX6_copy 61 = .ok (.getfield 9, 3) := by decide +kernel
theorem dX6_copy_64 : decode cX6_copy 64 = .ok (.iload_n 2, 1) := by decide +kernel
theorem dX6_copy_65 : decode cX6_copy 65 = .ok (.iconst 2, 1) := by decide +kernel
theorem dX6_copy_66 : decode cX6_copy 66 = .ok (.iadd, 1) := by decide +kernel
theorem dX6_copy_67 : decode cX6_copy 67 = .ok (.iaload, 1) := by decide +kernel
theorem dX6_copy_68 : decode cX6_copy 68 = .ok (.aload_n 0, 1) := by decide +kernel
theorem dX6_copy_69 : decode cX6_copy 69 = .ok (.getfield 9, 3) := by decide +kernel
theorem dX6_copy_72 : decode cX6_copy 72 = .ok (.iload_n 2, 1) := by decide +kernel
theorem dX6_copy_73 : decode cX6_copy 73 = .ok (.iconst 3, 1) := by decide +kernel
theorem dX6_copy_74 : decode cX6_copy 74 = .ok (.iadd, 1) := by decide +kernel
theorem dX6_copy_75 : decode cX6_copy 75 = .ok (.iaload, 1) := by decide +kernel
theorem dX6_copy_76 : decode cX6_copy 76 = .ok (.aload_n 0, 1) := by decide +kernel
theorem dX6_copy_77 : decode cX6_copy 77 = .ok (.getfield 9, 3) := by decide +kernel
theorem dX6_copy_80 : decode cX6_copy 80 = .ok (.iload_n 2, 1) := by decide +kernel
theorem dX6_copy_81 : decode cX6_copy 81 = .ok (.iconst 4, 1) := by decide +kernel
theorem dX6_copy_82 : decode cX6_copy 82 = .ok (.iadd, 1) := by decide +kernel
theorem dX6_copy_83 : decode cX6_copy 83 = .ok (.iaload, 1) := by decide +kernel
theorem dX6_copy_84 : decode cX6_copy 84 = .ok (.aload_n 0, 1) := by decide +kernel
theorem dX6_copy_85 : decode cX6_copy 85 = .ok (.getfield 9, 3) := by decide +kernel
theorem dX6_copy_88 : decode cX6_copy 88 = .ok (.iload_n 2, 1) := by decide +kernel
theorem dX6_copy_89 : decode cX6_copy 89 = .ok (.iconst 5, 1) := by decide +kernel
theorem dX6_copy_90 : decode cX6_copy 90 = .ok (.iadd, 1) := by decide +kernel
theorem dX6_copy_91 : decode cX6_copy 91 = .ok (.iaload, 1) := by decide +kernel
theorem dX6_copy_92 : decode cX6_copy 92 = .ok (.invokevirtual 106, 3) := by decide +kernel
theorem dX6_copy_95 : decode cX6_copy 95 = .ok (.iconst 1, 1) := by decide +kernel
theorem dX6_copy_96 : decode cX6_copy 96 = .ok (.ireturn, 1) := by decide +kernel
theorem dX6_lose_0 : decode cX6_lose 0 = .ok (.aload_n 0, 1) := by decide +kernel
theorem dX6_lose_1 : decode cX6_lose 1 = .ok (.iconst 0, 1) := by decide +kernel
theorem dX6_lose_2 : decode cX6_lose 2 = .ok (.putfield 64, 3) := by decide +kernel
theorem dX6_lose_5 : decode cX6_lose 5 = .ok (.iload_n 1, 1) := by decide +kernel
theorem dX6_lose_6 : decode cX6_lose 6 = .ok (.iconst 0, 1) := by decide +kernel
theorem dX6_lose_7 : decode cX6_lose 7 = .ok (.aload_n 0, 1) := by decide +kernel
theorem dX6_lose_8 : decode cX6_lose 8 = .ok (.getfield 9, 3) := by decide +kernel
theorem dX6_lose_11 : decode cX6_lose 11 = .ok (.bipush 14, 2) := by decide +kernel
theorem dX6_lose_13 : decode cX6_lose 13 = .ok (.iaload, 1) := by decide +kernel
theorem dX6_lose_14 : decode cX6_lose 14 = .ok (.iconst 1, 1) := by decide +kernel
theorem dX6_lose_15 : decode cX6_lose 15 = .ok (.isub, 1) := by decide +kernel
theorem dX6_lose_16 : decode cX6_lose 16 = .ok (.invokestatic 67, 3) := by decide +kernel
theorem dX6_lose_19 : decode cX6_lose 19 = .ok (.ifCond .ne 5, 3) := by decide +kernel
theorem dX6_lose_22 : decode cX6_lose 22 = .ok (.iconst 0, 1) := by decide +kernel
theorem dX6_lose_23 : decode cX6_lose 23 = .ok (.ireturn, 1) := by decide +kernel
theorem dX6_lose_24 : decode cX6_lose 24 = .ok (.aload_n 0, 1) := by decide +kernel
theorem dX6_lose_25 : decode cX6_lose 25 = .ok (.getfield 9, 3) := by decide +kernel
theorem dX6_lose_28 : decode cX6_lose 28 = .ok (.iload_n 1, 1) := by decide +kernel
theorem dX6_lose_29 : decode cX6_lose 29 = .ok (.invokestatic 131, 3) := by decide +kernel
theorem dX6_lose_32 : decode cX6_lose 32 = .ok (.iconst 1, 1) := by decide +kernel
theorem dX6_lose_33 : decode cX6_lose 33 = .ok (.ireturn, 1) := by decide +kernel
theorem dX6_tick_0 : decode cX6_tick 0 = .ok (.aload_n 0, 1) := by decide +kernel
theorem dX6_tick_1 : decode cX6_tick 1 = .ok (.iconst 0, 1) := by decide +kernel
theorem dX6_tick_2 : decode cX6_tick 2 = .ok (.putfield 64, 3) := by decide +kernel
theorem dX6_tick_5 : decode cX6_tick 5 = .ok (.iload_n 1, 1) := by decide +kernel
theorem dX6_tick_6 : decode cX6_tick 6 = .ok (.iconst 1, 1) := by decide +kernel
theorem dX6_tick_7 : decode cX6_tick 7 = .ok (.sipush 500, 3) := by decide +kernel
theorem dX6_tick_10 : decode cX6_tick 10 = .ok (.invokestatic 67, 3) := by decide +kernel
theorem dX6_tick_13 : decode cX6_tick 13 = .ok (.ifCond .ne 6, 3) := by decide +kernel
theorem dX6_tick_16 : decode cX6_tick 16 = .ok (.bipush (-2), 2) := by decide +kernel
theorem dX6_tick_18 : decode cX6_tick 18 = .ok (.ireturn, 1) := by decide +kernel
theorem dX6_tick_19 : decode cX6_tick 19 = .ok (.aload_n 0, 1) := by decide +kernel
theorem dX6_tick_20 : decode cX6_tick 20 = .ok (.getfield 9, 3) := by decide +kernel
theorem dX6_tick_23 : decode cX6_tick 23 = .ok (.iconst 0, 1) := by decide +kernel
theorem dX6_tick_24 : decode cX6_tick 24 = .ok (.iaload, 1) := by decide +kernel
theorem dX6_tick_25 : decode cX6_tick 25 = .ok (.iload_n 1, 1) := by decide +kernel
theorem dX6_tick_26 : decode cX6_tick 26 = .ok (.iadd, 1) := by decide +kernel
theorem dX6_tick_27 : decode cX6_tick 27 = .ok (.sipush 30000, 3) := by decide +kernel
theorem dX6_tick_30 : decode cX6_tick 30 = .ok (.if_icmp .le 6, 3) := by decide +kernel
theorem dX6_tick_33 : decode cX6_tick 33 = .ok (.bipush (-3), 2) := by decide +kernel
theorem dX6_tick_35 : decode cX6_tick 35 = .ok (.ireturn, 1) := by decide +kernel
theorem dX6_tick_36 : decode cX6_tick 36 = .ok (.iconst 0, 1) := by decide +kernel
theorem dX6_tick_37 : decode cX6_tick 37 = .ok (.istore_n 2, 1) := by decide +kernel
theorem dX6_tick_38 : decode cX6_tick 38 = .ok (.iload_n 2, 1) := by decide +kernel
theorem dX6_tick_39 : decode cX6_tick 39 = .ok (.iload_n 1, 1) := by decide +kernel
theorem dX6_tick_40 : decode cX6_tick 40 = .ok (.if_icmp .ge 17, 3) := by decide +kernel
theorem dX6_tick_43 : decode cX6_tick 43 = .ok (.aload_n 0, 1) := by decide +kernel
theorem dX6_tick_44 : decode cX6_tick 44 = .ok (.aload_n 0, 1) := by decide +kernel
theorem dX6_tick_45 : decode cX6_tick 45 = .ok (.getfield 9, 3) := by decide +kernel
theorem dX6_tick_48 : decode cX6_tick 48 = .ok (.invokevirtual 172, 3) := by decide +kernel
theorem dX6_tick_51 : decode cX6_tick 51 = .ok (.iinc 2 1, 3) := by decide +kernel
theorem dX6_tick_54 : decode cX6_tick 54 = .ok (.goto (-16), 3) := by decide +kernel
theorem dX6_tick_57 : decode cX6_tick 57 = .ok (.aload_n 0, 1) := by decide +kernel
theorem dX6_tick_58 : decode cX6_tick 58 = .ok (.getfield 9, 3) := by decide +kernel
theorem dX6_tick_61 : decode cX6_tick 61 = .ok (.iconst 0, 1) := by decide +kernel
theorem dX6_tick_62 : decode cX6_tick 62 = .ok (.iaload, 1) := by decide +kernel
theorem dX6_tick_63 : decode cX6_tick 63 = .ok (.ireturn, 1) := by decide +kernel
theorem dX6_copy__0 : decode cX6_copy_ 0 = .ok (.iconst 0, 1) := by decide +kernel
theorem dX6_copy__1 : decode cX6_copy_ 1 = .ok (.istore 4, 2) := by decide +kernel
theorem dX6_copy__3 : decode cX6_copy_ 3 = .ok (.iload 4, 2) := by decide +kernel
theorem dX6_copy__5 : decode cX6_copy_ 5 = .ok (.sipush 527, 3) := by decide +kernel
theorem dX6_copy__8 : decode cX6_copy_ 8 = .ok (.if_icmp .ge 21, 3) := by decide +kernel
theorem dX6_copy__11 : decode cX6_copy_ 11 = .ok (.aload_n 2, 1) := by decide +kernel
theorem dX6_copy__12 : decode cX6_copy_ 12 = .ok (.iload_n 3, 1) := by decide +kernel
theorem dX6_copy__13 : decode cX6_copy_ 13 = .ok (.iload 4, 2) := by decide +kernel
theorem dX6_copy__15 : decode cX6_copy_ 15 = .ok (.iadd, 1) := by decide +kernel
theorem dX6_copy__16 : decode cX6_copy_ 16 = .ok (.aload_n 0, 1) := by decide +kernel
theorem dX6_copy__17 : decode cX6_copy_ 17 = .ok (.iload_n 1, 1) := by decide +kernel
theorem dX6_copy__18 : decode cX6_copy_ 18 = .ok (.iload 4, 2) := by decide +kernel
theorem dX6_copy__20 : decode cX6_copy_ 20 = .ok (.iadd, 1) := by decide +kernel
theorem dX6_copy__21 : decode cX6_copy_ 21 = .ok (.iaload, 1) := by decide +kernel
theorem dX6_copy__22 : decode cX6_copy_ 22 = .ok (.iastore, 1) := by decide +kernel
theorem dX6_copy__23 : decode cX6_copy_ 23 = .ok (.iinc 4 1, 3) := by decide +kernel
theorem dX6_copy__26 : decode cX6_copy_ 26 = .ok (.goto (-23), 3) := by decide +kernel
theorem dX6_copy__29 : decode cX6_copy_ 29 = .ok (.return_, 1) := by decide +kernel
theorem dX6_isAsked_0 : decode cX6_isAsked 0 = .ok (.iload_n 1, 1) := by decide +kernel
theorem dX6_isAsked_1 : decode cX6_isAsked 1 = .ok (.iconst 0, 1) := by decide +kernel
theorem dX6_isAsked_2 : decode cX6_isAsked 2 = .ok (.iconst 1, 1) := by decide +kernel
theorem dX6_isAsked_3 : decode cX6_isAsked 3 = .ok (.invokestatic 67, 3) := by decide +kernel
theorem dX6_isAsked_6 : decode cX6_isAsked 6 = .ok (.ifCond .eq 25, 3) := by decide +kernel
theorem dX6_isAsked_9 : decode cX6_isAsked 9 = .ok (.iload 4, 2) := by decide +kernel
theorem dX6_isAsked_11 : decode cX6_isAsked 11 = .ok (.iconst 0, 1) := by decide +kernel
theorem dX6_isAsked_12 : decode cX6_isAsked 12 = .ok (.bipush 7, 2) := by decide +kernel
theorem dX6_isAsked_14 : decode cX6_isAsked 14 = .ok (.invokestatic 67, 3) := by decide +kernel
theorem dX6_isAsked_17 : decode cX6_isAsked 17 = .ok (.ifCond .eq 14, 3) := by decide +kernel
theorem dX6_isAsked_20 : decode cX6_isAsked 20 = .ok (.iload 5, 2) := by decide +kernel
theorem dX6_isAsked_22 : decode cX6_isAsked 22 = .ok (.iconst 0, 1) := by decide +kernel
theorem dX6_isAsked_23 : decode cX6_isAsked 23 = .ok (.bipush 6, 2) := by decide +kernel
theorem dX6_isAsked_25 : decode cX6_isAsked 25 = .ok (.invokestatic 67, 3) := by decide +kernel
theorem dX6_isAsked_28 : decode cX6_isAsked 28 = .ok (.ifCond .ne 5, 3) := by decide +kernel
theorem dX6_isAsked_31 : decode cX6_isAsked 31 = .ok (.iconst 0, 1) := by decide +kernel
theorem dX6_isAsked_32 : decode cX6_isAsked 32 = .ok (.ireturn, 1) := by decide +kernel
theorem dX6_isAsked_33 : decode cX6_isAsked 33 = .ok (.iload_n 1, 1) := by decide +kernel
theorem dX6_isAsked_34 : decode cX6_isAsked 34 = .ok (.ifCond .ne 28, 3) := by decide +kernel
theorem dX6_isAsked_37 : decode cX6_isAsked 37 = .ok (.aload_n 0, 1) := by decide +kernel
theorem dX6_isAsked_38 : decode cX6_isAsked 38 = .ok (.iload_n 2, 1) := by decide +kernel
theorem dX6_isAsked_39 : decode cX6_isAsked 39 = .ok (.invokevirtual 78, 3) := by decide +kernel
theorem dX6_isAsked_42 : decode cX6_isAsked 42 = .ok (.ifCond .eq 16, 3) := by decide +kernel
theorem dX6_isAsked_45 : decode cX6_isAsked 45 = .ok (.iload_n 3, 1) := by decide +kernel
theorem dX6_isAsked_46 : decode cX6_isAsked 46 = .ok (.iconst 0, 1) := by decide +kernel
theorem dX6_isAsked_47 : decode cX6_isAsked 47 = .ok (.iconst 3, 1) := by decide +kernel
theorem dX6_isAsked_48 : decode cX6_isAsked 48 = .ok (.invokestatic 67, 3) := by decide +kernel
theorem dX6_isAsked_51 : decode cX6_isAsked 51 = .ok (.ifCond .eq 7, 3) := by decide +kernel
theorem dX6_isAsked_54 : decode cX6_isAsked 54 = .ok (.iconst 1, 1) := by decide +kernel
theorem dX6_isAsked_55 : decode cX6_isAsked 55 = .ok (.goto 25, 3) := by decide +kernel
theorem dX6_isAsked_58 : decode cX6_isAsked 58 = .ok (.iconst 0, 1) := by decide +kernel
theorem dX6_isAsked_59 : decode cX6_isAsked 59 = .ok (.goto 21, 3) := by decide +kernel
theorem dX6_isAsked_62 : decode cX6_isAsked 62 = .ok (.iload_n 2, 1) := by decide +kernel
theorem dX6_isAsked_63 : decode cX6_isAsked 63 = .ok (.iconst 0, 1) := by decide +kernel
theorem dX6_isAsked_64 : decode cX6_isAsked 64 = .ok (.iconst 3, 1) := by decide +kernel
theorem dX6_isAsked_65 : decode cX6_isAsked 65 = .ok (.invokestatic 67, 3) := by decide +kernel
theorem dX6_isAsked_68 : decode cX6_isAsked 68 = .ok (.ifCond .eq 11, 3) := by decide +kernel
theorem dX6_isAsked_71 : decode cX6_isAsked 71 = .ok (.iload_n 3, 1) := by decide +kernel
theorem dX6_isAsked_72 : decode cX6_isAsked 72 = .ok (.ifCond .ne 7, 3) := by decide +kernel
theorem dX6_isAsked_75 : decode cX6_isAsked 75 = .ok (.iconst 1, 1) := by decide +kernel
theorem dX6_isAsked_76 : decode cX6_isAsked 76 = .ok (.goto 4, 3) := by decide +kernel
theorem dX6_isAsked_79 : decode cX6_isAsked 79 = .ok (.iconst 0, 1) := by decide +kernel
theorem dX6_isAsked_80 : decode cX6_isAsked 80 = .ok (.ireturn, 1) := by decide +kernel
theorem dX6_isMixed_0 : decode cX6_isMixed 0 = .ok (.iconst 0, 1) := by decide +kernel
theorem dX6_isMixed_1 : decode cX6_isMixed 1 = .ok (.istore_n 2, 1) := by decide +kernel
theorem dX6_isMixed_2 : decode cX6_isMixed 2 = .ok (.iconst 0, 1) := by decide +kernel
theorem dX6_isMixed_3 : decode cX6_isMixed 3 = .ok (.istore_n 3, 1) := by decide +kernel
theorem dX6_isMixed_4 : decode cX6_isMixed 4 = .ok (.iload_n 3, 1) := by decide +kernel
theorem dX6_isMixed_5 : decode cX6_isMixed 5 = .ok (.aload_n 0, 1) := by decide +kernel
theorem dX6_isMixed_6 : decode cX6_isMixed 6 = .ok (.bipush 12, 2) := by decide +kernel
theorem dX6_isMixed_8 : decode cX6_isMixed 8 = .ok (.iaload, 1) := by decide +kernel
theorem dX6_isMixed_9 : decode cX6_isMixed 9 = .ok (.if_icmp .ge 40, 3) := by decide +kernel
theorem dX6_isMixed_12 : decode cX6_isMixed 12 = .ok (.iload_n 2, 1) := by decide +kernel
theorem dX6_isMixed_13 : decode cX6_isMixed 13 = .ok (.ifCond .ne 24, 3) := by decide +kernel
theorem dX6_isMixed_16 : decode cX6_isMixed 16 = .ok (.aload_n 0, 1) := by decide +kernel
theorem dX6_isMixed_17 : decode cX6_isMixed 17 = .ok (.iload_n 1, 1) := by decide +kernel
theorem dX6_isMixed_18 : decode cX6_isMixed 18 = .ok (.iload_n 3, 1) := by decide +kernel
theorem dX6_isMixed_19 : decode cX6_isMixed 19 = .ok (.invokestatic 165, 3) := by decide +kernel
theorem dX6_isMixed_22 : decode cX6_isMixed 22 = .ok (.ifCond .eq 19, 3) := by decide +kernel
theorem dX6_isMixed_25 : decode cX6_isMixed 25 = .ok (.aload_n 0, 1) := by decide +kernel
theorem dX6_isMixed_26 : decode cX6_isMixed 26 = .ok (.iload_n 3, 1) := by decide +kernel
theorem dX6_isMixed_27 : decode cX6_isMixed 27 = .ok (.invokestatic 71, 3) := by decide +kernel
theorem dX6_isMixed_30 : decode cX6_isMixed 30 = .ok (.iconst 1, 1) := by decide +kernel
theorem dX6_isMixed_31 : decode cX6_isMixed 31 = .ok (.iadd, 1) := by decide +kernel
theorem dX6_isMixed_32 : decode cX6_isMixed 32 = .ok (.iaload, 1) := by decide +kernel
theorem dX6_isMixed_33 : decode cX6_isMixed 33 = .ok (.iload_n 1, 1) := by decide +kernel
theorem dX6_isMixed_34 : decode cX6_isMixed 34 = .ok (.if_icmp .eq 7, 3) := by decide +kernel
theorem dX6_isMixed_37 : decode cX6_isMixed 37 = .ok (.iconst 1, 1) := by decide +kernel
theorem dX6_isMixed_38 : decode cX6_isMixed 38 = .ok (.goto 4, 3) := by decide +kernel
theorem dX6_isMixed_41 : decode cX6_isMixed 41 = .ok (.iconst 0, 1) := by decide +kernel
theorem dX6_isMixed_42 : decode cX6_isMixed 42 = .ok (.istore_n 2, 1) := by decide +kernel
theorem dX6_isMixed_43 : decode cX6_isMixed 43 = .ok (.iinc 3 1, 3) := by decide +kernel
theorem dX6_isMixed_46 : decode cX6_isMixed 46 = .ok (.goto (-42), 3) := by decide +kernel
theorem dX6_isMixed_49 : decode cX6_isMixed 49 = .ok (.iload_n 2, 1) := by decide +kernel
theorem dX6_isMixed_50 : decode cX6_isMixed 50 = .ok (.ireturn, 1) := by decide +kernel
theorem dX6_makes_0 : decode cX6_makes 0 = .ok (.aload_n 0, 1) := by decide +kernel
theorem dX6_makes_1 : decode cX6_makes 1 = .ok (.iconst 0, 1) := by decide +kernel
theorem dX6_makes_2 : decode cX6_makes 2 = .ok (.putfield 176, 3) := by decide +kernel
theorem dX6_makes_5 : decode cX6_makes 5 = .ok (.iload_n 2, 1) := by decide +kernel
theorem dX6_makes_6 : decode cX6_makes 6 = .ok (.bipush 12, 2) := by decide +kernel
theorem dX6_makes_8 : decode cX6_makes 8 = .ok (.if_icmp .ge 23, 3) := by decide +kernel
theorem dX6_makes_11 : decode cX6_makes 11 = .ok (.iload_n 2, 1) := by decide +kernel
theorem dX6_makes_12 : decode cX6_makes 12 = .ok (.aload_n 1, 1) := by decide +kernel
theorem dX6_makes_13 : decode cX6_makes 13 = .ok (.bipush 14, 2) := by decide +kernel
theorem dX6_makes_15 : decode cX6_makes 15 = .ok (.iaload, 1) := by decide +kernel
theorem dX6_makes_16 : decode cX6_makes 16 = .ok (.if_icmp .lt 5, 3) := by decide +kernel
theorem dX6_makes_19 : decode cX6_makes 19 = .ok (.iconst 0, 1) := by decide +kernel
theorem dX6_makes_20 : decode cX6_makes 20 = .ok (.ireturn, 1) := by decide +kernel
theorem dX6_makes_21 : decode cX6_makes 21 = .ok (.aload_n 0, 1) := by decide +kernel
theorem dX6_makes_22 : decode cX6_makes 22 = .ok (.aload_n 1, 1) := by decide +kernel
theorem dX6_makes_23 : decode cX6_makes 23 = .ok (.iload_n 2, 1) := by decide +kernel
theorem dX6_makes_24 : decode cX6_makes 24 = .ok (.invokevirtual 155, 3) := by decide +kernel
theorem dX6_makes_27 : decode cX6_makes 27 = .ok (.istore 6, 2) := by decide +kernel
theorem dX6_makes_29 : decode cX6_makes 29 = .ok (.iconst 1, 1) := by decide +kernel
theorem dX6_makes_30 : decode cX6_makes 30 = .ok (.ireturn, 1) := by decide +kernel
theorem dX6_makes_31 : decode cX6_makes 31 = .ok (.iload_n 2, 1) := by decide +kernel
theorem dX6_makes_32 : decode cX6_makes 32 = .ok (.bipush 100, 2) := by decide +kernel
theorem dX6_makes_34 : decode cX6_makes 34 = .ok (.sipush 227, 3) := by decide +kernel
theorem dX6_makes_37 : decode cX6_makes 37 = .ok (.invokestatic 67, 3) := by decide +kernel
theorem dX6_makes_40 : decode cX6_makes 40 = .ok (.ifCond .eq 120, 3) := by decide +kernel
theorem dX6_makes_43 : decode cX6_makes 43 = .ok (.iload_n 2, 1) := by decide +kernel
theorem dX6_makes_44 : decode cX6_makes 44 = .ok (.bipush 100, 2) := by decide +kernel
theorem dX6_makes_46 : decode cX6_makes 46 = .ok (.isub, 1) := by decide +kernel
theorem dX6_makes_47 : decode cX6_makes 47 = .ok (.iconst 4, 1) := by decide +kernel
theorem dX6_makes_48 : decode cX6_makes 48 = .ok (.idiv, 1) := by decide +kernel
theorem dX6_makes_49 : decode cX6_makes 49 = .ok (.istore 6, 2) := by decide +kernel
theorem dX6_makes_51 : decode cX6_makes 51 = .ok (.iload_n 2, 1) := by decide +kernel
theorem dX6_makes_52 : decode cX6_makes 52 = .ok (.bipush 100, 2) := by decide +kernel
theorem dX6_makes_54 : decode cX6_makes 54 = .ok (.isub, 1) := by decide +kernel
theorem dX6_makes_55 : decode cX6_makes 55 = .ok (.iconst 4, 1) := by decide +kernel
theorem dX6_makes_56 : decode cX6_makes 56 = .ok (.irem, 1) := by decide +kernel
theorem dX6_makes_57 : decode cX6_makes 57 = .ok (.istore 7, 2) := by decide +kernel
theorem dX6_makes_59 : decode cX6_makes 59 = .ok (.iload 6, 2) := by decide +kernel
theorem dX6_makes_61 : decode cX6_makes 61 = .ok (.aload_n 1, 1) := by decide +kernel
theorem dX6_makes_62 : decode cX6_makes 62 = .ok (.bipush 12, 2) := by decide +kernel
theorem dX6_makes_64 : decode cX6_makes 64 = .ok (.iaload, 1) := by decide +kernel
theorem dX6_makes_65 : decode cX6_makes 65 = .ok (.if_icmp .ge 47, 3) := by decide +kernel
theorem dX6_makes_68 : decode cX6_makes 68 = .ok (.iload 7, 2) := by decide +kernel
theorem dX6_makes_70 : decode cX6_makes 70 = .ok (.aload_n 1, 1) := by decide +kernel
theorem dX6_makes_71 : decode cX6_makes 71 = .ok (.bipush 11, 2) := by decide +kernel
theorem dX6_makes_73 : decode cX6_makes 73 = .ok (.iaload, 1) := by decide +kernel
theorem dX6_makes_74 : decode cX6_makes 74 = .ok (.if_icmp .ge 38, 3) := by decide +kernel
theorem dX6_makes_77 : decode cX6_makes 77 = .ok (.aload_n 1, 1) := by decide +kernel
theorem dX6_makes_78 : decode cX6_makes 78 = .ok (.iload 7, 2) := by decide +kernel
theorem dX6_makes_80 : decode cX6_makes 80 = .ok (.invokestatic 75, 3) := by decide +kernel
theorem dX6_makes_83 : decode cX6_makes 83 = .ok (.iconst 3, 1) := by decide +kernel
theorem dX6_makes_84 : decode cX6_makes 84 = .ok (.iadd, 1) := by decide +kernel
theorem dX6_makes_85 : decode cX6_makes 85 = .ok (.iaload, 1) := by decide +kernel
theorem dX6_makes_86 : decode cX6_makes 86 = .ok (.ifCond .eq 26, 3) := by decide +kernel
theorem dX6_makes_89 : decode cX6_makes 89 = .ok (.aload_n 1, 1) := by decide +kernel
theorem dX6_makes_90 : decode cX6_makes 90 = .ok (.iconst 4, 1) := by decide +kernel
theorem dX6_makes_91 : decode cX6_makes 91 = .ok (.iload 6, 2) := by decide +kernel
theorem dX6_makes_93 : decode cX6_makes 93 = .ok (.invokestatic 165, 3) := by decide +kernel
theorem dX6_makes_96 : decode cX6_makes 96 = .ok (.ifCond .eq 16, 3) := by decide +kernel
theorem dX6_makes_99 : decode cX6_makes 99 = .ok (.aload_n 1, 1) := by decide +kernel
theorem dX6_makes_100 : decode cX6_makes 100 = .ok (.iload 6, 2) := by decide +kernel
theorem dX6_makes_102 : decode cX6_makes 102 = .ok (.invokestatic 71, 3) := by decide +kernel
theorem dX6_makes_105 : decode cX6_makes 105 = .ok (.iconst 0, 1) := by decide +kernel
theorem dX6_makes_106 : decode cX6_makes 106 = .ok (.iadd, 1) := by decide +kernel
theorem dX6_makes_107 : decode cX6_makes 107 = .ok (.iaload, 1) := by decide +kernel
theorem dX6_makes_108 : decode cX6_makes 108 = .ok (.iconst 1, 1) := by decide +kernel
theorem dX6_makes_109 : decode cX6_makes 109 = .ok (.if_icmp .ne 5, 3) := by decide +kernel
theorem dX6_makes_112 : decode cX6_makes 112 = .ok (.iconst 0, 1) := by decide +kernel
theorem dX6_makes_113 : decode cX6_makes 113 = .ok (.ireturn, 1) := by decide +kernel
theorem dX6_makes_114 : decode cX6_makes 114 = .ok (.aload_n 0, 1) := by decide +kernel
theorem dX6_makes_115 : decode cX6_makes 115 = .ok (.aload_n 0, 1) := by decide +kernel
theorem dX6_makes_116 : decode cX6_makes 116 = .ok (.aload_n 1, 1) := by decide +kernel
theorem dX6_makes_117 : decode cX6_makes 117 = .ok (.iconst 4, 1) := by decide +kernel
theorem dX6_makes_118 : decode cX6_makes 118 = .ok (.iload 7, 2) := by decide +kernel
theorem dX6_makes_120 : decode cX6_makes 120 = .ok (.iload 6, 2) := by decide +kernel
theorem dX6_makes_122 : decode cX6_makes 122 = .ok (.iload 5, 2) := by decide +kernel
theorem dX6_makes_124 : decode cX6_makes 124 = .ok (.invokevirtual 141, 3) := by decide +kernel
theorem dX6_makes_127 : decode cX6_makes 127 = .ok (.ifCond .ne 27, 3) := by decide +kernel
theorem dX6_makes_130 : decode cX6_makes 130 = .ok (.iload 7, 2) := by decide +kernel
theorem dX6_makes_132 : decode cX6_makes 132 = .ok (.iload_n 3, 1) := by decide +kernel
theorem dX6_makes_133 : decode cX6_makes 133 = .ok (.if_icmp .ne 21, 3) := by decide +kernel
theorem dX6_makes_136 : decode cX6_makes 136 = .ok (.aload_n 1, 1) := by decide +kernel
theorem dX6_makes_137 : decode cX6_makes 137 = .ok (.iload 6, 2) := by decide +kernel
theorem dX6_makes_139 : decode cX6_makes 139 = .ok (.invokestatic 71, 3) := by decide +kernel
theorem dX6_makes_142 : decode cX6_makes 142 = .ok (.iconst 1, 1) := by decide +kernel
theorem dX6_makes_143 : decode cX6_makes 143 = .ok (.iadd, 1) := by decide +kernel
theorem dX6_makes_144 : decode cX6_makes 144 = .ok (.iaload, 1) := by decide +kernel
theorem dX6_makes_145 : decode cX6_makes 145 = .ok (.iload 4, 2) := by decide +kernel
theorem dX6_makes_147 : decode cX6_makes 147 = .ok (.if_icmp .ne 7, 3) := by decide +kernel
theorem dX6_makes_150 : decode cX6_makes 150 = .ok (.iconst 1, 1) := by decide +kernel
theorem dX6_makes_151 : decode cX6_makes 151 = .ok (.goto 4, 3) := by decide +kernel
theorem dX6_makes_154 : decode cX6_makes 154 = .ok (.iconst 0, 1) := by decide +kernel
theorem dX6_makes_155 : decode cX6_makes 155 = .ok (.putfield 176, 3) := by decide +kernel
theorem dX6_makes_158 : decode cX6_makes 158 = .ok (.iconst 1, 1) := by decide +kernel
theorem dX6_makes_159 : decode cX6_makes 159 = .ok (.ireturn, 1) := by decide +kernel
theorem dX6_makes_160 : decode cX6_makes 160 = .ok (.iload_n 2, 1) := by decide +kernel
theorem dX6_makes_161 : decode cX6_makes 161 = .ok (.sipush 300, 3) := by decide +kernel
theorem dX6_makes_164 : decode cX6_makes 164 = .ok (.sipush 331, 3) := by decide +kernel
theorem dX6_makes_167 : decode cX6_makes 167 = .ok (.invokestatic 67, 3) := by decide +kernel
theorem dX6_makes_170 : decode cX6_makes 170 = .ok (.ifCond .eq 58, 3) := by decide +kernel
theorem dX6_makes_173 : decode cX6_makes 173 = .ok (.iload_n 2, 1) := by decide +kernel
theorem dX6_makes_174 : decode cX6_makes 174 = .ok (.sipush 300, 3) := by decide +kernel
theorem dX6_makes_177 : decode cX6_makes 177 = .ok (.isub, 1) := by decide +kernel
theorem dX6_makes_178 : decode cX6_makes 178 = .ok (.istore 6, 2) := by decide +kernel
theorem dX6_makes_180 : decode cX6_makes 180 = .ok (.iload 6, 2) := by decide +kernel
theorem dX6_makes_182 : decode cX6_makes 182 = .ok (.aload_n 1, 1) := by decide +kernel
theorem dX6_makes_183 : decode cX6_makes 183 = .ok (.bipush 12, 2) := by decide +kernel
theorem dX6_makes_185 : decode cX6_makes 185 = .ok (.iaload, 1) := by decide +kernel
theorem dX6_makes_186 : decode cX6_makes 186 = .ok (.if_icmp .ge 26, 3) := by decide +kernel
theorem dX6_makes_189 : decode cX6_makes 189 = .ok (.aload_n 1, 1) := by decide +kernel
theorem dX6_makes_190 : decode cX6_makes 190 = .ok (.iconst 4, 1) := by decide +kernel
theorem dX6_makes_191 : decode cX6_makes 191 = .ok (.iload 6, 2) := by decide +kernel
theorem dX6_makes_193 : decode cX6_makes 193 = .ok (.invokestatic 165, 3) := by decide +kernel
theorem dX6_makes_196 : decode cX6_makes 196 = .ok (.ifCond .eq 16, 3) := by decide +kernel
theorem dX6_makes_199 : decode cX6_makes 199 = .ok (.aload_n 1, 1) := by decide +kernel
theorem dX6_makes_200 : decode cX6_makes 200 = .ok (.iload 6, 2) := by decide +kernel
theorem dX6_makes_202 : decode cX6_makes 202 = .ok (.invokestatic 71, 3) := by decide +kernel
theorem dX6_makes_205 : decode cX6_makes 205 = .ok (.iconst 0, 1) := by decide +kernel
theorem dX6_makes_206 : decode cX6_makes 206 = .ok (.iadd, 1) := by decide +kernel
theorem dX6_makes_207 : decode cX6_makes 207 = .ok (.iaload, 1) := by decide +kernel
theorem dX6_makes_208 : decode cX6_makes 208 = .ok (.iconst 1, 1) := by decide +kernel
theorem dX6_makes_209 : decode cX6_makes 209 = .ok (.if_icmp .eq 5, 3) := by decide +kernel
theorem dX6_makes_212 : decode cX6_makes 212 = .ok (.iconst 0, 1) := by decide +kernel
theorem dX6_makes_213 : decode cX6_makes 213 = .ok (.ireturn, 1) := by decide +kernel
theorem dX6_makes_214 : decode cX6_makes 214 = .ok (.aload_n 0, 1) := by decide +kernel
theorem dX6_makes_215 : decode cX6_makes 215 = .ok (.aload_n 1, 1) := by decide +kernel
theorem dX6_makes_216 : decode cX6_makes 216 = .ok (.iconst 4, 1) := by decide +kernel
theorem dX6_makes_217 : decode cX6_makes 217 = .ok (.iload 6, 2) := by decide +kernel
theorem dX6_makes_219 : decode cX6_makes 219 = .ok (.iconst 0, 1) := by decide +kernel
theorem dX6_makes_220 : decode cX6_makes 220 = .ok (.iconst 1, 1) := by decide +kernel
theorem dX6_makes_221 : decode cX6_makes 221 = .ok (.invokevirtual 144, 3) := by decide +kernel
theorem dX6_makes_224 : decode cX6_makes 224 = .ok (.istore 7, 2) := by decide +kernel
theorem dX6_makes_226 : decode cX6_makes 226 = .ok (.iconst 1, 1) := by decide +kernel
theorem dX6_makes_227 : decode cX6_makes 227 = .ok (.ireturn, 1) := by decide +kernel
theorem dX6_makes_228 : decode cX6_makes 228 = .ok (.iload_n 2, 1) := by decide +kernel
theorem dX6_makes_229 : decode cX6_makes 229 = .ok (.sipush 400, 3) := by decide +kernel
theorem dX6_makes_232 : decode cX6_makes 232 = .ok (.sipush 527, 3) := by decide +kernel
theorem dX6_makes_235 : decode cX6_makes 235 = .ok (.invokestatic 67, 3) := by decide +kernel
theorem dX6_makes_238 : decode cX6_makes 238 = .ok (.ifCond .eq 67, 3) := by decide +kernel
theorem dX6_makes_241 : decode cX6_makes 241 = .ok (.iload_n 2, 1) := by decide +kernel
theorem dX6_makes_242 : decode cX6_makes 242 = .ok (.sipush 400, 3) := by decide +kernel
theorem dX6_makes_245 : decode cX6_makes 245 = .ok (.isub, 1) := by decide +kernel
theorem dX6_makes_246 : decode cX6_makes 246 = .ok (.bipush 32, 2) := by decide +kernel
theorem dX6_makes_248 : decode cX6_makes 248 = .ok (.irem, 1) := by decide +kernel
theorem dX6_makes_249 : decode cX6_makes 249 = .ok (.istore 6, 2) := by decide +kernel
theorem dX6_makes_251 : decode cX6_makes 251 = .ok (.iload_n 2, 1) := by decide +kernel
theorem dX6_makes_252 : decode cX6_makes 252 = .ok (.sipush 400, 3) := by decide +kernel
theorem dX6_makes_255 : decode cX6_makes 255 = .ok (.isub, 1) := by decide +kernel
theorem dX6_makes_256 : decode cX6_makes 256 = .ok (.bipush 32, 2) := by decide +kernel
theorem dX6_makes_258 : decode cX6_makes 258 = .ok (.idiv, 1) := by decide +kernel
theorem dX6_makes_259 : decode cX6_makes 259 = .ok (.istore 7, 2) := by decide +kernel
theorem dX6_makes_261 : decode cX6_makes 261 = .ok (.iload 6, 2) := by decide +kernel
theorem dX6_makes_263 : decode cX6_makes 263 = .ok (.aload_n 1, 1) := by decide +kernel
theorem dX6_makes_264 : decode cX6_makes 264 = .ok (.bipush 12, 2) := by decide +kernel
theorem dX6_makes_266 : decode cX6_makes 266 = .ok (.iaload, 1) := by decide +kernel
theorem dX6_makes_267 : decode cX6_makes 267 = .ok (.if_icmp .ge 13, 3) := by decide +kernel
theorem dX6_makes_270 : decode cX6_makes 270 = .ok (.aload_n 1, 1) := by decide +kernel
theorem dX6_makes_271 : decode cX6_makes 271 = .ok (.iconst 4, 1) := by decide +kernel
theorem dX6_makes_272 : decode cX6_makes 272 = .ok (.iload 6, 2) := by decide +kernel
theorem dX6_makes_274 : decode cX6_makes 274 = .ok (.invokestatic 165, 3) := by decide +kernel
theorem dX6_makes_277 : decode cX6_makes 277 = .ok (.ifCond .ne 5, 3) := by decide +kernel
theorem dX6_makes_280 : decode cX6_makes 280 = .ok (.iconst 0, 1) := by decide +kernel
theorem dX6_makes_281 : decode cX6_makes 281 = .ok (.ireturn, 1) := by decide +kernel
theorem dX6_makes_282 : decode cX6_makes 282 = .ok (.aload_n 0, 1) := by decide +kernel
theorem dX6_makes_283 : decode cX6_makes 283 = .ok (.aload_n 1, 1) := by decide +kernel
theorem dX6_makes_284 : decode cX6_makes 284 = .ok (.iload 7, 2) := by decide +kernel
theorem dX6_makes_286 : decode cX6_makes 286 = .ok (.iload 6, 2) := by decide +kernel
theorem dX6_makes_288 : decode cX6_makes 288 = .ok (.iconst (-1), 1) := by decide +kernel
theorem dX6_makes_289 : decode cX6_makes 289 = .ok (.aload_n 1, 1) := by decide +kernel
theorem dX6_makes_290 : decode cX6_makes 290 = .ok (.iload 7, 2) := by decide +kernel
theorem dX6_makes_292 : decode cX6_makes 292 = .ok (.invokestatic 82, 3) := by decide +kernel
theorem dX6_makes_295 : decode cX6_makes 295 = .ok (.iconst 2, 1) := by decide +kernel
theorem dX6_makes_296 : decode cX6_makes 296 = .ok (.iadd, 1) := by decide +kernel
theorem dX6_makes_297 : decode cX6_makes 297 = .ok (.iaload, 1) := by decide +kernel
theorem dX6_makes_298 : decode cX6_makes 298 = .ok (.invokevirtual 138, 3) := by decide +kernel
theorem dX6_makes_301 : decode cX6_makes 301 = .ok (.istore 8, 2) := by decide +kernel
theorem dX6_makes_303 : decode cX6_makes 303 = .ok (.iconst 1, 1) := by decide +kernel
theorem dX6_makes_304 : decode cX6_makes 304 = .ok (.ireturn, 1) := by decide +kernel
theorem dX6_makes_305 : decode cX6_makes 305 = .ok (.iload_n 2, 1) := by decide +kernel
theorem dX6_makes_306 : decode cX6_makes 306 = .ok (.sipush 600, 3) := by decide +kernel
theorem dX6_makes_309 : decode cX6_makes 309 = .ok (.if_icmp .eq 5, 3) := by decide +kernel
theorem dX6_makes_312 : decode cX6_makes 312 = .ok (.iconst 0, 1) := by decide +kernel
theorem dX6_makes_313 : decode cX6_makes 313 = .ok (.ireturn, 1) := by decide +kernel
theorem dX6_makes_314 : decode cX6_makes 314 = .ok (.aload_n 0, 1) := by decide +kernel
theorem dX6_makes_315 : decode cX6_makes 315 = .ok (.aload_n 1, 1) := by decide +kernel
theorem dX6_makes_316 : decode cX6_makes 316 = .ok (.invokevirtual 172, 3) := by decide +kernel
theorem dX6_makes_319 : decode cX6_makes 319 = .ok (.iconst 1, 1) := by decide +kernel
theorem dX6_makes_320 : decode cX6_makes 320 = .ok (.ireturn, 1) := by decide +kernel
theorem dX6_sumOf_0 : decode cX6_sumOf 0 = .ok (.bipush 17, 2) := by decide +kernel
theorem dX6_sumOf_2 : decode cX6_sumOf 2 = .ok (.istore_n 1, 1) := by decide +kernel
theorem dX6_sumOf_3 : decode cX6_sumOf 3 = .ok (.iconst 0, 1) := by decide +kernel
theorem dX6_sumOf_4 : decode cX6_sumOf 4 = .ok (.istore_n 2, 1) := by decide +kernel
theorem dX6_sumOf_5 : decode cX6_sumOf 5 = .ok (.iload_n 2, 1) := by decide +kernel
theorem dX6_sumOf_6 : decode cX6_sumOf 6 = .ok (.sipush 527, 3) := by decide +kernel
theorem dX6_sumOf_9 : decode cX6_sumOf 9 = .ok (.if_icmp .ge 18, 3) := by decide +kernel
theorem dX6_sumOf_12 : decode cX6_sumOf 12 = .ok (.bipush 31, 2) := by decide +kernel
theorem dX6_sumOf_14 : decode cX6_sumOf 14 = .ok (.iload_n 1, 1) := by decide +kernel
theorem dX6_sumOf_15 : decode cX6_sumOf 15 = .ok (.imul, 1) := by decide +kernel
theorem dX6_sumOf_16 : decode cX6_sumOf 16 = .ok (.aload_n 0, 1) := by decide +kernel
theorem dX6_sumOf_17 : decode cX6_sumOf 17 = .ok (.iload_n 2, 1) := by decide +kernel
theorem dX6_sumOf_18 : decode cX6_sumOf 18 = .ok (.iaload, 1) := by decide +kernel
theorem dX6_sumOf_19 : decode cX6_sumOf 19 = .ok (.iadd, 1) := by decide +kernel
theorem dX6_sumOf_20 : decode cX6_sumOf 20 = .ok (.istore_n 1, 1) := by decide +kernel
theorem dX6_sumOf_21 : decode cX6_sumOf 21 = .ok (.iinc 2 1, 3) := by decide +kernel
theorem dX6_sumOf_24 : decode cX6_sumOf 24 = .ok (.goto (-19), 3) := by decide +kernel
theorem dX6_sumOf_27 : decode cX6_sumOf 27 = .ok (.iload_n 1, 1) := by decide +kernel
theorem dX6_sumOf_28 : decode cX6_sumOf 28 = .ok (.ireturn, 1) := by decide +kernel
theorem dX6_isThere_0 : decode cX6_isThere 0 = .ok (.iconst 0, 1) := by decide +kernel
theorem dX6_isThere_1 : decode cX6_isThere 1 = .ok (.istore_n 3, 1) := by decide +kernel
theorem dX6_isThere_2 : decode cX6_isThere 2 = .ok (.iload_n 3, 1) := by decide +kernel
theorem dX6_isThere_3 : decode cX6_isThere 3 = .ok (.aload_n 0, 1) := by decide +kernel
theorem dX6_isThere_4 : decode cX6_isThere 4 = .ok (.getfield 179, 3) := by decide +kernel
theorem dX6_isThere_7 : decode cX6_isThere 7 = .ok (.if_icmp .ge 69, 3) := by decide +kernel
theorem dX6_isThere_10 : decode cX6_isThere 10 = .ok (.aload_n 0, 1) := by decide +kernel
theorem dX6_isThere_11 : decode cX6_isThere 11 = .ok (.getfield 20, 3) := by decide +kernel
theorem dX6_isThere_14 : decode cX6_isThere 14 = .ok (.iload_n 3, 1) := by decide +kernel
theorem dX6_isThere_15 : decode cX6_isThere 15 = .ok (.iaload, 1) := by decide +kernel
theorem dX6_isThere_16 : decode cX6_isThere 16 = .ok (.iload_n 2, 1) := by decide +kernel
theorem dX6_isThere_17 : decode cX6_isThere 17 = .ok (.if_icmp .eq 6, 3) := by decide +kernel
theorem dX6_isThere_20 : decode cX6_isThere 20 = .ok (.goto 50, 3) := by decide +kernel
theorem dX6_isThere_23 : decode cX6_isThere 23 = .ok (.iconst 0, 1) := by decide +kernel
theorem dX6_isThere_24 : decode cX6_isThere 24 = .ok (.istore 4, 2) := by decide +kernel
theorem dX6_isThere_26 : decode cX6_isThere 26 = .ok (.iload 4, 2) := by decide +kernel
theorem dX6_isThere_28 : decode cX6_isThere 28 = .ok (.sipush 527, 3) := by decide +kernel
theorem dX6_isThere_31 : decode cX6_isThere 31 = .ok (.if_icmp .ge 29, 3) := by decide +kernel
theorem dX6_isThere_34 : decode cX6_isThere 34 = .ok (.aload_n 0, 1) := by decide +kernel
theorem dX6_isThere_35 : decode cX6_isThere 35 = .ok (.getfield 17, 3) := by decide +kernel
theorem dX6_isThere_38 : decode cX6_isThere 38 = .ok (.sipush 527, 3) := by decide +kernel
theorem dX6_isThere_41 : decode cX6_isThere 41 = .ok (.iload_n 3, 1) := by decide +kernel
theorem dX6_isThere_42 : decode cX6_isThere 42 = .ok (.imul, 1) := by decide +kernel
theorem dX6_isThere_43 : decode cX6_isThere 43 = .ok (.iload 4, 2) := by decide +kernel
theorem dX6_isThere_45 : decode cX6_isThere 45 = .ok (.iadd, 1) := by decide +kernel
theorem dX6_isThere_46 : decode cX6_isThere 46 = .ok (.iaload, 1) := by decide +kernel
theorem dX6_isThere_47 : decode cX6_isThere 47 = .ok (.aload_n 1, 1) := by decide +kernel
theorem dX6_isThere_48 : decode cX6_isThere 48 = .ok (.iload 4, 2) := by decide +kernel
theorem dX6_isThere_50 : decode cX6_isThere 50 = .ok (.iaload, 1) := by decide +kernel
theorem dX6_isThere_51 : decode cX6_isThere 51 = .ok (.if_icmp .ne 9, 3) := by decide +kernel
theorem dX6_isThere_54 : decode cX6_isThere 54 = .ok (.iinc 4 1, 3) := by decide +kernel
theorem dX6_isThere_57 : decode cX6_isThere 57 = .ok (.goto (-31), 3) := by decide +kernel
theorem dX6_isThere_60 : decode cX6_isThere 60 = .ok (.iload 4, 2) := by decide +kernel
theorem dX6_isThere_62 : decode cX6_isThere 62 = .ok (.sipush 527, 3) := by decide +kernel
theorem dX6_isThere_65 : decode cX6_isThere 65 = .ok (.if_icmp .ne 5, 3) := by decide +kernel
theorem dX6_isThere_68 : decode cX6_isThere 68 = .ok (.iconst 1, 1) := by decide +kernel
theorem dX6_isThere_69 : decode cX6_isThere 69 = .ok (.ireturn, 1) := by decide +kernel
theorem dX6_isThere_70 : decode cX6_isThere 70 = .ok (.iinc 3 1, 3) := by decide +kernel
theorem dX6_isThere_73 : decode cX6_isThere 73 = .ok (.goto (-71), 3) := by decide +kernel
theorem dX6_isThere_76 : decode cX6_isThere 76 = .ok (.iconst 0, 1) := by decide +kernel
theorem dX6_isThere_77 : decode cX6_isThere 77 = .ok (.ireturn, 1) := by decide +kernel
theorem dX6_lays_0 : decode cX6_lays 0 = .ok (.aload_n 1, 1) := by decide +kernel
theorem dX6_lays_1 : decode cX6_lays 1 = .ok (.iconst 0, 1) := by decide +kernel
theorem dX6_lays_2 : decode cX6_lays 2 = .ok (.aload_n 0, 1) := by decide +kernel
theorem dX6_lays_3 : decode cX6_lays 3 = .ok (.getfield 17, 3) := by decide +kernel
theorem dX6_lays_6 : decode cX6_lays 6 = .ok (.sipush 527, 3) := by decide +kernel
theorem dX6_lays_9 : decode cX6_lays 9 = .ok (.aload_n 0, 1) := by decide +kernel
theorem dX6_lays_10 : decode cX6_lays 10 = .ok (.getfield 179, 3) := by decide +kernel
theorem dX6_lays_13 : decode cX6_lays 13 = .ok (.imul, 1) := by decide +kernel
theorem dX6_lays_14 : decode cX6_lays 14 = .ok (.invokestatic 182, 3) := by decide +kernel
theorem dX6_lays_17 : decode cX6_lays 17 = .ok (.aload_n 0, 1) := by decide +kernel
theorem dX6_lays_18 : decode cX6_lays 18 = .ok (.getfield 20, 3) := by decide +kernel
theorem dX6_lays_21 : decode cX6_lays 21 = .ok (.aload_n 0, 1) := by decide +kernel
theorem dX6_lays_22 : decode cX6_lays 22 = .ok (.getfield 179, 3) := by decide +kernel
theorem dX6_lays_25 : decode cX6_lays 25 = .ok (.iload_n 2, 1) := by decide +kernel
theorem dX6_lays_26 : decode cX6_lays 26 = .ok (.iastore, 1) := by decide +kernel
theorem dX6_lays_27 : decode cX6_lays 27 = .ok (.aload_n 0, 1) := by decide +kernel
theorem dX6_lays_28 : decode cX6_lays 28 = .ok (.getfield 23, 3) := by decide +kernel
theorem dX6_lays_31 : decode cX6_lays 31 = .ok (.aload_n 0, 1) := by decide +kernel
theorem dX6_lays_32 : decode cX6_lays 32 = .ok (.getfield 179, 3) := by decide +kernel
theorem dX6_lays_35 : decode cX6_lays 35 = .ok (.iload_n 3, 1) := by decide +kernel
theorem dX6_lays_36 : decode cX6_lays 36 = .ok (.iastore, 1) := by decide +kernel
theorem dX6_lays_37 : decode cX6_lays 37 = .ok (.aload_n 0, 1) := by decide +kernel
theorem dX6_lays_38 : decode cX6_lays 38 = .ok (.getfield 26, 3) := by decide +kernel
theorem dX6_lays_41 : decode cX6_lays 41 = .ok (.aload_n 0, 1) := by decide +kernel
theorem dX6_lays_42 : decode cX6_lays 42 = .ok (.getfield 179, 3) := by decide +kernel
theorem dX6_lays_45 : decode cX6_lays 45 = .ok (.iload 4, 2) := by decide +kernel
theorem dX6_lays_47 : decode cX6_lays 47 = .ok (.iastore, 1) := by decide +kernel
theorem dX6_lays_48 : decode cX6_lays 48 = .ok (.aload_n 0, 1) := by decide +kernel
theorem dX6_lays_49 : decode cX6_lays 49 = .ok (.getfield 29, 3) := by decide +kernel
theorem dX6_lays_52 : decode cX6_lays 52 = .ok (.aload_n 0, 1) := by decide +kernel
theorem dX6_lays_53 : decode cX6_lays 53 = .ok (.getfield 179, 3) := by decide +kernel
theorem dX6_lays_56 : decode cX6_lays 56 = .ok (.iload_n 3, 1) := by decide +kernel
theorem dX6_lays_57 : decode cX6_lays 57 = .ok (.ifCond .ge 7, 3) := by decide +kernel
theorem dX6_lays_60 : decode cX6_lays 60 = .ok (.iconst 0, 1) := by decide +kernel
theorem dX6_lays_61 : decode cX6_lays 61 = .ok (.goto 11, 3) := by decide +kernel
theorem dX6_lays_64 : decode cX6_lays 64 = .ok (.aload_n 0, 1) := by decide +kernel
theorem dX6_lays_65 : decode cX6_lays 65 = .ok (.getfield 29, 3) := by decide +kernel
theorem dX6_lays_68 : decode cX6_lays 68 = .ok (.iload_n 3, 1) := by decide +kernel
theorem dX6_lays_69 : decode cX6_lays 69 = .ok (.iaload, 1) := by decide +kernel
theorem dX6_lays_70 : decode cX6_lays 70 = .ok (.iconst 1, 1) := by decide +kernel
theorem dX6_lays_71 : decode cX6_lays 71 = .ok (.iadd, 1) := by decide +kernel
theorem dX6_lays_72 : decode cX6_lays 72 = .ok (.iastore, 1) := by decide +kernel
theorem dX6_lays_73 : decode cX6_lays 73 = .ok (.aload_n 0, 1) := by decide +kernel
theorem dX6_lays_74 : decode cX6_lays 74 = .ok (.dup, 1) := by decide +kernel
theorem dX6_lays_75 : decode cX6_lays 75 = .ok (.getfield 179, 3) := by decide +kernel
theorem dX6_lays_78 : decode cX6_lays 78 = .ok (.iconst 1, 1) := by decide +kernel
theorem dX6_lays_79 : decode cX6_lays 79 = .ok (.iadd, 1) := by decide +kernel
theorem dX6_lays_80 : decode cX6_lays 80 = .ok (.putfield 179, 3) := by decide +kernel
theorem dX6_lays_83 : decode cX6_lays 83 = .ok (.return_, 1) := by decide +kernel
theorem dX6_search_0 : decode cX6_search 0 = .ok (.aload_n 0, 1) := by decide +kernel
theorem dX6_search_1 : decode cX6_search 1 = .ok (.iconst 0, 1) := by decide +kernel
theorem dX6_search_2 : decode cX6_search 2 = .ok (.putfield 179, 3) := by decide +kernel
theorem dX6_search_5 : decode cX6_search 5 = .ok (.aload_n 0, 1) := by decide +kernel
theorem dX6_search_6 : decode cX6_search 6 = .ok (.iconst (-1), 1) := by decide +kernel
theorem dX6_search_7 : decode cX6_search 7 = .ok (.putfield 186, 3) := by decide +kernel
theorem dX6_search_10 : decode cX6_search 10 = .ok (.aload_n 0, 1) := by decide +kernel
theorem dX6_search_11 : decode cX6_search 11 = .ok (.aload_n 1, 1) := by decide +kernel
theorem dX6_search_12 : decode cX6_search 12 = .ok (.aload_n 1, 1) := by decide +kernel
theorem dX6_search_13 : decode cX6_search 13 = .ok (.invokestatic 189, 3) := by decide +kernel
theorem dX6_search_16 : decode cX6_search 16 = .ok (.iconst (-1), 1) := by decide +kernel
theorem dX6_search_17 : decode cX6_search 17 = .ok (.iconst (-1), 1) := by decide +kernel
theorem dX6_search_18 : decode cX6_search 18 = .ok (.invokevirtual 192, 3) := by decide +kernel
theorem dX6_search_21 : decode cX6_search 21 = .ok (.iload_n 2, 1) := by decide +kernel
theorem dX6_search_22 : decode cX6_search 22 = .ok (.iconst 1, 1) := by decide +kernel
theorem dX6_search_23 : decode cX6_search 23 = .ok (.if_icmp .ne 13, 3) := by decide +kernel
theorem dX6_search_26 : decode cX6_search 26 = .ok (.aload_n 1, 1) := by decide +kernel
theorem dX6_search_27 : decode cX6_search 27 = .ok (.iload_n 3, 1) := by decide +kernel
theorem dX6_search_28 : decode cX6_search 28 = .ok (.invokestatic 196, 3) := by decide +kernel
theorem dX6_search_31 : decode cX6_search 31 = .ok (.ifCond .eq 5, 3) := by decide +kernel
theorem dX6_search_34 : decode cX6_search 34 = .ok (.iconst 0, 1) := by decide +kernel
theorem dX6_search_35 : decode cX6_search 35 = .ok (.ireturn, 1) := by decide +kernel
theorem dX6_search_36 : decode cX6_search 36 = .ok (.iconst 0, 1) := by decide +kernel
theorem dX6_search_37 : decode cX6_search 37 = .ok (.istore 7, 2) := by decide +kernel
theorem dX6_search_39 : decode cX6_search 39 = .ok (.iload 7, 2) := by decide +kernel
theorem dX6_search_41 : decode cX6_search 41 = .ok (.aload_n 0, 1) := by decide +kernel
theorem dX6_search_42 : decode cX6_search 42 = .ok (.getfield 179, 3) := by decide +kernel
theorem dX6_search_45 : decode cX6_search 45 = .ok (.if_icmp .ge 238, 3) := by decide +kernel
theorem dX6_search_48 : decode cX6_search 48 = .ok (.aload_n 0, 1) := by decide +kernel
theorem dX6_search_49 : decode cX6_search 49 = .ok (.getfield 29, 3) := by decide +kernel
theorem dX6_search_52 : decode cX6_search 52 = .ok (.iload 7, 2) := by decide +kernel
theorem dX6_search_54 : decode cX6_search 54 = .ok (.iaload, 1) := by decide +kernel
theorem dX6_search_55 : decode cX6_search 55 = .ok (.iload 6, 2) := by decide +kernel
theorem dX6_search_57 : decode cX6_search 57 = .ok (.if_icmp .ne 6, 3) := by decide +kernel
theorem dX6_search_60 : decode cX6_search 60 = .ok (.goto 217, 3) := by decide +kernel
theorem dX6_search_63 : decode cX6_search 63 = .ok (.iconst 0, 1) := by decide +kernel
theorem dX6_search_64 : decode cX6_search 64 = .ok (.istore 8, 2) := by decide +kernel
theorem dX6_search_66 : decode cX6_search 66 = .ok (.iload 8, 2) := by decide +kernel
theorem dX6_search_68 : decode cX6_search 68 = .ok (.sipush 600, 3) := by decide +kernel
theorem dX6_search_71 : decode cX6_search 71 = .ok (.if_icmp .gt 206, 3) := by decide +kernel
theorem dX6_search_74 : decode cX6_search 74 = .ok (.iload 8, 2) := by decide +kernel
theorem dX6_search_76 : decode cX6_search 76 = .ok (.bipush 12, 2) := by decide +kernel
theorem dX6_search_78 : decode cX6_search 78 = .ok (.if_icmp .ne 10, 3) := by decide +kernel
theorem dX6_search_81 : decode cX6_search 81 = .ok (.bipush 100, 2) := by decide +kernel
theorem dX6_search_83 : decode cX6_search 83 = .ok (.istore 8, 2) := by decide +kernel
theorem dX6_search_85 : decode cX6_search 85 = .ok (.goto 48, 3) := by decide +kernel
theorem dX6_search_88 : decode cX6_search 88 = .ok (.iload 8, 2) := by decide +kernel
theorem dX6_search_90 : decode cX6_search 90 = .ok (.sipush 228, 3) := by decide +kernel
theorem dX6_search_93 : decode cX6_search 93 = .ok (.if_icmp .ne 11, 3) := by decide +kernel
theorem dX6_search_96 : decode cX6_search 96 = .ok (.sipush 300, 3) := by decide +kernel
theorem dX6_search_99 : decode cX6_search 99 = .ok (.istore 8, 2) := by decide +kernel
theorem dX6_search_101 : decode cX6_search 101 = .ok (.goto 32, 3) := by decide +kernel
theorem dX6_search_104 : decode cX6_search 104 = .ok (.iload 8, 2) := by decide +kernel
theorem dX6_search_106 : decode cX6_search 106 = .ok (.sipush 332, 3) := by decide +kernel
theorem dX6_search_109 : decode cX6_search 109 = .ok (.if_icmp .ne 11, 3) := by decide +kernel
theorem dX6_search_112 : decode cX6_search 112 = .ok (.sipush 400, 3) := by decide +kernel
theorem dX6_search_115 : decode cX6_search 115 = .ok (.istore 8, 2) := by decide +kernel
theorem dX6_search_117 : decode cX6_search 117 = .ok (.goto 16, 3) := by decide +kernel
theorem dX6_search_120 : decode cX6_search 120 = .ok (.iload 8, 2) := by decide +kernel
theorem dX6_search_122 : decode cX6_search 122 = .ok (.sipush 528, 3) := by decide +kernel
theorem dX6_search_125 : decode cX6_search 125 = .ok (.if_icmp .ne 8, 3) := by decide +kernel
theorem dX6_search_128 : decode cX6_search 128 = .ok (.sipush 600, 3) := by decide +kernel
theorem dX6_search_131 : decode cX6_search 131 = .ok (.istore 8, 2) := by decide +kernel
theorem dX6_search_133 : decode cX6_search 133 = .ok (.aload_n 0, 1) := by decide +kernel
theorem dX6_search_134 : decode cX6_search 134 = .ok (.getfield 17, 3) := by decide +kernel
theorem dX6_search_137 : decode cX6_search 137 = .ok (.sipush 527, 3) := by decide +kernel
theorem dX6_search_140 : decode cX6_search 140 = .ok (.iload 7, 2) := by decide +kernel
theorem dX6_search_142 : decode cX6_search 142 = .ok (.imul, 1) := by decide +kernel
theorem dX6_search_143 : decode cX6_search 143 = .ok (.aload_n 0, 1) := by decide +kernel
theorem dX6_search_144 : decode cX6_search 144 = .ok (.getfield 35, 3) := by decide +kernel
theorem dX6_search_147 : decode cX6_search 147 = .ok (.iconst 0, 1) := by decide +kernel
theorem dX6_search_148 : decode cX6_search 148 = .ok (.invokestatic 182, 3) := by decide +kernel
theorem dX6_search_151 : decode cX6_search 151 = .ok (.aload_n 0, 1) := by decide +kernel
theorem dX6_search_152 : decode cX6_search 152 = .ok (.aload_n 0, 1) := by decide +kernel
theorem dX6_search_153 : decode cX6_search 153 = .ok (.getfield 35, 3) := by decide +kernel
theorem dX6_search_156 : decode cX6_search 156 = .ok (.iload 8, 2) := by decide +kernel
theorem dX6_search_158 : decode cX6_search 158 = .ok (.iload_n 3, 1) := by decide +kernel
theorem dX6_search_159 : decode cX6_search 159 = .ok (.iload 4, 2) := by decide +kernel
theorem dX6_search_161 : decode cX6_search 161 = .ok (.iload 5, 2) := by decide +kernel
theorem dX6_search_163 : decode cX6_search 163 = .ok (.invokevirtual 199, 3) := by decide +kernel
theorem dX6_search_166 : decode cX6_search 166 = .ok (.ifCond .ne 6, 3) := by decide +kernel
theorem dX6_search_169 : decode cX6_search 169 = .ok (.goto 102, 3) := by decide +kernel
theorem dX6_search_172 : decode cX6_search 172 = .ok (.iload_n 2, 1) := by decide +kernel
theorem dX6_search_173 : decode cX6_search 173 = .ok (.ifCond .ne 13, 3) := by decide +kernel
theorem dX6_search_176 : decode cX6_search 176 = .ok (.aload_n 0, 1) := by decide +kernel
theorem dX6_search_177 : decode cX6_search 177 = .ok (.getfield 176, 3) := by decide +kernel
theorem dX6_search_180 : decode cX6_search 180 = .ok (.ifCond .eq 39, 3) := by decide +kernel
theorem dX6_search_183 : decode cX6_search 183 = .ok (.goto 14, 3) := by decide +kernel
theorem dX6_search_186 : decode cX6_search 186 = .ok (.aload_n 0, 1) := by decide +kernel
theorem dX6_search_187 : decode cX6_search 187 = .ok (.getfield 35, 3) := by decide +kernel
theorem dX6_search_190 : decode cX6_search 190 = .ok (.iload_n 3, 1) := by decide +kernel
theorem dX6_search_191 : decode cX6_search 191 = .ok (.invokestatic 196, 3) := by decide +kernel
theorem dX6_search_194 : decode cX6_search 194 = .ok (.ifCond .eq 25, 3) := by decide +kernel
theorem dX6_search_197 : decode cX6_search 197 = .ok (.aload_n 0, 1) := by decide +kernel
theorem dX6_search_198 : decode cX6_search 198 = .ok (.iload 8, 2) := by decide +kernel
theorem dX6_search_200 : decode cX6_search 200 = .ok (.putfield 203, 3) := by decide +kernel
theorem dX6_search_203 : decode cX6_search 203 = .ok (.aload_n 0, 1) := by decide +kernel
theorem dX6_search_204 : decode cX6_search 204 = .ok (.iload 7, 2) := by decide +kernel
theorem dX6_search_206 : decode cX6_search 206 = .ok (.putfield 186, 3) := by decide +kernel
theorem dX6_search_209 : decode cX6_search 209 = .ok (.aload_n 0, 1) := by decide +kernel
theorem dX6_search_210 : decode cX6_search 210 = .ok (.getfield 29, 3) := by decide +kernel
theorem dX6_search_213 : decode cX6_search 213 = .ok (.iload 7, 2) := by decide +kernel
theorem dX6_search_215 : decode cX6_search 215 = .ok (.iaload, 1) := by decide +kernel
theorem dX6_search_216 : decode cX6_search 216 = .ok (.iconst 1, 1) := by decide +kernel
theorem dX6_search_217 : decode cX6_search 217 = .ok (.iadd, 1) := by decide +kernel
theorem dX6_search_218 : decode cX6_search 218 = .ok (.ireturn, 1) := by decide +kernel
theorem dX6_search_219 : decode cX6_search 219 = .ok (.aload_n 0, 1) := by decide +kernel
theorem dX6_search_220 : decode cX6_search 220 = .ok (.getfield 35, 3) := by decide +kernel
theorem dX6_search_223 : decode cX6_search 223 = .ok (.invokestatic 189, 3) := by decide +kernel
theorem dX6_search_226 : decode cX6_search 226 = .ok (.istore 9, 2) := by decide +kernel
theorem dX6_search_228 : decode cX6_search 228 = .ok (.aload_n 0, 1) := by decide +kernel
theorem dX6_search_229 : decode cX6_search 229 = .ok (.aload_n 0, 1) := by decide +kernel
theorem dX6_search_230 : decode cX6_search 230 = .ok (.getfield 35, 3) := by decide +kernel
theorem dX6_search_233 : decode cX6_search 233 = .ok (.iload 9, 2) := by decide +kernel
theorem dX6_search_235 : decode cX6_search 235 = .ok (.invokevirtual 206, 3) := by decide +kernel
theorem dX6_search_238 : decode cX6_search 238 = .ok (.ifCond .eq 6, 3) := by decide +kernel
theorem dX6_search_241 : decode cX6_search 241 = .ok (.goto 30, 3) := by decide +kernel
theorem dX6_search_244 : decode cX6_search 244 = .ok (.aload_n 0, 1) := by decide +kernel
theorem dX6_search_245 : decode cX6_search 245 = .ok (.getfield 179, 3) := by decide +kernel
theorem dX6_search_248 : decode cX6_search 248 = .ok (.sipush 300, 3) := by decide +kernel
theorem dX6_search_251 : decode cX6_search 251 = .ok (.if_icmp .ne 6, 3) := by decide +kernel
theorem dX6_search_254 : decode cX6_search 254 = .ok (.bipush (-4), 2) := by decide +kernel
theorem dX6_search_256 : decode cX6_search 256 = .ok (.ireturn, 1) := by decide +kernel
theorem dX6_search_257 : decode cX6_search 257 = .ok (.aload_n 0, 1) := by decide +kernel
theorem dX6_search_258 : decode cX6_search 258 = .ok (.aload_n 0, 1) := by decide +kernel
theorem dX6_search_259 : decode cX6_search 259 = .ok (.getfield 35, 3) := by decide +kernel
theorem dX6_search_262 : decode cX6_search 262 = .ok (.iload 9, 2) := by decide +kernel
theorem dX6_search_264 : decode cX6_search 264 = .ok (.iload 7, 2) := by decide +kernel
theorem dX6_search_266 : decode cX6_search 266 = .ok (.iload 8, 2) := by decide +kernel
theorem dX6_search_268 : decode cX6_search 268 = .ok (.invokevirtual 192, 3) := by decide +kernel
theorem dX6_search_271 : decode cX6_search 271 = .ok (.iinc 8 1, 3) := by decide +kernel
theorem dX6_search_274 : decode cX6_search 274 = .ok (.goto (-208), 3) := by decide +kernel
theorem dX6_search_277 : decode cX6_search 277 = .ok (.iinc 7 1, 3) := by decide +kernel
theorem dX6_search_280 : decode cX6_search 280 = .ok (.goto (-241), 3) := by decide +kernel
theorem dX6_search_283 : decode cX6_search 283 = .ok (.iconst (-1), 1) := by decide +kernel
theorem dX6_search_284 : decode cX6_search 284 = .ok (.ireturn, 1) := by decide +kernel
theorem dX6_judge_0 : decode cX6_judge 0 = .ok (.aload_n 0, 1) := by decide +kernel
theorem dX6_judge_1 : decode cX6_judge 1 = .ok (.iconst 0, 1) := by decide +kernel
theorem dX6_judge_2 : decode cX6_judge 2 = .ok (.putfield 64, 3) := by decide +kernel
theorem dX6_judge_5 : decode cX6_judge 5 = .ok (.aload_n 0, 1) := by decide +kernel
theorem dX6_judge_6 : decode cX6_judge 6 = .ok (.iload_n 1, 1) := by decide +kernel
theorem dX6_judge_7 : decode cX6_judge 7 = .ok (.iload_n 2, 1) := by decide +kernel
theorem dX6_judge_8 : decode cX6_judge 8 = .ok (.iload_n 3, 1) := by decide +kernel
theorem dX6_judge_9 : decode cX6_judge 9 = .ok (.iload 4, 2) := by decide +kernel
theorem dX6_judge_11 : decode cX6_judge 11 = .ok (.iload 5, 2) := by decide +kernel
theorem dX6_judge_13 : decode cX6_judge 13 = .ok (.invokevirtual 209, 3) := by decide +kernel
theorem dX6_judge_16 : decode cX6_judge 16 = .ok (.ifCond .ne 6, 3) := by decide +kernel
theorem dX6_judge_19 : decode cX6_judge 19 = .ok (.bipush (-2), 2) := by decide +kernel
theorem dX6_judge_21 : decode cX6_judge 21 = .ok (.ireturn, 1) := by decide +kernel
theorem dX6_judge_22 : decode cX6_judge 22 = .ok (.aload_n 0, 1) := by decide +kernel
theorem dX6_judge_23 : decode cX6_judge 23 = .ok (.iconst 1, 1) := by decide +kernel
theorem dX6_judge_24 : decode cX6_judge 24 = .ok (.putfield 95, 3) := by decide +kernel
theorem dX6_judge_27 : decode cX6_judge 27 = .ok (.aload_n 0, 1) := by decide +kernel
theorem dX6_judge_28 : decode cX6_judge 28 = .ok (.getfield 9, 3) := by decide +kernel
theorem dX6_judge_31 : decode cX6_judge 31 = .ok (.iconst 0, 1) := by decide +kernel
theorem dX6_judge_32 : decode cX6_judge 32 = .ok (.aload_n 0, 1) := by decide +kernel
theorem dX6_judge_33 : decode cX6_judge 33 = .ok (.getfield 38, 3) := by decide +kernel
theorem dX6_judge_36 : decode cX6_judge 36 = .ok (.iconst 0, 1) := by decide +kernel
theorem dX6_judge_37 : decode cX6_judge 37 = .ok (.invokestatic 182, 3) := by decide +kernel
theorem dX6_judge_40 : decode cX6_judge 40 = .ok (.aload_n 0, 1) := by decide +kernel
theorem dX6_judge_41 : decode cX6_judge 41 = .ok (.aload_n 0, 1) := by decide +kernel
theorem dX6_judge_42 : decode cX6_judge 42 = .ok (.getfield 38, 3) := by decide +kernel
theorem dX6_judge_45 : decode cX6_judge 45 = .ok (.iload_n 1, 1) := by decide +kernel
theorem dX6_judge_46 : decode cX6_judge 46 = .ok (.iload_n 2, 1) := by decide +kernel
theorem dX6_judge_47 : decode cX6_judge 47 = .ok (.iload_n 3, 1) := by decide +kernel
theorem dX6_judge_48 : decode cX6_judge 48 = .ok (.iload 4, 2) := by decide +kernel
theorem dX6_judge_50 : decode cX6_judge 50 = .ok (.iload 5, 2) := by decide +kernel
theorem dX6_judge_52 : decode cX6_judge 52 = .ok (.invokevirtual 213, 3) := by decide +kernel
theorem dX6_judge_55 : decode cX6_judge 55 = .ok (.istore 6, 2) := by decide +kernel
theorem dX6_judge_57 : decode cX6_judge 57 = .ok (.aload_n 0, 1) := by decide +kernel
theorem dX6_judge_58 : decode cX6_judge 58 = .ok (.iconst 0, 1) := by decide +kernel
theorem dX6_judge_59 : decode cX6_judge 59 = .ok (.putfield 95, 3) := by decide +kernel
theorem dX6_judge_62 : decode cX6_judge 62 = .ok (.aload_n 0, 1) := by decide +kernel
theorem dX6_judge_63 : decode cX6_judge 63 = .ok (.aload_n 0, 1) := by decide +kernel
theorem dX6_judge_64 : decode cX6_judge 64 = .ok (.getfield 179, 3) := by decide +kernel
theorem dX6_judge_67 : decode cX6_judge 67 = .ok (.putfield 217, 3) := by decide +kernel
theorem dX6_judge_70 : decode cX6_judge 70 = .ok (.aload_n 0, 1) := by decide +kernel
theorem dX6_judge_71 : decode cX6_judge 71 = .ok (.iload 6, 2) := by decide +kernel
theorem dX6_judge_73 : decode cX6_judge 73 = .ok (.ifCond .le 8, 3) := by decide +kernel
theorem dX6_judge_76 : decode cX6_judge 76 = .ok (.iload 6, 2) := by decide +kernel
theorem dX6_judge_78 : decode cX6_judge 78 = .ok (.goto 4, 3) := by decide +kernel
theorem dX6_judge_81 : decode cX6_judge 81 = .ok (.iconst 0, 1) := by decide +kernel
theorem dX6_judge_82 : decode cX6_judge 82 = .ok (.putfield 220, 3) := by decide +kernel
theorem dX6_judge_85 : decode cX6_judge 85 = .ok (.iload 6, 2) := by decide +kernel
theorem dX6_judge_87 : decode cX6_judge 87 = .ok (.ifCond .le 62, 3) := by decide +kernel
theorem dX6_judge_90 : decode cX6_judge 90 = .ok (.aload_n 0, 1) := by decide +kernel
theorem dX6_judge_91 : decode cX6_judge 91 = .ok (.getfield 41, 3) := by decide +kernel
theorem dX6_judge_94 : decode cX6_judge 94 = .ok (.iload 6, 2) := by decide +kernel
theorem dX6_judge_96 : decode cX6_judge 96 = .ok (.iconst 1, 1) := by decide +kernel
theorem dX6_judge_97 : decode cX6_judge 97 = .ok (.isub, 1) := by decide +kernel
theorem dX6_judge_98 : decode cX6_judge 98 = .ok (.aload_n 0, 1) := by decide +kernel
theorem dX6_judge_99 : decode cX6_judge 99 = .ok (.getfield 203, 3) := by decide +kernel
theorem dX6_judge_102 : decode cX6_judge 102 = .ok (.iastore, 1) := by decide +kernel
theorem dX6_judge_103 : decode cX6_judge 103 = .ok (.aload_n 0, 1) := by decide +kernel
theorem dX6_judge_104 : decode cX6_judge 104 = .ok (.getfield 186, 3) := by decide +kernel
theorem dX6_judge_107 : decode cX6_judge 107 = .ok (.istore 7, 2) := by decide +kernel
theorem dX6_judge_109 : decode cX6_judge 109 = .ok (.iload 6, 2) := by decide +kernel
theorem dX6_judge_111 : decode cX6_judge 111 = .ok (.iconst 2, 1) := by decide +kernel
theorem dX6_judge_112 : decode cX6_judge 112 = .ok (.isub, 1) := by decide +kernel
theorem dX6_judge_113 : decode cX6_judge 113 = .ok (.istore 8, 2) := by decide +kernel
theorem dX6_judge_115 : decode cX6_judge 115 = .ok (.iload 8, 2) := by decide +kernel
theorem dX6_judge_117 : decode cX6_judge 117 = .ok (.ifCond .lt 32, 3) := by decide +kernel
theorem dX6_judge_120 : decode cX6_judge 120 = .ok (.aload_n 0, 1) := by decide +kernel
theorem dX6_judge_121 : decode cX6_judge 121 = .ok (.getfield 41, 3) := by decide +kernel
theorem dX6_judge_124 : decode cX6_judge 124 = .ok (.iload 8, 2) := by decide +kernel
theorem dX6_judge_126 : decode cX6_judge 126 = .ok (.aload_n 0, 1) := by decide +kernel
theorem dX6_judge_127 : decode cX6_judge 127 = .ok (.getfield 26, 3) := by decide +kernel
theorem dX6_judge_130 : decode cX6_judge 130 = .ok (.iload 7, 2) := by decide +kernel
theorem dX6_judge_132 : decode cX6_judge 132 = .ok (.iaload, 1) := by decide +kernel
theorem dX6_judge_133 : decode cX6_judge 133 = .ok (.iastore, 1) := by decide +kernel
theorem dX6_judge_134 : decode cX6_judge 134 = .ok (.aload_n 0, 1) := by decide +kernel
theorem dX6_judge_135 : decode cX6_judge 135 = .ok (.getfield 23, 3) := by decide +kernel
theorem dX6_judge_138 : decode cX6_judge 138 = .ok (.iload 7, 2) := by decide +kernel
theorem dX6_judge_140 : decode cX6_judge 140 = .ok (.iaload, 1) := by decide +kernel
theorem dX6_judge_141 : decode cX6_judge 141 = .ok (.istore 7, 2) := by decide +kernel
theorem dX6_judge_143 : decode cX6_judge 143 = .ok (.iinc 8 (-1), 3) := by decide +kernel
theorem dX6_judge_146 : decode cX6_judge 146 = .ok (.goto (-31), 3) := by decide +kernel
theorem dX6_judge_149 : decode cX6_judge 149 = .ok (.iload 6, 2) := by decide +kernel
theorem dX6_judge_151 : decode cX6_judge 151 = .ok (.ireturn, 1) := by decide +kernel
theorem dX6_found_0 : decode cX6_found 0 = .ok (.aload_n 0, 1) := by decide +kernel
theorem dX6_found_1 : decode cX6_found 1 = .ok (.iconst 0, 1) := by decide +kernel
theorem dX6_found_2 : decode cX6_found 2 = .ok (.putfield 64, 3) := by decide +kernel
theorem dX6_found_5 : decode cX6_found 5 = .ok (.iload_n 1, 1) := by decide +kernel
theorem dX6_found_6 : decode cX6_found 6 = .ok (.iconst 0, 1) := by decide +kernel
theorem dX6_found_7 : decode cX6_found 7 = .ok (.aload_n 0, 1) := by decide +kernel
theorem dX6_found_8 : decode cX6_found 8 = .ok (.getfield 220, 3) := by decide +kernel
theorem dX6_found_11 : decode cX6_found 11 = .ok (.iconst 1, 1) := by decide +kernel
theorem dX6_found_12 : decode cX6_found 12 = .ok (.isub, 1) := by decide +kernel
theorem dX6_found_13 : decode cX6_found 13 = .ok (.invokestatic 67, 3) := by decide +kernel
theorem dX6_found_16 : decode cX6_found 16 = .ok (.ifCond .eq 12, 3) := by decide +kernel
theorem dX6_found_19 : decode cX6_found 19 = .ok (.aload_n 0, 1) := by decide +kernel
theorem dX6_found_20 : decode cX6_found 20 = .ok (.getfield 41, 3) := by decide +kernel
theorem dX6_found_23 : decode cX6_found 23 = .ok (.iload_n 1, 1) := by decide +kernel
theorem dX6_found_24 : decode cX6_found 24 = .ok (.iaload, 1) := by decide +kernel
theorem dX6_found_25 : decode cX6_found 25 = .ok (.goto 4, 3) := by decide +kernel
theorem dX6_found_28 : decode cX6_found 28 = .ok (.iconst (-1), 1) := by decide +kernel
theorem dX6_found_29 : decode cX6_found 29 = .ok (.ireturn, 1) := by decide +kernel
theorem dX6_stops_0 : decode cX6_stops 0 = .ok (.aload_n 0, 1) := by decide +kernel
theorem dX6_stops_1 : decode cX6_stops 1 = .ok (.iconst 0, 1) := by decide +kernel
theorem dX6_stops_2 : decode cX6_stops 2 = .ok (.putfield 64, 3) := by decide +kernel
theorem dX6_stops_5 : decode cX6_stops 5 = .ok (.aload_n 0, 1) := by decide +kernel
theorem dX6_stops_6 : decode cX6_stops 6 = .ok (.iload_n 1, 1) := by decide +kernel
theorem dX6_stops_7 : decode cX6_stops 7 = .ok (.iload_n 2, 1) := by decide +kernel
theorem dX6_stops_8 : decode cX6_stops 8 = .ok (.iload_n 3, 1) := by decide +kernel
theorem dX6_stops_9 : decode cX6_stops 9 = .ok (.iload 4, 2) := by decide +kernel
theorem dX6_stops_11 : decode cX6_stops 11 = .ok (.iload 5, 2) := by decide +kernel
theorem dX6_stops_13 : decode cX6_stops 13 = .ok (.invokevirtual 209, 3) := by decide +kernel
theorem dX6_stops_16 : decode cX6_stops 16 = .ok (.ifCond .ne 6, 3) := by decide +kernel
theorem dX6_stops_19 : decode cX6_stops 19 = .ok (.bipush (-2), 2) := by decide +kernel
theorem dX6_stops_21 : decode cX6_stops 21 = .ok (.ireturn, 1) := by decide +kernel
theorem dX6_stops_22 : decode cX6_stops 22 = .ok (.iconst 0, 1) := by decide +kernel
theorem dX6_stops_23 : decode cX6_stops 23 = .ok (.istore 6, 2) := by decide +kernel
theorem dX6_stops_25 : decode cX6_stops 25 = .ok (.iconst 0, 1) := by decide +kernel
theorem dX6_stops_26 : decode cX6_stops 26 = .ok (.istore 7, 2) := by decide +kernel
theorem dX6_stops_28 : decode cX6_stops 28 = .ok (.aload_n 0, 1) := by decide +kernel
theorem dX6_stops_29 : decode cX6_stops 29 = .ok (.iconst 1, 1) := by decide +kernel
theorem dX6_stops_30 : decode cX6_stops 30 = .ok (.putfield 95, 3) := by decide +kernel
theorem dX6_stops_33 : decode cX6_stops 33 = .ok (.iconst 0, 1) := by decide +kernel
theorem dX6_stops_34 : decode cX6_stops 34 = .ok (.istore 8, 2) := by decide +kernel
theorem dX6_stops_36 : decode cX6_stops 36 = .ok (.iload 8, 2) := by decide +kernel
theorem dX6_stops_38 : decode cX6_stops 38 = .ok (.bipush 8, 2) := by decide +kernel
theorem dX6_stops_40 : decode cX6_stops 40 = .ok (.if_icmp .ge 105, 3) := by decide +kernel
theorem dX6_stops_43 : decode cX6_stops 43 = .ok (.aload_n 0, 1) := by decide +kernel
theorem dX6_stops_44 : decode cX6_stops 44 = .ok (.getfield 9, 3) := by decide +kernel
theorem dX6_stops_47 : decode cX6_stops 47 = .ok (.iload 8, 2) := by decide +kernel
theorem dX6_stops_49 : decode cX6_stops 49 = .ok (.invokestatic 118, 3) := by decide +kernel
theorem dX6_stops_52 : decode cX6_stops 52 = .ok (.ifCond .eq 6, 3) := by decide +kernel
theorem dX6_stops_55 : decode cX6_stops 55 = .ok (.goto 84, 3) := by decide +kernel
theorem dX6_stops_58 : decode cX6_stops 58 = .ok (.aload_n 0, 1) := by decide +kernel
theorem dX6_stops_59 : decode cX6_stops 59 = .ok (.getfield 9, 3) := by decide +kernel
theorem dX6_stops_62 : decode cX6_stops 62 = .ok (.iconst 0, 1) := by decide +kernel
theorem dX6_stops_63 : decode cX6_stops 63 = .ok (.aload_n 0, 1) := by decide +kernel
theorem dX6_stops_64 : decode cX6_stops 64 = .ok (.getfield 38, 3) := by decide +kernel
theorem dX6_stops_67 : decode cX6_stops 67 = .ok (.iconst 0, 1) := by decide +kernel
theorem dX6_stops_68 : decode cX6_stops 68 = .ok (.invokestatic 182, 3) := by decide +kernel
theorem dX6_stops_71 : decode cX6_stops 71 = .ok (.aload_n 0, 1) := by decide +kernel
theorem dX6_stops_72 : decode cX6_stops 72 = .ok (.getfield 38, 3) := by decide +kernel
theorem dX6_stops_75 : decode cX6_stops 75 = .ok (.iconst 3, 1) := by decide +kernel
theorem dX6_stops_76 : decode cX6_stops 76 = .ok (.dup2, 1) := by decide +kernel
theorem dX6_stops_77 : decode cX6_stops 77 = .ok (.iaload, 1) := by decide +kernel
theorem dX6_stops_78 : decode cX6_stops 78 = .ok (.iconst 1, 1) := by decide +kernel
theorem dX6_stops_79 : decode cX6_stops 79 = .ok (.iload 8, 2) := by decide +kernel
theorem dX6_stops_81 : decode cX6_stops 81 = .ok (.ishl, 1) := by decide +kernel
theorem dX6_stops_82 : decode cX6_stops 82 = .ok (.ior, 1) := by decide +kernel
theorem dX6_stops_83 : decode cX6_stops 83 = .ok (.iastore, 1) := by decide +kernel
theorem dX6_stops_84 : decode cX6_stops 84 = .ok (.aload_n 0, 1) := by decide +kernel
theorem dX6_stops_85 : decode cX6_stops 85 = .ok (.aload_n 0, 1) := by decide +kernel
theorem dX6_stops_86 : decode cX6_stops 86 = .ok (.getfield 38, 3) := by decide +kernel
theorem dX6_stops_89 : decode cX6_stops 89 = .ok (.iload_n 1, 1) := by decide +kernel
theorem dX6_stops_90 : decode cX6_stops 90 = .ok (.iload_n 2, 1) := by decide +kernel
theorem dX6_stops_91 : decode cX6_stops 91 = .ok (.iload_n 3, 1) := by decide +kernel
theorem dX6_stops_92 : decode cX6_stops 92 = .ok (.iload 4, 2) := by decide +kernel
theorem dX6_stops_94 : decode cX6_stops 94 = .ok (.iload 5, 2) := by decide +kernel
theorem dX6_stops_96 : decode cX6_stops 96 = .ok (.invokevirtual 213, 3) := by decide +kernel
theorem dX6_stops_99 : decode cX6_stops 99 = .ok (.istore 9, 2) := by decide +kernel
theorem dX6_stops_101 : decode cX6_stops 101 = .ok (.iload 7, 2) := by decide +kernel
theorem dX6_stops_103 : decode cX6_stops 103 = .ok (.ifCond .ne 10, 3) := by decide +kernel
theorem dX6_stops_106 : decode cX6_stops 106 = .ok (.iload 9, 2) := by decide +kernel
theorem dX6_stops_108 : decode cX6_stops 108 = .ok (.bipush (-4), 2) := by decide +kernel
theorem dX6_stops_110 : decode cX6_stops 110 = .ok (.if_icmp .ne 7, 3) := by decide +kernel
theorem dX6_stops_113 : decode cX6_stops 113 = .ok (.iconst 1, 1) := by decide +kernel
theorem dX6_stops_114 : decode cX6_stops 114 = .ok (.goto 4, 3) := by decide +kernel
theorem dX6_stops_117 : decode cX6_stops 117 = .ok (.iconst 0, 1) := by decide +kernel
theorem dX6_stops_118 : decode cX6_stops 118 = .ok (.istore 7, 2) := by decide +kernel
theorem dX6_stops_120 : decode cX6_stops 120 = .ok (.iload 6, 2) := by decide +kernel
theorem dX6_stops_122 : decode cX6_stops 122 = .ok (.iload 9, 2) := by decide +kernel
theorem dX6_stops_124 : decode cX6_stops 124 = .ok (.iconst (-1), 1) := by decide +kernel
theorem dX6_stops_125 : decode cX6_stops 125 = .ok (.if_icmp .ne 10, 3) := by decide +kernel
theorem dX6_stops_128 : decode cX6_stops 128 = .ok (.iconst 1, 1) := by decide +kernel
theorem dX6_stops_129 : decode cX6_stops 129 = .ok (.iload 8, 2) := by decide +kernel
theorem dX6_stops_131 : decode cX6_stops 131 = .ok (.ishl, 1) := by decide +kernel
theorem dX6_stops_132 : decode cX6_stops 132 = .ok (.goto 4, 3) := by decide +kernel
theorem dX6_stops_135 : decode cX6_stops 135 = .ok (.iconst 0, 1) := by decide +kernel
theorem dX6_stops_136 : decode cX6_stops 136 = .ok (.ior, 1) := by decide +kernel
theorem dX6_stops_137 : decode cX6_stops 137 = .ok (.istore 6, 2) := by decide +kernel
theorem dX6_stops_139 : decode cX6_stops 139 = .ok (.iinc 8 1, 3) := by decide +kernel
theorem dX6_stops_142 : decode cX6_stops 142 = .ok (.goto (-106), 3) := by decide +kernel
theorem dX6_stops_145 : decode cX6_stops 145 = .ok (.aload_n 0, 1) := by decide +kernel
theorem dX6_stops_146 : decode cX6_stops 146 = .ok (.iconst 0, 1) := by decide +kernel
theorem dX6_stops_147 : decode cX6_stops 147 = .ok (.putfield 95, 3) := by decide +kernel
theorem dX6_stops_150 : decode cX6_stops 150 = .ok (.iload 7, 2) := by decide +kernel
theorem dX6_stops_152 : decode cX6_stops 152 = .ok (.ifCond .eq 8, 3) := by decide +kernel
theorem dX6_stops_155 : decode cX6_stops 155 = .ok (.bipush (-4), 2) := by decide +kernel
theorem dX6_stops_157 : decode cX6_stops 157 = .ok (.goto 5, 3) := by decide +kernel
theorem dX6_stops_160 : decode cX6_stops 160 = .ok (.iload 6, 2) := by decide +kernel
theorem dX6_stops_162 : decode cX6_stops 162 = .ok (.ireturn, 1) := by decide +kernel
theorem dX6_longest_0 : decode cX6_longest 0 = .ok (.aload_n 0, 1) := by decide +kernel
theorem dX6_longest_1 : decode cX6_longest 1 = .ok (.iconst 0, 1) := by decide +kernel
theorem dX6_longest_2 : decode cX6_longest 2 = .ok (.putfield 64, 3) := by decide +kernel
theorem dX6_longest_5 : decode cX6_longest 5 = .ok (.aload_n 0, 1) := by decide +kernel
theorem dX6_longest_6 : decode cX6_longest 6 = .ok (.iload_n 1, 1) := by decide +kernel
theorem dX6_longest_7 : decode cX6_longest 7 = .ok (.invokevirtual 162, 3) := by decide +kernel
theorem dX6_longest_10 : decode cX6_longest 10 = .ok (.ifCond .eq 21, 3) := by decide +kernel
theorem dX6_longest_13 : decode cX6_longest 13 = .ok (.aload_n 0, 1) := by decide +kernel
theorem dX6_longest_14 : decode cX6_longest 14 = .ok (.iload_n 2, 1) := by decide +kernel
theorem dX6_longest_15 : decode cX6_longest 15 = .ok (.invokevirtual 78, 3) := by decide +kernel
theorem dX6_longest_18 : decode cX6_longest 18 = .ok (.ifCond .eq 13, 3) := by decide +kernel
theorem dX6_longest_21 : decode cX6_longest 21 = .ok (.iload_n 3, 1) := by decide +kernel
theorem dX6_longest_22 : decode cX6_longest 22 = .ok (.iconst 0, 1) := by decide +kernel
theorem dX6_longest_23 : decode cX6_longest 23 = .ok (.bipush 7, 2) := by decide +kernel
theorem dX6_longest_25 : decode cX6_longest 25 = .ok (.invokestatic 67, 3) := by decide +kernel
theorem dX6_longest_28 : decode cX6_longest 28 = .ok (.ifCond .ne 6, 3) := by decide +kernel
theorem dX6_longest_31 : decode cX6_longest 31 = .ok (.bipush (-2), 2) := by decide +kernel
theorem dX6_longest_33 : decode cX6_longest 33 = .ok (.ireturn, 1) := by decide +kernel
theorem dX6_longest_34 : decode cX6_longest 34 = .ok (.aload_n 0, 1) := by decide +kernel
theorem dX6_longest_35 : decode cX6_longest 35 = .ok (.iconst 1, 1) := by decide +kernel
theorem dX6_longest_36 : decode cX6_longest 36 = .ok (.putfield 95, 3) := by decide +kernel
theorem dX6_longest_39 : decode cX6_longest 39 = .ok (.aload_n 0, 1) := by decide +kernel
theorem dX6_longest_40 : decode cX6_longest 40 = .ok (.getfield 9, 3) := by decide +kernel
theorem dX6_longest_43 : decode cX6_longest 43 = .ok (.iconst 0, 1) := by decide +kernel
theorem dX6_longest_44 : decode cX6_longest 44 = .ok (.aload_n 0, 1) := by decide +kernel
theorem dX6_longest_45 : decode cX6_longest 45 = .ok (.getfield 32, 3) := by decide +kernel
theorem dX6_longest_48 : decode cX6_longest 48 = .ok (.iconst 0, 1) := by decide +kernel
theorem dX6_longest_49 : decode cX6_longest 49 = .ok (.invokestatic 182, 3) := by decide +kernel
theorem dX6_longest_52 : decode cX6_longest 52 = .ok (.iconst (-1), 1) := by decide +kernel
theorem dX6_longest_53 : decode cX6_longest 53 = .ok (.istore 4, 2) := by decide +kernel
theorem dX6_longest_55 : decode cX6_longest 55 = .ok (.iconst 0, 1) := by decide +kernel
theorem dX6_longest_56 : decode cX6_longest 56 = .ok (.istore 5, 2) := by decide +kernel
theorem dX6_longest_58 : decode cX6_longest 58 = .ok (.iload 5, 2) := by decide +kernel
theorem dX6_longest_60 : decode cX6_longest 60 = .ok (.sipush 1100, 3) := by decide +kernel
theorem dX6_longest_63 : decode cX6_longest 63 = .ok (.if_icmp .gt 34, 3) := by decide +kernel
theorem dX6_longest_66 : decode cX6_longest 66 = .ok (.aload_n 0, 1) := by decide +kernel
theorem dX6_longest_67 : decode cX6_longest 67 = .ok (.getfield 32, 3) := by decide +kernel
theorem dX6_longest_70 : decode cX6_longest 70 = .ok (.iload_n 2, 1) := by decide +kernel
theorem dX6_longest_71 : decode cX6_longest 71 = .ok (.iload_n 1, 1) := by decide +kernel
theorem dX6_longest_72 : decode cX6_longest 72 = .ok (.iload_n 3, 1) := by decide +kernel
theorem dX6_longest_73 : decode cX6_longest 73 = .ok (.invokestatic 121, 3) := by decide +kernel
theorem dX6_longest_76 : decode cX6_longest 76 = .ok (.ifCond .ne 7, 3) := by decide +kernel
theorem dX6_longest_79 : decode cX6_longest 79 = .ok (.iload 5, 2) := by decide +kernel
theorem dX6_longest_81 : decode cX6_longest 81 = .ok (.istore 4, 2) := by decide +kernel
theorem dX6_longest_83 : decode cX6_longest 83 = .ok (.aload_n 0, 1) := by decide +kernel
theorem dX6_longest_84 : decode cX6_longest 84 = .ok (.aload_n 0, 1) := by decide +kernel
theorem dX6_longest_85 : decode cX6_longest 85 = .ok (.getfield 32, 3) := by decide +kernel
theorem dX6_longest_88 : decode cX6_longest 88 = .ok (.invokevirtual 172, 3) := by decide +kernel
theorem dX6_longest_91 : decode cX6_longest 91 = .ok (.iinc 5 1, 3) := by decide +kernel
theorem dX6_longest_94 : decode cX6_longest 94 = .ok (.goto (-36), 3) := by decide +kernel
theorem dX6_longest_97 : decode cX6_longest 97 = .ok (.aload_n 0, 1) := by decide +kernel
theorem dX6_longest_98 : decode cX6_longest 98 = .ok (.iconst 0, 1) := by decide +kernel
theorem dX6_longest_99 : decode cX6_longest 99 = .ok (.putfield 95, 3) := by decide +kernel
theorem dX6_longest_102 : decode cX6_longest 102 = .ok (.iload 4, 2) := by decide +kernel
theorem dX6_longest_104 : decode cX6_longest 104 = .ok (.ireturn, 1) := by decide +kernel
theorem dX6_note__0 : decode cX6_note_ 0 = .ok (.aload_n 0, 1) := by decide +kernel
theorem dX6_note__1 : decode cX6_note_ 1 = .ok (.iconst 0, 1) := by decide +kernel
theorem dX6_note__2 : decode cX6_note_ 2 = .ok (.putfield 64, 3) := by decide +kernel
theorem dX6_note__5 : decode cX6_note_ 5 = .ok (.aload_n 0, 1) := by decide +kernel
theorem dX6_note__6 : decode cX6_note_ 6 = .ok (.iload_n 1, 1) := by decide +kernel
theorem dX6_note__7 : decode cX6_note_ 7 = .ok (.invokevirtual 162, 3) := by decide +kernel
theorem dX6_note__10 : decode cX6_note_ 10 = .ok (.ifCond .eq 27, 3) := by decide +kernel
theorem dX6_note__13 : decode cX6_note_ 13 = .ok (.iload_n 2, 1) := by decide +kernel
theorem dX6_note__14 : decode cX6_note_ 14 = .ok (.iconst 0, 1) := by decide +kernel
theorem dX6_note__15 : decode cX6_note_ 15 = .ok (.bipush 10, 2) := by decide +kernel
theorem dX6_note__17 : decode cX6_note_ 17 = .ok (.invokestatic 67, 3) := by decide +kernel
theorem dX6_note__20 : decode cX6_note_ 20 = .ok (.ifCond .eq 17, 3) := by decide +kernel
theorem dX6_note__23 : decode cX6_note_ 23 = .ok (.aload_n 0, 1) := by decide +kernel
theorem dX6_note__24 : decode cX6_note_ 24 = .ok (.getfield 9, 3) := by decide +kernel
theorem dX6_note__27 : decode cX6_note_ 27 = .ok (.iload_n 1, 1) := by decide +kernel
theorem dX6_note__28 : decode cX6_note_ 28 = .ok (.invokestatic 71, 3) := by decide +kernel
theorem dX6_note__31 : decode cX6_note_ 31 = .ok (.iload_n 2, 1) := by decide +kernel
theorem dX6_note__32 : decode cX6_note_ 32 = .ok (.iadd, 1) := by decide +kernel
theorem dX6_note__33 : decode cX6_note_ 33 = .ok (.iaload, 1) := by decide +kernel
theorem dX6_note__34 : decode cX6_note_ 34 = .ok (.goto 5, 3) := by decide +kernel
theorem dX6_note__37 : decode cX6_note_ 37 = .ok (.bipush (-2), 2) := by decide +kernel
theorem dX6_note__39 : decode cX6_note_ 39 = .ok (.ireturn, 1) := by decide +kernel
theorem dX6_letter__0 : decode cX6_letter_ 0 = .ok (.aload_n 0, 1) := by decide +kernel
theorem dX6_letter__1 : decode cX6_letter_ 1 = .ok (.iconst 0, 1) := by decide +kernel
theorem dX6_letter__2 : decode cX6_letter_ 2 = .ok (.putfield 64, 3) := by decide +kernel
theorem dX6_letter__5 : decode cX6_letter_ 5 = .ok (.iload_n 1, 1) := by decide +kernel
theorem dX6_letter__6 : decode cX6_letter_ 6 = .ok (.iconst 0, 1) := by decide +kernel
theorem dX6_letter__7 : decode cX6_letter_ 7 = .ok (.aload_n 0, 1) := by decide +kernel
theorem dX6_letter__8 : decode cX6_letter_ 8 = .ok (.getfield 9, 3) := by decide +kernel
theorem dX6_letter__11 : decode cX6_letter_ 11 = .ok (.bipush 14, 2) := by decide +kernel
theorem dX6_letter__13 : decode cX6_letter_ 13 = .ok (.iaload, 1) := by decide +kernel
theorem dX6_letter__14 : decode cX6_letter_ 14 = .ok (.iconst 1, 1) := by decide +kernel
theorem dX6_letter__15 : decode cX6_letter_ 15 = .ok (.isub, 1) := by decide +kernel
theorem dX6_letter__16 : decode cX6_letter_ 16 = .ok (.invokestatic 67, 3) := by decide +kernel
theorem dX6_letter__19 : decode cX6_letter_ 19 = .ok (.ifCond .eq 27, 3) := by decide +kernel
theorem dX6_letter__22 : decode cX6_letter_ 22 = .ok (.iload_n 2, 1) := by decide +kernel
theorem dX6_letter__23 : decode cX6_letter_ 23 = .ok (.iconst 0, 1) := by decide +kernel
theorem dX6_letter__24 : decode cX6_letter_ 24 = .ok (.bipush 6, 2) := by decide +kernel
theorem dX6_letter__26 : decode cX6_letter_ 26 = .ok (.invokestatic 67, 3) := by decide +kernel
theorem dX6_letter__29 : decode cX6_letter_ 29 = .ok (.ifCond .eq 17, 3) := by decide +kernel
theorem dX6_letter__32 : decode cX6_letter_ 32 = .ok (.aload_n 0, 1) := by decide +kernel
theorem dX6_letter__33 : decode cX6_letter_ 33 = .ok (.getfield 9, 3) := by decide +kernel
theorem dX6_letter__36 : decode cX6_letter_ 36 = .ok (.iload_n 1, 1) := by decide +kernel
theorem dX6_letter__37 : decode cX6_letter_ 37 = .ok (.invokestatic 99, 3) := by decide +kernel
theorem dX6_letter__40 : decode cX6_letter_ 40 = .ok (.iload_n 2, 1) := by decide +kernel
theorem dX6_letter__41 : decode cX6_letter_ 41 = .ok (.iadd, 1) := by decide +kernel
theorem dX6_letter__42 : decode cX6_letter_ 42 = .ok (.iaload, 1) := by decide +kernel
theorem dX6_letter__43 : decode cX6_letter_ 43 = .ok (.goto 5, 3) := by decide +kernel
theorem dX6_letter__46 : decode cX6_letter_ 46 = .ok (.bipush (-2), 2) := by decide +kernel
theorem dX6_letter__48 : decode cX6_letter_ 48 = .ok (.ireturn, 1) := by decide +kernel
theorem dX6_family__0 : decode cX6_family_ 0 = .ok (.aload_n 0, 1) := by decide +kernel
theorem dX6_family__1 : decode cX6_family_ 1 = .ok (.iconst 0, 1) := by decide +kernel
theorem dX6_family__2 : decode cX6_family_ 2 = .ok (.putfield 64, 3) := by decide +kernel
theorem dX6_family__5 : decode cX6_family_ 5 = .ok (.iload_n 1, 1) := by decide +kernel
theorem dX6_family__6 : decode cX6_family_ 6 = .ok (.iconst 0, 1) := by decide +kernel
theorem dX6_family__7 : decode cX6_family_ 7 = .ok (.aload_n 0, 1) := by decide +kernel
theorem dX6_family__8 : decode cX6_family_ 8 = .ok (.getfield 9, 3) := by decide +kernel
theorem dX6_family__11 : decode cX6_family_ 11 = .ok (.bipush 13, 2) := by decide +kernel
theorem dX6_family__13 : decode cX6_family_ 13 = .ok (.iaload, 1) := by decide +kernel
theorem dX6_family__14 : decode cX6_family_ 14 = .ok (.iconst 1, 1) := by decide +kernel
theorem dX6_family__15 : decode cX6_family_ 15 = .ok (.isub, 1) := by decide +kernel
theorem dX6_family__16 : decode cX6_family_ 16 = .ok (.invokestatic 67, 3) := by decide +kernel
theorem dX6_family__19 : decode cX6_family_ 19 = .ok (.ifCond .eq 26, 3) := by decide +kernel
theorem dX6_family__22 : decode cX6_family_ 22 = .ok (.iload_n 2, 1) := by decide +kernel
theorem dX6_family__23 : decode cX6_family_ 23 = .ok (.iconst 0, 1) := by decide +kernel
theorem dX6_family__24 : decode cX6_family_ 24 = .ok (.iconst 1, 1) := by decide +kernel
theorem dX6_family__25 : decode cX6_family_ 25 = .ok (.invokestatic 67, 3) := by decide +kernel
theorem dX6_family__28 : decode cX6_family_ 28 = .ok (.ifCond .eq 17, 3) := by decide +kernel
theorem dX6_family__31 : decode cX6_family_ 31 = .ok (.aload_n 0, 1) := by decide +kernel
theorem dX6_family__32 : decode cX6_family_ 32 = .ok (.getfield 9, 3) := by decide +kernel
theorem dX6_family__35 : decode cX6_family_ 35 = .ok (.iload_n 1, 1) := by decide +kernel
theorem dX6_family__36 : decode cX6_family_ 36 = .ok (.invokestatic 85, 3) := by decide +kernel
theorem dX6_family__39 : decode cX6_family_ 39 = .ok (.iload_n 2, 1) := by decide +kernel
theorem dX6_family__40 : decode cX6_family_ 40 = .ok (.iadd, 1) := by decide +kernel
theorem dX6_family__41 : decode cX6_family_ 41 = .ok (.iaload, 1) := by decide +kernel
theorem dX6_family__42 : decode cX6_family_ 42 = .ok (.goto 5, 3) := by decide +kernel
theorem dX6_family__45 : decode cX6_family_ 45 = .ok (.bipush (-2), 2) := by decide +kernel
theorem dX6_family__47 : decode cX6_family_ 47 = .ok (.ireturn, 1) := by decide +kernel
theorem dX6_houseOf_0 : decode cX6_houseOf 0 = .ok (.aload_n 0, 1) := by decide +kernel
theorem dX6_houseOf_1 : decode cX6_houseOf 1 = .ok (.iconst 0, 1) := by decide +kernel
theorem dX6_houseOf_2 : decode cX6_houseOf 2 = .ok (.putfield 64, 3) := by decide +kernel
theorem dX6_houseOf_5 : decode cX6_houseOf 5 = .ok (.aload_n 0, 1) := by decide +kernel
theorem dX6_houseOf_6 : decode cX6_houseOf 6 = .ok (.iload_n 1, 1) := by decide +kernel
theorem dX6_houseOf_7 : decode cX6_houseOf 7 = .ok (.invokevirtual 78, 3) := by decide +kernel
theorem dX6_houseOf_10 : decode cX6_houseOf 10 = .ok (.ifCond .ne 6, 3) := by decide +kernel
theorem dX6_houseOf_13 : decode cX6_houseOf 13 = .ok (.bipush (-100), 2) := by decide +kernel
theorem dX6_houseOf_15 : decode cX6_houseOf 15 = .ok (.ireturn, 1) := by decide +kernel
theorem dX6_houseOf_16 : decode cX6_houseOf 16 = .ok (.iload_n 1, 1) := by decide +kernel
theorem dX6_houseOf_17 : decode cX6_houseOf 17 = .ok (.invokestatic 75, 3) := by decide +kernel
theorem dX6_houseOf_20 : decode cX6_houseOf 20 = .ok (.istore_n 3, 1) := by decide +kernel
theorem dX6_houseOf_21 : decode cX6_houseOf 21 = .ok (.iload_n 2, 1) := by decide +kernel
theorem dX6_houseOf_22 : decode cX6_houseOf 22 = .ok (.tableswitch 126 0 7 #[46, 55, 64, 73, 82, 91, 100, 110], 46) := by decide +kernel
theorem dX6_houseOf_68 : decode cX6_houseOf 68 = .ok (.aload_n 0, 1) := by decide +kernel
theorem dX6_houseOf_69 : decode cX6_houseOf 69 = .ok (.getfield 9, 3) := by decide +kernel
theorem dX6_houseOf_72 : decode cX6_houseOf 72 = .ok (.iload_n 3, 1) := by decide +kernel
theorem dX6_houseOf_73 : decode cX6_houseOf 73 = .ok (.iconst 3, 1) := by decide +kernel
theorem dX6_houseOf_74 : decode cX6_houseOf 74 = .ok (.iadd, 1) := by decide +kernel
theorem dX6_houseOf_75 : decode cX6_houseOf 75 = .ok (.iaload, 1) := by decide +kernel
theorem dX6_houseOf_76 : decode cX6_houseOf 76 = .ok (.ireturn, 1) := by decide +kernel
theorem dX6_houseOf_77 : decode cX6_houseOf 77 = .ok (.aload_n 0, 1) := by decide +kernel
theorem dX6_houseOf_78 : decode cX6_houseOf 78 = .ok (.getfield 9, 3) := by decide +kernel
theorem dX6_houseOf_81 : decode cX6_houseOf 81 = .ok (.iload_n 3, 1) := by decide +kernel
theorem dX6_houseOf_82 : decode cX6_houseOf 82 = .ok (.iconst 0, 1) := by decide +kernel
theorem dX6_houseOf_83 : decode cX6_houseOf 83 = .ok (.iadd, 1) := by decide +kernel
theorem dX6_houseOf_84 : decode cX6_houseOf 84 = .ok (.iaload, 1) := by decide +kernel
theorem dX6_houseOf_85 : decode cX6_houseOf 85 = .ok (.ireturn, 1) := by decide +kernel
theorem dX6_houseOf_86 : decode cX6_houseOf 86 = .ok (.aload_n 0, 1) := by decide +kernel
theorem dX6_houseOf_87 : decode cX6_houseOf 87 = .ok (.getfield 9, 3) := by decide +kernel
theorem dX6_houseOf_90 : decode cX6_houseOf 90 = .ok (.iload_n 3, 1) := by decide +kernel
theorem dX6_houseOf_91 : decode cX6_houseOf 91 = .ok (.iconst 1, 1) := by decide +kernel
theorem dX6_houseOf_92 : decode cX6_houseOf 92 = .ok (.iadd, 1) := by decide +kernel
theorem dX6_houseOf_93 : decode cX6_houseOf 93 = .ok (.iaload, 1) := by decide +kernel
theorem dX6_houseOf_94 : decode cX6_houseOf 94 = .ok (.ireturn, 1) := by decide +kernel
theorem dX6_houseOf_95 : decode cX6_houseOf 95 = .ok (.aload_n 0, 1) := by decide +kernel
theorem dX6_houseOf_96 : decode cX6_houseOf 96 = .ok (.getfield 9, 3) := by decide +kernel
theorem dX6_houseOf_99 : decode cX6_houseOf 99 = .ok (.iload_n 3, 1) := by decide +kernel
theorem dX6_houseOf_100 : decode cX6_houseOf 100 = .ok (.iconst 2, 1) := by decide +kernel
theorem dX6_houseOf_101 : decode cX6_houseOf 101 = .ok (.iadd, 1) := by decide +kernel
theorem dX6_houseOf_102 : decode cX6_houseOf 102 = .ok (.iaload, 1) := by decide +kernel
theorem dX6_houseOf_103 : decode cX6_houseOf 103 = .ok (.ireturn, 1) := by decide +kernel
theorem dX6_houseOf_104 : decode cX6_houseOf 104 = .ok (.aload_n 0, 1) := by decide +kernel
theorem dX6_houseOf_105 : decode cX6_houseOf 105 = .ok (.getfield 9, 3) := by decide +kernel
theorem dX6_houseOf_108 : decode cX6_houseOf 108 = .ok (.iload_n 3, 1) := by decide +kernel
theorem dX6_houseOf_109 : decode cX6_houseOf 109 = .ok (.iconst 4, 1) := by decide +kernel
theorem dX6_houseOf_110 : decode cX6_houseOf 110 = .ok (.iadd, 1) := by decide +kernel
theorem dX6_houseOf_111 : decode cX6_houseOf 111 = .ok (.iaload, 1) := by decide +kernel
theorem dX6_houseOf_112 : decode cX6_houseOf 112 = .ok (.ireturn, 1) := by decide +kernel
theorem dX6_houseOf_113 : decode cX6_houseOf 113 = .ok (.aload_n 0, 1) := by decide +kernel
theorem dX6_houseOf_114 : decode cX6_houseOf 114 = .ok (.getfield 9, 3) := by decide +kernel
theorem dX6_houseOf_117 : decode cX6_houseOf 117 = .ok (.iload_n 3, 1) := by decide +kernel
theorem dX6_houseOf_118 : decode cX6_houseOf 118 = .ok (.iconst 5, 1) := by decide +kernel
theorem dX6_houseOf_119 : decode cX6_houseOf 119 = .ok (.iadd, 1) := by decide +kernel
theorem dX6_houseOf_120 : decode cX6_houseOf 120 = .ok (.iaload, 1) := by decide +kernel
theorem dX6_houseOf_121 : decode cX6_houseOf 121 = .ok (.ireturn, 1) := by decide +kernel
theorem dX6_houseOf_122 : decode cX6_houseOf 122 = .ok (.aload_n 0, 1) := by decide +kernel
theorem dX6_houseOf_123 : decode cX6_houseOf 123 = .ok (.getfield 9, 3) := by decide +kernel
theorem dX6_houseOf_126 : decode cX6_houseOf 126 = .ok (.iload_n 3, 1) := by decide +kernel
theorem dX6_houseOf_127 : decode cX6_houseOf 127 = .ok (.bipush 6, 2) := by decide +kernel
theorem dX6_houseOf_129 : decode cX6_houseOf 129 = .ok (.iadd, 1) := by decide +kernel
theorem dX6_houseOf_130 : decode cX6_houseOf 130 = .ok (.iaload, 1) := by decide +kernel
theorem dX6_houseOf_131 : decode cX6_houseOf 131 = .ok (.ireturn, 1) := by decide +kernel
theorem dX6_houseOf_132 : decode cX6_houseOf 132 = .ok (.aload_n 0, 1) := by decide +kernel
theorem dX6_houseOf_133 : decode cX6_houseOf 133 = .ok (.getfield 9, 3) := by decide +kernel
theorem dX6_houseOf_136 : decode cX6_houseOf 136 = .ok (.iconst 0, 1) := by decide +kernel
theorem dX6_houseOf_137 : decode cX6_houseOf 137 = .ok (.iaload, 1) := by decide +kernel
theorem dX6_houseOf_138 : decode cX6_houseOf 138 = .ok (.aload_n 0, 1) := by decide +kernel
theorem dX6_houseOf_139 : decode cX6_houseOf 139 = .ok (.getfield 9, 3) := by decide +kernel
theorem dX6_houseOf_142 : decode cX6_houseOf 142 = .ok (.iload_n 3, 1) := by decide +kernel
theorem dX6_houseOf_143 : decode cX6_houseOf 143 = .ok (.iconst 0, 1) := by decide +kernel
theorem dX6_houseOf_144 : decode cX6_houseOf 144 = .ok (.iadd, 1) := by decide +kernel
theorem dX6_houseOf_145 : decode cX6_houseOf 145 = .ok (.iaload, 1) := by decide +kernel
theorem dX6_houseOf_146 : decode cX6_houseOf 146 = .ok (.iadd, 1) := by decide +kernel
theorem dX6_houseOf_147 : decode cX6_houseOf 147 = .ok (.ireturn, 1) := by decide +kernel
theorem dX6_houseOf_148 : decode cX6_houseOf 148 = .ok (.bipush (-100), 2) := by decide +kernel
theorem dX6_houseOf_150 : decode cX6_houseOf 150 = .ok (.ireturn, 1) := by decide +kernel
theorem dX6_browser__0 : decode cX6_browser_ 0 = .ok (.aload_n 0, 1) := by decide +kernel
theorem dX6_browser__1 : decode cX6_browser_ 1 = .ok (.iconst 0, 1) := by decide +kernel
theorem dX6_browser__2 : decode cX6_browser_ 2 = .ok (.putfield 64, 3) := by decide +kernel
theorem dX6_browser__5 : decode cX6_browser_ 5 = .ok (.iload_n 1, 1) := by decide +kernel
theorem dX6_browser__6 : decode cX6_browser_ 6 = .ok (.iconst 0, 1) := by decide +kernel
theorem dX6_browser__7 : decode cX6_browser_ 7 = .ok (.iconst 4, 1) := by decide +kernel
theorem dX6_browser__8 : decode cX6_browser_ 8 = .ok (.invokestatic 67, 3) := by decide +kernel
theorem dX6_browser__11 : decode cX6_browser_ 11 = .ok (.ifCond .eq 26, 3) := by decide +kernel
theorem dX6_browser__14 : decode cX6_browser_ 14 = .ok (.iload_n 2, 1) := by decide +kernel
theorem dX6_browser__15 : decode cX6_browser_ 15 = .ok (.iconst 0, 1) := by decide +kernel
theorem dX6_browser__16 : decode cX6_browser_ 16 = .ok (.iconst 2, 1) := by decide +kernel
theorem dX6_browser__17 : decode cX6_browser_ 17 = .ok (.invokestatic 67, 3) := by decide +kernel
theorem dX6_browser__20 : decode cX6_browser_ 20 = .ok (.ifCond .eq 17, 3) := by decide +kernel
theorem dX6_browser__23 : decode cX6_browser_ 23 = .ok (.aload_n 0, 1) := by decide +kernel
theorem dX6_browser__24 : decode cX6_browser_ 24 = .ok (.getfield 9, 3) := by decide +kernel
theorem dX6_browser__27 : decode cX6_browser_ 27 = .ok (.iload_n 1, 1) := by decide +kernel
theorem dX6_browser__28 : decode cX6_browser_ 28 = .ok (.invokestatic 82, 3) := by decide +kernel
theorem dX6_browser__31 : decode cX6_browser_ 31 = .ok (.iload_n 2, 1) := by decide +kernel
theorem dX6_browser__32 : decode cX6_browser_ 32 = .ok (.iadd, 1) := by decide +kernel
theorem dX6_browser__33 : decode cX6_browser_ 33 = .ok (.iaload, 1) := by decide +kernel
theorem dX6_browser__34 : decode cX6_browser_ 34 = .ok (.goto 5, 3) := by decide +kernel
theorem dX6_browser__37 : decode cX6_browser_ 37 = .ok (.bipush (-2), 2) := by decide +kernel
theorem dX6_browser__39 : decode cX6_browser_ 39 = .ok (.ireturn, 1) := by decide +kernel
theorem dX6_log_0 : decode cX6_log 0 = .ok (.aload_n 0, 1) := by decide +kernel
theorem dX6_log_1 : decode cX6_log 1 = .ok (.iconst 0, 1) := by decide +kernel
theorem dX6_log_2 : decode cX6_log 2 = .ok (.putfield 64, 3) := by decide +kernel
theorem dX6_log_5 : decode cX6_log 5 = .ok (.iload_n 1, 1) := by decide +kernel
theorem dX6_log_6 : decode cX6_log 6 = .ok (.iconst 0, 1) := by decide +kernel
theorem dX6_log_7 : decode cX6_log 7 = .ok (.aload_n 0, 1) := by decide +kernel
theorem dX6_log_8 : decode cX6_log 8 = .ok (.getfield 128, 3) := by decide +kernel
theorem dX6_log_11 : decode cX6_log 11 = .ok (.iconst 1, 1) := by decide +kernel
theorem dX6_log_12 : decode cX6_log 12 = .ok (.isub, 1) := by decide +kernel
theorem dX6_log_13 : decode cX6_log 13 = .ok (.invokestatic 67, 3) := by decide +kernel
theorem dX6_log_16 : decode cX6_log 16 = .ok (.ifCond .eq 26, 3) := by decide +kernel
theorem dX6_log_19 : decode cX6_log 19 = .ok (.iload_n 2, 1) := by decide +kernel
theorem dX6_log_20 : decode cX6_log 20 = .ok (.iconst 0, 1) := by decide +kernel
theorem dX6_log_21 : decode cX6_log 21 = .ok (.iconst 5, 1) := by decide +kernel
theorem dX6_log_22 : decode cX6_log 22 = .ok (.invokestatic 67, 3) := by decide +kernel
theorem dX6_log_25 : decode cX6_log 25 = .ok (.ifCond .eq 17, 3) := by decide +kernel
theorem dX6_log_28 : decode cX6_log 28 = .ok (.aload_n 0, 1) := by decide +kernel
theorem dX6_log_29 : decode cX6_log 29 = .ok (.getfield 13, 3) := by decide +kernel
theorem dX6_log_32 : decode cX6_log 32 = .ok (.bipush 6, 2) := by decide +kernel
theorem dX6_log_34 : decode cX6_log 34 = .ok (.iload_n 1, 1) := by decide +kernel
theorem dX6_log_35 : decode cX6_log 35 = .ok (.imul, 1) := by decide +kernel
theorem dX6_log_36 : decode cX6_log 36 = .ok (.iload_n 2, 1) := by decide +kernel
theorem dX6_log_37 : decode cX6_log 37 = .ok (.iadd, 1) := by decide +kernel
theorem dX6_log_38 : decode cX6_log 38 = .ok (.iaload, 1) := by decide +kernel
theorem dX6_log_39 : decode cX6_log 39 = .ok (.goto 5, 3) := by decide +kernel
theorem dX6_log_42 : decode cX6_log 42 = .ok (.bipush (-2), 2) := by decide +kernel
theorem dX6_log_44 : decode cX6_log 44 = .ok (.ireturn, 1) := by decide +kernel
theorem dX6_where_0 : decode cX6_where 0 = .ok (.aload_n 0, 1) := by decide +kernel
theorem dX6_where_1 : decode cX6_where 1 = .ok (.iconst 0, 1) := by decide +kernel
theorem dX6_where_2 : decode cX6_where 2 = .ok (.putfield 64, 3) := by decide +kernel
theorem dX6_where_5 : decode cX6_where 5 = .ok (.iload_n 1, 1) := by decide +kernel
theorem dX6_where_6 : decode cX6_where 6 = .ok (.iconst 0, 1) := by decide +kernel
theorem dX6_where_7 : decode cX6_where 7 = .ok (.iconst 4, 1) := by decide +kernel
theorem dX6_where_8 : decode cX6_where 8 = .ok (.invokestatic 67, 3) := by decide +kernel
theorem dX6_where_11 : decode cX6_where 11 = .ok (.ifCond .eq 11, 3) := by decide +kernel
theorem dX6_where_14 : decode cX6_where 14 = .ok (.aload_n 0, 1) := by decide +kernel
theorem dX6_where_15 : decode cX6_where 15 = .ok (.iload_n 2, 1) := by decide +kernel
theorem dX6_where_16 : decode cX6_where 16 = .ok (.invokevirtual 78, 3) := by decide +kernel
theorem dX6_where_19 : decode cX6_where 19 = .ok (.ifCond .ne 6, 3) := by decide +kernel
theorem dX6_where_22 : decode cX6_where 22 = .ok (.bipush (-2), 2) := by decide +kernel
theorem dX6_where_24 : decode cX6_where 24 = .ok (.ireturn, 1) := by decide +kernel
theorem dX6_where_25 : decode cX6_where 25 = .ok (.iconst (-1), 1) := by decide +kernel
theorem dX6_where_26 : decode cX6_where 26 = .ok (.istore_n 3, 1) := by decide +kernel
theorem dX6_where_27 : decode cX6_where 27 = .ok (.iconst 0, 1) := by decide +kernel
theorem dX6_where_28 : decode cX6_where 28 = .ok (.istore 4, 2) := by decide +kernel
theorem dX6_where_30 : decode cX6_where 30 = .ok (.iload 4, 2) := by decide +kernel
theorem dX6_where_32 : decode cX6_where 32 = .ok (.aload_n 0, 1) := by decide +kernel
theorem dX6_where_33 : decode cX6_where 33 = .ok (.getfield 128, 3) := by decide +kernel
theorem dX6_where_36 : decode cX6_where 36 = .ok (.if_icmp .ge 77, 3) := by decide +kernel
theorem dX6_where_39 : decode cX6_where 39 = .ok (.aload_n 0, 1) := by decide +kernel
theorem dX6_where_40 : decode cX6_where 40 = .ok (.getfield 13, 3) := by decide +kernel
theorem dX6_where_43 : decode cX6_where 43 = .ok (.bipush 6, 2) := by decide +kernel
theorem dX6_where_45 : decode cX6_where 45 = .ok (.iload 4, 2) := by decide +kernel
theorem dX6_where_47 : decode cX6_where 47 = .ok (.imul, 1) := by decide +kernel
theorem dX6_where_48 : decode cX6_where 48 = .ok (.iconst 5, 1) := by decide +kernel
theorem dX6_where_49 : decode cX6_where 49 = .ok (.iadd, 1) := by decide +kernel
theorem dX6_where_50 : decode cX6_where 50 = .ok (.iaload, 1) := by decide +kernel
theorem dX6_where_51 : decode cX6_where 51 = .ok (.ifCond .ne 56, 3) := by decide +kernel
theorem dX6_where_54 : decode cX6_where 54 = .ok (.aload_n 0, 1) := by decide +kernel
theorem dX6_where_55 : decode cX6_where 55 = .ok (.getfield 13, 3) := by decide +kernel
theorem dX6_where_58 : decode cX6_where 58 = .ok (.bipush 6, 2) := by decide +kernel
theorem dX6_where_60 : decode cX6_where 60 = .ok (.iload 4, 2) := by decide +kernel
theorem dX6_where_62 : decode cX6_where 62 = .ok (.imul, 1) := by decide +kernel
theorem dX6_where_63 : decode cX6_where 63 = .ok (.iconst 1, 1) := by decide +kernel
theorem dX6_where_64 : decode cX6_where 64 = .ok (.iadd, 1) := by decide +kernel
theorem dX6_where_65 : decode cX6_where 65 = .ok (.iaload, 1) := by decide +kernel
theorem dX6_where_66 : decode cX6_where 66 = .ok (.iload_n 2, 1) := by decide +kernel
theorem dX6_where_67 : decode cX6_where 67 = .ok (.if_icmp .ne 40, 3) := by decide +kernel
theorem dX6_where_70 : decode cX6_where 70 = .ok (.aload_n 0, 1) := by decide +kernel
theorem dX6_where_71 : decode cX6_where 71 = .ok (.getfield 9, 3) := by decide +kernel
theorem dX6_where_74 : decode cX6_where 74 = .ok (.aload_n 0, 1) := by decide +kernel
theorem dX6_where_75 : decode cX6_where 75 = .ok (.getfield 13, 3) := by decide +kernel
theorem dX6_where_78 : decode cX6_where 78 = .ok (.bipush 6, 2) := by decide +kernel
theorem dX6_where_80 : decode cX6_where 80 = .ok (.iload 4, 2) := by decide +kernel
theorem dX6_where_82 : decode cX6_where 82 = .ok (.imul, 1) := by decide +kernel
theorem dX6_where_83 : decode cX6_where 83 = .ok (.iconst 3, 1) := by decide +kernel
theorem dX6_where_84 : decode cX6_where 84 = .ok (.iadd, 1) := by decide +kernel
theorem dX6_where_85 : decode cX6_where 85 = .ok (.iaload, 1) := by decide +kernel
theorem dX6_where_86 : decode cX6_where 86 = .ok (.invokestatic 71, 3) := by decide +kernel
theorem dX6_where_89 : decode cX6_where 89 = .ok (.iconst 1, 1) := by decide +kernel
theorem dX6_where_90 : decode cX6_where 90 = .ok (.iadd, 1) := by decide +kernel
theorem dX6_where_91 : decode cX6_where 91 = .ok (.iaload, 1) := by decide +kernel
theorem dX6_where_92 : decode cX6_where 92 = .ok (.iload_n 1, 1) := by decide +kernel
theorem dX6_where_93 : decode cX6_where 93 = .ok (.if_icmp .ne 14, 3) := by decide +kernel
theorem dX6_where_96 : decode cX6_where 96 = .ok (.aload_n 0, 1) := by decide +kernel
theorem dX6_where_97 : decode cX6_where 97 = .ok (.getfield 13, 3) := by decide +kernel
theorem dX6_where_100 : decode cX6_where 100 = .ok (.bipush 6, 2) := by decide +kernel
theorem dX6_where_102 : decode cX6_where 102 = .ok (.iload 4, 2) := by decide +kernel
theorem dX6_where_104 : decode cX6_where 104 = .ok (.imul, 1) := by decide +kernel
theorem dX6_where_105 : decode cX6_where 105 = .ok (.iaload, 1) := by decide +kernel
theorem dX6_where_106 : decode cX6_where 106 = .ok (.istore_n 3, 1) := by decide +kernel
theorem dX6_where_107 : decode cX6_where 107 = .ok (.iinc 4 1, 3) := by decide +kernel
theorem dX6_where_110 : decode cX6_where 110 = .ok (.goto (-80), 3) := by decide +kernel
theorem dX6_where_113 : decode cX6_where 113 = .ok (.iload_n 3, 1) := by decide +kernel
theorem dX6_where_114 : decode cX6_where 114 = .ok (.ireturn, 1) := by decide +kernel
theorem dX6_count_0 : decode cX6_count 0 = .ok (.aload_n 0, 1) := by decide +kernel
theorem dX6_count_1 : decode cX6_count 1 = .ok (.iconst 0, 1) := by decide +kernel
theorem dX6_count_2 : decode cX6_count 2 = .ok (.putfield 64, 3) := by decide +kernel
theorem dX6_count_5 : decode cX6_count 5 = .ok (.iload_n 1, 1) := by decide +kernel
theorem dX6_count_6 : decode cX6_count 6 = .ok (.tableswitch 180 0 12 #[66, 73, 81, 89, 97, 105, 110, 115, 122, 129, 136, 141, 146], 66) := by decide +kernel
theorem dX6_count_72 : decode cX6_count 72 = .ok (.aload_n 0, 1) := by decide +kernel
theorem dX6_count_73 : decode cX6_count 73 = .ok (.getfield 9, 3) := by decide +kernel
theorem dX6_count_76 : decode cX6_count 76 = .ok (.iconst 0, 1) := by decide +kernel
theorem dX6_count_77 : decode cX6_count 77 = .ok (.iaload, 1) := by decide +kernel
theorem dX6_count_78 : decode cX6_count 78 = .ok (.ireturn, 1) := by decide +kernel
theorem dX6_count_79 : decode cX6_count 79 = .ok (.aload_n 0, 1) := by decide +kernel
theorem dX6_count_80 : decode cX6_count 80 = .ok (.getfield 9, 3) := by decide +kernel
theorem dX6_count_83 : decode cX6_count 83 = .ok (.bipush 11, 2) := by decide +kernel
theorem dX6_count_85 : decode cX6_count 85 = .ok (.iaload, 1) := by decide +kernel
theorem dX6_count_86 : decode cX6_count 86 = .ok (.ireturn, 1) := by decide +kernel
theorem dX6_count_87 : decode cX6_count 87 = .ok (.aload_n 0, 1) := by decide +kernel
theorem dX6_count_88 : decode cX6_count 88 = .ok (.getfield 9, 3) := by decide +kernel
theorem dX6_count_91 : decode cX6_count 91 = .ok (.bipush 12, 2) := by decide +kernel
theorem dX6_count_93 : decode cX6_count 93 = .ok (.iaload, 1) := by decide +kernel
theorem dX6_count_94 : decode cX6_count 94 = .ok (.ireturn, 1) := by decide +kernel
theorem dX6_count_95 : decode cX6_count 95 = .ok (.aload_n 0, 1) := by decide +kernel
theorem dX6_count_96 : decode cX6_count 96 = .ok (.getfield 9, 3) := by decide +kernel
theorem dX6_count_99 : decode cX6_count 99 = .ok (.bipush 13, 2) := by decide +kernel
theorem dX6_count_101 : decode cX6_count 101 = .ok (.iaload, 1) := by decide +kernel
theorem dX6_count_102 : decode cX6_count 102 = .ok (.ireturn, 1) := by decide +kernel
theorem dX6_count_103 : decode cX6_count 103 = .ok (.aload_n 0, 1) := by decide +kernel
theorem dX6_count_104 : decode cX6_count 104 = .ok (.getfield 9, 3) := by decide +kernel
theorem dX6_count_107 : decode cX6_count 107 = .ok (.bipush 14, 2) := by decide +kernel
theorem dX6_count_109 : decode cX6_count 109 = .ok (.iaload, 1) := by decide +kernel
theorem dX6_count_110 : decode cX6_count 110 = .ok (.ireturn, 1) := by decide +kernel
theorem dX6_count_111 : decode cX6_count 111 = .ok (.aload_n 0, 1) := by decide +kernel
theorem dX6_count_112 : decode cX6_count 112 = .ok (.getfield 128, 3) := by decide +kernel
theorem dX6_count_115 : decode cX6_count 115 = .ok (.ireturn, 1) := by decide +kernel
theorem dX6_count_116 : decode cX6_count 116 = .ok (.aload_n 0, 1) := by decide +kernel
theorem dX6_count_117 : decode cX6_count 117 = .ok (.getfield 125, 3) := by decide +kernel
theorem dX6_count_120 : decode cX6_count 120 = .ok (.ireturn, 1) := by decide +kernel
theorem dX6_count_121 : decode cX6_count 121 = .ok (.aload_n 0, 1) := by decide +kernel
theorem dX6_count_122 : decode cX6_count 122 = .ok (.getfield 9, 3) := by decide +kernel
theorem dX6_count_125 : decode cX6_count 125 = .ok (.iconst 3, 1) := by decide +kernel
theorem dX6_count_126 : decode cX6_count 126 = .ok (.iaload, 1) := by decide +kernel
theorem dX6_count_127 : decode cX6_count 127 = .ok (.ireturn, 1) := by decide +kernel
theorem dX6_count_128 : decode cX6_count 128 = .ok (.aload_n 0, 1) := by decide +kernel
theorem dX6_count_129 : decode cX6_count 129 = .ok (.getfield 9, 3) := by decide +kernel
theorem dX6_count_132 : decode cX6_count 132 = .ok (.iconst 1, 1) := by decide +kernel
theorem dX6_count_133 : decode cX6_count 133 = .ok (.iaload, 1) := by decide +kernel
theorem dX6_count_134 : decode cX6_count 134 = .ok (.ireturn, 1) := by decide +kernel
theorem dX6_count_135 : decode cX6_count 135 = .ok (.aload_n 0, 1) := by decide +kernel
theorem dX6_count_136 : decode cX6_count 136 = .ok (.getfield 9, 3) := by decide +kernel
theorem dX6_count_139 : decode cX6_count 139 = .ok (.iconst 2, 1) := by decide +kernel
theorem dX6_count_140 : decode cX6_count 140 = .ok (.iaload, 1) := by decide +kernel
theorem dX6_count_141 : decode cX6_count 141 = .ok (.ireturn, 1) := by decide +kernel
theorem dX6_count_142 : decode cX6_count 142 = .ok (.aload_n 0, 1) := by decide +kernel
theorem dX6_count_143 : decode cX6_count 143 = .ok (.getfield 92, 3) := by decide +kernel
theorem dX6_count_146 : decode cX6_count 146 = .ok (.ireturn, 1) := by decide +kernel
theorem dX6_count_147 : decode cX6_count 147 = .ok (.aload_n 0, 1) := by decide +kernel
theorem dX6_count_148 : decode cX6_count 148 = .ok (.getfield 217, 3) := by decide +kernel
theorem dX6_count_151 : decode cX6_count 151 = .ok (.ireturn, 1) := by decide +kernel
theorem dX6_count_152 : decode cX6_count 152 = .ok (.iconst 0, 1) := by decide +kernel
theorem dX6_count_153 : decode cX6_count 153 = .ok (.istore_n 2, 1) := by decide +kernel
theorem dX6_count_154 : decode cX6_count 154 = .ok (.iconst 0, 1) := by decide +kernel
theorem dX6_count_155 : decode cX6_count 155 = .ok (.istore_n 3, 1) := by decide +kernel
theorem dX6_count_156 : decode cX6_count 156 = .ok (.iload_n 3, 1) := by decide +kernel
theorem dX6_count_157 : decode cX6_count 157 = .ok (.iconst 4, 1) := by decide +kernel
theorem dX6_count_158 : decode cX6_count 158 = .ok (.if_icmp .ge 26, 3) := by decide +kernel
theorem dX6_count_161 : decode cX6_count 161 = .ok (.iload_n 2, 1) := by decide +kernel
theorem dX6_count_162 : decode cX6_count 162 = .ok (.aload_n 0, 1) := by decide +kernel
theorem dX6_count_163 : decode cX6_count 163 = .ok (.getfield 44, 3) := by decide +kernel
theorem dX6_count_166 : decode cX6_count 166 = .ok (.iload_n 3, 1) := by decide +kernel
theorem dX6_count_167 : decode cX6_count 167 = .ok (.iaload, 1) := by decide +kernel
theorem dX6_count_168 : decode cX6_count 168 = .ok (.ifCond .lt 7, 3) := by decide +kernel
theorem dX6_count_171 : decode cX6_count 171 = .ok (.iconst 1, 1) := by decide +kernel
theorem dX6_count_172 : decode cX6_count 172 = .ok (.goto 4, 3) := by decide +kernel
theorem dX6_count_175 : decode cX6_count 175 = .ok (.iconst 0, 1) := by decide +kernel
theorem dX6_count_176 : decode cX6_count 176 = .ok (.iadd, 1) := by decide +kernel
theorem dX6_count_177 : decode cX6_count 177 = .ok (.istore_n 2, 1) := by decide +kernel
theorem dX6_count_178 : decode cX6_count 178 = .ok (.iinc 3 1, 3) := by decide +kernel
theorem dX6_count_181 : decode cX6_count 181 = .ok (.goto (-25), 3) := by decide +kernel
theorem dX6_count_184 : decode cX6_count 184 = .ok (.iload_n 2, 1) := by decide +kernel
theorem dX6_count_185 : decode cX6_count 185 = .ok (.ireturn, 1) := by decide +kernel
theorem dX6_count_186 : decode cX6_count 186 = .ok (.iconst (-1), 1) := by decide +kernel
theorem dX6_count_187 : decode cX6_count 187 = .ok (.ireturn, 1) := by decide +kernel
theorem dX6_isSlot_0 : decode cX6_isSlot 0 = .ok (.iload_n 0, 1) := by decide +kernel
theorem dX6_isSlot_1 : decode cX6_isSlot 1 = .ok (.iconst 0, 1) := by decide +kernel
theorem dX6_isSlot_2 : decode cX6_isSlot 2 = .ok (.iconst 3, 1) := by decide +kernel
theorem dX6_isSlot_3 : decode cX6_isSlot 3 = .ok (.invokestatic 67, 3) := by decide +kernel
theorem dX6_isSlot_6 : decode cX6_isSlot 6 = .ok (.ireturn, 1) := by decide +kernel
theorem dX6_cut_0 : decode cX6_cut 0 = .ok (.iload_n 0, 1) := by decide +kernel
theorem dX6_cut_1 : decode cX6_cut 1 = .ok (.ifCond .ne 10, 3) := by decide +kernel
theorem dX6_cut_4 : decode cX6_cut 4 = .ok (.lload_n 1, 1) := by decide +kernel
theorem dX6_cut_5 : decode cX6_cut 5 = .ok (.l2i, 1) := by decide +kernel
theorem dX6_cut_6 : decode cX6_cut 6 = .ok (.i2b, 1) := by decide +kernel
theorem dX6_cut_7 : decode cX6_cut 7 = .ok (.i2l, 1) := by decide +kernel
theorem dX6_cut_8 : decode cX6_cut 8 = .ok (.goto 27, 3) := by decide +kernel
theorem dX6_cut_11 : decode cX6_cut 11 = .ok (.iload_n 0, 1) := by decide +kernel
theorem dX6_cut_12 : decode cX6_cut 12 = .ok (.iconst 1, 1) := by decide +kernel
theorem dX6_cut_13 : decode cX6_cut 13 = .ok (.if_icmp .ne 10, 3) := by decide +kernel
theorem dX6_cut_16 : decode cX6_cut 16 = .ok (.lload_n 1, 1) := by decide +kernel
theorem dX6_cut_17 : decode cX6_cut 17 = .ok (.l2i, 1) := by decide +kernel
theorem dX6_cut_18 : decode cX6_cut 18 = .ok (.i2s, 1) := by decide +kernel
theorem dX6_cut_19 : decode cX6_cut 19 = .ok (.i2l, 1) := by decide +kernel
theorem dX6_cut_20 : decode cX6_cut 20 = .ok (.goto 15, 3) := by decide +kernel
theorem dX6_cut_23 : decode cX6_cut 23 = .ok (.iload_n 0, 1) := by decide +kernel
theorem dX6_cut_24 : decode cX6_cut 24 = .ok (.iconst 2, 1) := by decide +kernel
theorem dX6_cut_25 : decode cX6_cut 25 = .ok (.if_icmp .ne 9, 3) := by decide +kernel
theorem dX6_cut_28 : decode cX6_cut 28 = .ok (.lload_n 1, 1) := by decide +kernel
theorem dX6_cut_29 : decode cX6_cut 29 = .ok (.l2i, 1) := by decide +kernel
theorem dX6_cut_30 : decode cX6_cut 30 = .ok (.i2l, 1) := by decide +kernel
theorem dX6_cut_31 : decode cX6_cut 31 = .ok (.goto 4, 3) := by decide +kernel
theorem dX6_cut_34 : decode cX6_cut 34 = .ok (.lload_n 1, 1) := by decide +kernel
theorem dX6_cut_35 : decode cX6_cut 35 = .ok (.lreturn, 1) := by decide +kernel
theorem dX6_row_0 : decode cX6_row 0 = .ok (.aload_n 0, 1) := by decide +kernel
theorem dX6_row_1 : decode cX6_row 1 = .ok (.iconst 0, 1) := by decide +kernel
theorem dX6_row_2 : decode cX6_row 2 = .ok (.putfield 64, 3) := by decide +kernel
theorem dX6_row_5 : decode cX6_row 5 = .ok (.iload_n 1, 1) := by decide +kernel
theorem dX6_row_6 : decode cX6_row 6 = .ok (.invokestatic 223, 3) := by decide +kernel
theorem dX6_row_9 : decode cX6_row 9 = .ok (.ifCond .eq 18, 3) := by decide +kernel
theorem dX6_row_12 : decode cX6_row 12 = .ok (.iload_n 2, 1) := by decide +kernel
theorem dX6_row_13 : decode cX6_row 13 = .ok (.iconst 0, 1) := by decide +kernel
theorem dX6_row_14 : decode cX6_row 14 = .ok (.iconst 3, 1) := by decide +kernel
theorem dX6_row_15 : decode cX6_row 15 = .ok (.invokestatic 67, 3) := by decide +kernel
theorem dX6_row_18 : decode cX6_row 18 = .ok (.ifCond .eq 9, 3) := by decide +kernel
theorem dX6_row_21 : decode cX6_row 21 = .ok (.iload_n 3, 1) := by decide +kernel
theorem dX6_row_22 : decode cX6_row 22 = .ok (.bipush 60, 2) := by decide +kernel
theorem dX6_row_24 : decode cX6_row 24 = .ok (.if_icmp .le 6, 3) := by decide +kernel
theorem dX6_row_27 : decode cX6_row 27 = .ok (.bipush (-2), 2) := by decide +kernel
theorem dX6_row_29 : decode cX6_row 29 = .ok (.ireturn, 1) := by decide +kernel
theorem dX6_row_30 : decode cX6_row 30 = .ok (.iload_n 3, 1) := by decide +kernel
theorem dX6_row_31 : decode cX6_row 31 = .ok (.ifCond .ge 6, 3) := by decide +kernel
theorem dX6_row_34 : decode cX6_row 34 = .ok (.bipush (-3), 2) := by decide +kernel
theorem dX6_row_36 : decode cX6_row 36 = .ok (.ireturn, 1) := by decide +kernel
theorem dX6_row_37 : decode cX6_row 37 = .ok (.aload_n 0, 1) := by decide +kernel
theorem dX6_row_38 : decode cX6_row 38 = .ok (.getfield 44, 3) := by decide +kernel
theorem dX6_row_41 : decode cX6_row 41 = .ok (.iload_n 1, 1) := by decide +kernel
theorem dX6_row_42 : decode cX6_row 42 = .ok (.iload_n 2, 1) := by decide +kernel
theorem dX6_row_43 : decode cX6_row 43 = .ok (.iastore, 1) := by decide +kernel
theorem dX6_row_44 : decode cX6_row 44 = .ok (.aload_n 0, 1) := by decide +kernel
theorem dX6_row_45 : decode cX6_row 45 = .ok (.getfield 47, 3) := by decide +kernel
theorem dX6_row_48 : decode cX6_row 48 = .ok (.iload_n 1, 1) := by decide +kernel
theorem dX6_row_49 : decode cX6_row 49 = .ok (.iload_n 3, 1) := by decide +kernel
theorem dX6_row_50 : decode cX6_row 50 = .ok (.iastore, 1) := by decide +kernel
theorem dX6_row_51 : decode cX6_row 51 = .ok (.iconst 0, 1) := by decide +kernel
theorem dX6_row_52 : decode cX6_row 52 = .ok (.istore 4, 2) := by decide +kernel
theorem dX6_row_54 : decode cX6_row 54 = .ok (.iload 4, 2) := by decide +kernel
theorem dX6_row_56 : decode cX6_row 56 = .ok (.bipush 60, 2) := by decide +kernel
theorem dX6_row_58 : decode cX6_row 58 = .ok (.if_icmp .ge 22, 3) := by decide +kernel
theorem dX6_row_61 : decode cX6_row 61 = .ok (.aload_n 0, 1) := by decide +kernel
theorem dX6_row_62 : decode cX6_row 62 = .ok (.getfield 50, 3) := by decide +kernel
theorem dX6_row_65 : decode cX6_row 65 = .ok (.bipush 60, 2) := by decide +kernel
theorem dX6_row_67 : decode cX6_row 67 = .ok (.iload_n 1, 1) := by decide +kernel
theorem dX6_row_68 : decode cX6_row 68 = .ok (.imul, 1) := by decide +kernel
theorem dX6_row_69 : decode cX6_row 69 = .ok (.iload 4, 2) := by decide +kernel
theorem dX6_row_71 : decode cX6_row 71 = .ok (.iadd, 1) := by decide +kernel
theorem dX6_row_72 : decode cX6_row 72 = .ok (.lconst 0, 1) := by decide +kernel
theorem dX6_row_73 : decode cX6_row 73 = .ok (.lastore, 1) := by decide +kernel
theorem dX6_row_74 : decode cX6_row 74 = .ok (.iinc 4 1, 3) := by decide +kernel
theorem dX6_row_77 : decode cX6_row 77 = .ok (.goto (-23), 3) := by decide +kernel
theorem dX6_row_80 : decode cX6_row 80 = .ok (.iconst 0, 1) := by decide +kernel
theorem dX6_row_81 : decode cX6_row 81 = .ok (.ireturn, 1) := by decide +kernel
theorem dX6_tear_0 : decode cX6_tear 0 = .ok (.aload_n 0, 1) := by decide +kernel
theorem dX6_tear_1 : decode cX6_tear 1 = .ok (.iconst 0, 1) := by decide +kernel
theorem dX6_tear_2 : decode cX6_tear 2 = .ok (.putfield 64, 3) := by decide +kernel
theorem dX6_tear_5 : decode cX6_tear 5 = .ok (.iload_n 1, 1) := by decide +kernel
theorem dX6_tear_6 : decode cX6_tear 6 = .ok (.invokestatic 223, 3) := by decide +kernel
theorem dX6_tear_9 : decode cX6_tear 9 = .ok (.ifCond .eq 12, 3) := by decide +kernel
theorem dX6_tear_12 : decode cX6_tear 12 = .ok (.aload_n 0, 1) := by decide +kernel
theorem dX6_tear_13 : decode cX6_tear 13 = .ok (.getfield 44, 3) := by decide +kernel
theorem dX6_tear_16 : decode cX6_tear 16 = .ok (.iload_n 1, 1) := by decide +kernel
theorem dX6_tear_17 : decode cX6_tear 17 = .ok (.iaload, 1) := by decide +kernel
theorem dX6_tear_18 : decode cX6_tear 18 = .ok (.ifCond .ge 5, 3) := by decide +kernel
theorem dX6_tear_21 : decode cX6_tear 21 = .ok (.iconst 0, 1) := by decide +kernel
theorem dX6_tear_22 : decode cX6_tear 22 = .ok (.ireturn, 1) := by decide +kernel
theorem dX6_tear_23 : decode cX6_tear 23 = .ok (.aload_n 0, 1) := by decide +kernel
theorem dX6_tear_24 : decode cX6_tear 24 = .ok (.getfield 44, 3) := by decide +kernel
theorem dX6_tear_27 : decode cX6_tear 27 = .ok (.iload_n 1, 1) := by decide +kernel
theorem dX6_tear_28 : decode cX6_tear 28 = .ok (.iconst (-1), 1) := by decide +kernel
theorem dX6_tear_29 : decode cX6_tear 29 = .ok (.iastore, 1) := by decide +kernel
theorem dX6_tear_30 : decode cX6_tear 30 = .ok (.iconst 1, 1) := by decide +kernel
theorem dX6_tear_31 : decode cX6_tear 31 = .ok (.ireturn, 1) := by decide +kernel
theorem dX6_write_0 : decode cX6_write 0 = .ok (.aload_n 0, 1) := by decide +kernel
theorem dX6_write_1 : decode cX6_write 1 = .ok (.iconst 0, 1) := by decide +kernel
theorem dX6_write_2 : decode cX6_write 2 = .ok (.putfield 64, 3) := by decide +kernel
theorem dX6_write_5 : decode cX6_write 5 = .ok (.iload_n 1, 1) := by decide +kernel
theorem dX6_write_6 : decode cX6_write 6 = .ok (.invokestatic 223, 3) := by decide +kernel
theorem dX6_write_9 : decode cX6_write 9 = .ok (.ifCond .ne 6, 3) := by decide +kernel
theorem dX6_write_12 : decode cX6_write 12 = .ok (.bipush (-2), 2) := by decide +kernel
theorem dX6_write_14 : decode cX6_write 14 = .ok (.ireturn, 1) := by decide +kernel
theorem dX6_write_15 : decode cX6_write 15 = .ok (.aload_n 0, 1) := by decide +kernel
theorem dX6_write_16 : decode cX6_write 16 = .ok (.getfield 44, 3) := by decide +kernel
theorem dX6_write_19 : decode cX6_write 19 = .ok (.iload_n 1, 1) := by decide +kernel
theorem dX6_write_20 : decode cX6_write 20 = .ok (.iaload, 1) := by decide +kernel
theorem dX6_write_21 : decode cX6_write 21 = .ok (.ifCond .ge 6, 3) := by decide +kernel
theorem dX6_write_24 : decode cX6_write 24 = .ok (.bipush (-5), 2) := by decide +kernel
theorem dX6_write_26 : decode cX6_write 26 = .ok (.ireturn, 1) := by decide +kernel
theorem dX6_write_27 : decode cX6_write 27 = .ok (.iload_n 2, 1) := by decide +kernel
theorem dX6_write_28 : decode cX6_write 28 = .ok (.iconst 0, 1) := by decide +kernel
theorem dX6_write_29 : decode cX6_write 29 = .ok (.aload_n 0, 1) := by decide +kernel
theorem dX6_write_30 : decode cX6_write 30 = .ok (.getfield 47, 3) := by decide +kernel
theorem dX6_write_33 : decode cX6_write 33 = .ok (.iload_n 1, 1) := by decide +kernel
theorem dX6_write_34 : decode cX6_write 34 = .ok (.iaload, 1) := by decide +kernel
theorem dX6_write_35 : decode cX6_write 35 = .ok (.iconst 1, 1) := by decide +kernel
theorem dX6_write_36 : decode cX6_write 36 = .ok (.isub, 1) := by decide +kernel
theorem dX6_write_37 : decode cX6_write 37 = .ok (.invokestatic 67, 3) := by decide +kernel
theorem dX6_write_40 : decode cX6_write 40 = .ok (.ifCond .ne 6, 3) := by decide +kernel
theorem dX6_write_43 : decode cX6_write 43 = .ok (.bipush (-6), 2) := by decide +kernel
theorem dX6_write_45 : decode cX6_write 45 = .ok (.ireturn, 1) := by decide +kernel
theorem dX6_write_46 : decode cX6_write 46 = .ok (.aload_n 0, 1) := by decide +kernel
theorem dX6_write_47 : decode cX6_write 47 = .ok (.getfield 50, 3) := by decide +kernel
theorem dX6_write_50 : decode cX6_write 50 = .ok (.bipush 60, 2) := by decide +kernel
theorem dX6_write_52 : decode cX6_write 52 = .ok (.iload_n 1, 1) := by decide +kernel
theorem dX6_write_53 : decode cX6_write 53 = .ok (.imul, 1) := by decide +kernel
theorem dX6_write_54 : decode cX6_write 54 = .ok (.iload_n 2, 1) := by decide +kernel
theorem dX6_write_55 : decode cX6_write 55 = .ok (.iadd, 1) := by decide +kernel
theorem dX6_write_56 : decode cX6_write 56 = .ok (.aload_n 0, 1) := by decide +kernel
theorem dX6_write_57 : decode cX6_write 57 = .ok (.getfield 44, 3) := by decide +kernel
theorem dX6_write_60 : decode cX6_write 60 = .ok (.iload_n 1, 1) := by decide +kernel
theorem dX6_write_61 : decode cX6_write 61 = .ok (.iaload, 1) := by decide +kernel
theorem dX6_write_62 : decode cX6_write 62 = .ok (.lload_n 3, 1) := by decide +kernel
theorem dX6_write_63 : decode cX6_write 63 = .ok (.invokestatic 226, 3) := by decide +kernel
theorem dX6_write_66 : decode cX6_write 66 = .ok (.lastore, 1) := by decide +kernel
theorem dX6_write_67 : decode cX6_write 67 = .ok (.iconst 0, 1) := by decide +kernel
theorem dX6_write_68 : decode cX6_write 68 = .ok (.ireturn, 1) := by decide +kernel
theorem dX6_paste_0 : decode cX6_paste 0 = .ok (.aload_n 0, 1) := by decide +kernel
theorem dX6_paste_1 : decode cX6_paste 1 = .ok (.iconst 0, 1) := by decide +kernel
theorem dX6_paste_2 : decode cX6_paste 2 = .ok (.putfield 64, 3) := by decide +kernel
theorem dX6_paste_5 : decode cX6_paste 5 = .ok (.iload_n 1, 1) := by decide +kernel
theorem dX6_paste_6 : decode cX6_paste 6 = .ok (.invokestatic 223, 3) := by decide +kernel
theorem dX6_paste_9 : decode cX6_paste 9 = .ok (.ifCond .eq 10, 3) := by decide +kernel
theorem dX6_paste_12 : decode cX6_paste 12 = .ok (.iload_n 3, 1) := by decide +kernel
theorem dX6_paste_13 : decode cX6_paste 13 = .ok (.invokestatic 223, 3) := by decide +kernel
theorem dX6_paste_16 : decode cX6_paste 16 = .ok (.ifCond .ne 6, 3) := by decide +kernel
theorem dX6_paste_19 : decode cX6_paste 19 = .ok (.bipush (-2), 2) := by decide +kernel
theorem dX6_paste_21 : decode cX6_paste 21 = .ok (.ireturn, 1) := by decide +kernel
theorem dX6_paste_22 : decode cX6_paste 22 = .ok (.aload_n 0, 1) := by decide +kernel
theorem dX6_paste_23 : decode cX6_paste 23 = .ok (.getfield 44, 3) := by decide +kernel
theorem dX6_paste_26 : decode cX6_paste 26 = .ok (.iload_n 1, 1) := by decide +kernel
theorem dX6_paste_27 : decode cX6_paste 27 = .ok (.iaload, 1) := by decide +kernel
theorem dX6_paste_28 : decode cX6_paste 28 = .ok (.ifCond .lt 12, 3) := by decide +kernel
theorem dX6_paste_31 : decode cX6_paste 31 = .ok (.aload_n 0, 1) := by decide +kernel
theorem dX6_paste_32 : decode cX6_paste 32 = .ok (.getfield 44, 3) := by decide +kernel
theorem dX6_paste_35 : decode cX6_paste 35 = .ok (.iload_n 3, 1) := by decide +kernel
theorem dX6_paste_36 : decode cX6_paste 36 = .ok (.iaload, 1) := by decide +kernel
theorem dX6_paste_37 : decode cX6_paste 37 = .ok (.ifCond .ge 6, 3) := by decide +kernel
theorem dX6_paste_40 : decode cX6_paste 40 = .ok (.bipush (-5), 2) := by decide +kernel
theorem dX6_paste_42 : decode cX6_paste 42 = .ok (.ireturn, 1) := by decide +kernel
theorem dX6_paste_43 : decode cX6_paste 43 = .ok (.aload_n 0, 1) := by decide +kernel
theorem dX6_paste_44 : decode cX6_paste 44 = .ok (.getfield 44, 3) := by decide +kernel
theorem dX6_paste_47 : decode cX6_paste 47 = .ok (.iload_n 1, 1) := by decide +kernel
theorem dX6_paste_48 : decode cX6_paste 48 = .ok (.iaload, 1) := by decide +kernel
theorem dX6_paste_49 : decode cX6_paste 49 = .ok (.aload_n 0, 1) := by decide +kernel
theorem dX6_paste_50 : decode cX6_paste 50 = .ok (.getfield 44, 3) := by decide +kernel
theorem dX6_paste_53 : decode cX6_paste 53 = .ok (.iload_n 3, 1) := by decide +kernel
theorem dX6_paste_54 : decode cX6_paste 54 = .ok (.iaload, 1) := by decide +kernel
theorem dX6_paste_55 : decode cX6_paste 55 = .ok (.if_icmp .eq 6, 3) := by decide +kernel
theorem dX6_paste_58 : decode cX6_paste 58 = .ok (.bipush (-7), 2) := by decide +kernel
theorem dX6_paste_60 : decode cX6_paste 60 = .ok (.ireturn, 1) := by decide +kernel
theorem dX6_paste_61 : decode cX6_paste 61 = .ok (.iload_n 2, 1) := by decide +kernel
theorem dX6_paste_62 : decode cX6_paste 62 = .ok (.ifCond .lt 48, 3) := by decide +kernel
theorem dX6_paste_65 : decode cX6_paste 65 = .ok (.iload 4, 2) := by decide +kernel
theorem dX6_paste_67 : decode cX6_paste 67 = .ok (.ifCond .lt 43, 3) := by decide +kernel
theorem dX6_paste_70 : decode cX6_paste 70 = .ok (.iload 5, 2) := by decide +kernel
theorem dX6_paste_72 : decode cX6_paste 72 = .ok (.ifCond .lt 38, 3) := by decide +kernel
theorem dX6_paste_75 : decode cX6_paste 75 = .ok (.iload_n 2, 1) := by decide +kernel
theorem dX6_paste_76 : decode cX6_paste 76 = .ok (.i2l, 1) := by decide +kernel
theorem dX6_paste_77 : decode cX6_paste 77 = .ok (.iload 5, 2) := by decide +kernel
theorem dX6_paste_79 : decode cX6_paste 79 = .ok (.i2l, 1) := by decide +kernel
theorem dX6_paste_80 : decode cX6_paste 80 = .ok (.ladd, 1) := by decide +kernel
theorem dX6_paste_81 : decode cX6_paste 81 = .ok (.aload_n 0, 1) := by decide +kernel
theorem dX6_paste_82 : decode cX6_paste 82 = .ok (.getfield 47, 3) := by decide +kernel
theorem dX6_paste_85 : decode cX6_paste 85 = .ok (.iload_n 1, 1) := by decide +kernel
theorem dX6_paste_86 : decode cX6_paste 86 = .ok (.iaload, 1) := by decide +kernel
theorem dX6_paste_87 : decode cX6_paste 87 = .ok (.i2l, 1) := by decide +kernel
theorem dX6_paste_88 : decode cX6_paste 88 = .ok (.lcmp, 1) := by decide +kernel
theorem dX6_paste_89 : decode cX6_paste 89 = .ok (.ifCond .gt 21, 3) := by decide +kernel
theorem dX6_paste_92 : decode cX6_paste 92 = .ok (.iload 4, 2) := by decide +kernel
theorem dX6_paste_94 : decode cX6_paste 94 = .ok (.i2l, 1) := by decide +kernel
theorem dX6_paste_95 : decode cX6_paste 95 = .ok (.iload 5, 2) := by decide +kernel
theorem dX6_paste_97 : decode cX6_paste 97 = .ok (.i2l, 1) := by decide +kernel
theorem dX6_paste_98 : decode cX6_paste 98 = .ok (.ladd, 1) := by decide +kernel
theorem dX6_paste_99 : decode cX6_paste 99 = .ok (.aload_n 0, 1) := by decide +kernel
theorem dX6_paste_100 : decode cX6_paste 100 = .ok (.getfield 47, 3) := by decide +kernel
theorem dX6_paste_103 : decode cX6_paste 103 = .ok (.iload_n 3, 1) := by decide +kernel
theorem dX6_paste_104 : decode cX6_paste 104 = .ok (.iaload, 1) := by decide +kernel
theorem dX6_paste_105 : decode cX6_paste 105 = .ok (.i2l, 1) := by decide +kernel
theorem dX6_paste_106 : decode cX6_paste 106 = .ok (.lcmp, 1) := by decide +kernel
theorem dX6_paste_107 : decode cX6_paste 107 = .ok (.ifCond .le 6, 3) := by decide +kernel
theorem dX6_paste_110 : decode cX6_paste 110 = .ok (.bipush (-6), 2) := by decide +kernel
theorem dX6_paste_112 : decode cX6_paste 112 = .ok (.ireturn, 1) := by decide +kernel
theorem dX6_paste_113 : decode cX6_paste 113 = .ok (.iconst 0, 1) := by decide +kernel
theorem dX6_paste_114 : decode cX6_paste 114 = .ok (.istore 6, 2) := by decide +kernel
theorem dX6_paste_116 : decode cX6_paste 116 = .ok (.iload 6, 2) := by decide +kernel
theorem dX6_paste_118 : decode cX6_paste 118 = .ok (.iload 5, 2) := by decide +kernel
theorem dX6_paste_120 : decode cX6_paste 120 = .ok (.if_icmp .ge 30, 3) := by decide +kernel
theorem dX6_paste_123 : decode cX6_paste 123 = .ok (.aload_n 0, 1) := by decide +kernel
theorem dX6_paste_124 : decode cX6_paste 124 = .ok (.getfield 54, 3) := by decide +kernel
theorem dX6_paste_127 : decode cX6_paste 127 = .ok (.iload 6, 2) := by decide +kernel
theorem dX6_paste_129 : decode cX6_paste 129 = .ok (.aload_n 0, 1) := by decide +kernel
theorem dX6_paste_130 : decode cX6_paste 130 = .ok (.getfield 50, 3) := by decide +kernel
theorem dX6_paste_133 : decode cX6_paste 133 = .ok (.bipush 60, 2) := by decide +kernel
theorem dX6_paste_135 : decode cX6_paste 135 = .ok (.iload_n 1, 1) := by decide +kernel
theorem dX6_paste_136 : decode cX6_paste 136 = .ok (.imul, 1) := by decide +kernel
theorem dX6_paste_137 : decode cX6_paste 137 = .ok (.iload_n 2, 1) := by decide +kernel
theorem dX6_paste_138 : decode cX6_paste 138 = .ok (.iadd, 1) := by decide +kernel
theorem dX6_paste_139 : decode cX6_paste 139 = .ok (.iload 6, 2) := by decide +kernel
theorem dX6_paste_141 : decode cX6_paste 141 = .ok (.iadd, 1) := by decide +kernel
theorem dX6_paste_142 : decode cX6_paste 142 = .ok (.laload, 1) := by decide +kernel
theorem dX6_paste_143 : decode cX6_paste 143 = .ok (.lastore, 1) := by decide +kernel
theorem dX6_paste_144 : decode cX6_paste 144 = .ok (.iinc 6 1, 3) := by decide +kernel
theorem dX6_paste_147 : decode cX6_paste 147 = .ok (.goto (-31), 3) := by decide +kernel
theorem dX6_paste_150 : decode cX6_paste 150 = .ok (.iconst 0, 1) := by decide +kernel
theorem dX6_paste_151 : decode cX6_paste 151 = .ok (.istore 6, 2) := by decide +kernel
theorem dX6_paste_153 : decode cX6_paste 153 = .ok (.iload 6, 2) := by decide +kernel
theorem dX6_paste_155 : decode cX6_paste 155 = .ok (.iload 5, 2) := by decide +kernel
theorem dX6_paste_157 : decode cX6_paste 157 = .ok (.if_icmp .ge 31, 3) := by decide +kernel
theorem dX6_paste_160 : decode cX6_paste 160 = .ok (.aload_n 0, 1) := by decide +kernel
theorem dX6_paste_161 : decode cX6_paste 161 = .ok (.getfield 50, 3) := by decide +kernel
theorem dX6_paste_164 : decode cX6_paste 164 = .ok (.bipush 60, 2) := by decide +kernel
theorem dX6_paste_166 : decode cX6_paste 166 = .ok (.iload_n 3, 1) := by decide +kernel
theorem dX6_paste_167 : decode cX6_paste 167 = .ok (.imul, 1) := by decide +kernel
theorem dX6_paste_168 : decode cX6_paste 168 = .ok (.iload 4, 2) := by decide +kernel
theorem dX6_paste_170 : decode cX6_paste 170 = .ok (.iadd, 1) := by decide +kernel
theorem dX6_paste_171 : decode cX6_paste 171 = .ok (.iload 6, 2) := by decide +kernel
theorem dX6_paste_173 : decode cX6_paste 173 = .ok (.iadd, 1) := by decide +kernel
theorem dX6_paste_174 : decode cX6_paste 174 = .ok (.aload_n 0, 1) := by decide +kernel
theorem dX6_paste_175 : decode cX6_paste 175 = .ok (.getfield 54, 3) := by decide +kernel
theorem dX6_paste_178 : decode cX6_paste 178 = .ok (.iload 6, 2) := by decide +kernel
theorem dX6_paste_180 : decode cX6_paste 180 = .ok (.laload, 1) := by decide +kernel
theorem dX6_paste_181 : decode cX6_paste 181 = .ok (.lastore, 1) := by decide +kernel
theorem dX6_paste_182 : decode cX6_paste 182 = .ok (.iinc 6 1, 3) := by decide +kernel
theorem dX6_paste_185 : decode cX6_paste 185 = .ok (.goto (-32), 3) := by decide +kernel
theorem dX6_paste_188 : decode cX6_paste 188 = .ok (.iconst 0, 1) := by decide +kernel
theorem dX6_paste_189 : decode cX6_paste 189 = .ok (.ireturn, 1) := by decide +kernel
theorem dX6_done_0 : decode cX6_done 0 = .ok (.iload_n 1, 1) := by decide +kernel
theorem dX6_done_1 : decode cX6_done 1 = .ok (.tableswitch 131 0 6 #[43, 60, 75, 86, 97, 111, 125], 43) := by decide +kernel
theorem dX6_done_44 : decode cX6_done 44 = .ok (.aload_n 0, 1) := by decide +kernel
theorem dX6_done_45 : decode cX6_done 45 = .ok (.iload_n 2, 1) := by decide +kernel
theorem dX6_done_46 : decode cX6_done 46 = .ok (.iload_n 3, 1) := by decide +kernel
theorem dX6_done_47 : decode cX6_done 47 = .ok (.iload 4, 2) := by decide +kernel
theorem dX6_done_49 : decode cX6_done 49 = .ok (.invokevirtual 230, 3) := by decide +kernel
theorem dX6_done_52 : decode cX6_done 52 = .ok (.ifCond .lt 7, 3) := by decide +kernel
theorem dX6_done_55 : decode cX6_done 55 = .ok (.iconst 1, 1) := by decide +kernel
theorem dX6_done_56 : decode cX6_done 56 = .ok (.goto 4, 3) := by decide +kernel
theorem dX6_done_59 : decode cX6_done 59 = .ok (.iconst 0, 1) := by decide +kernel
theorem dX6_done_60 : decode cX6_done 60 = .ok (.ireturn, 1) := by decide +kernel
theorem dX6_done_61 : decode cX6_done 61 = .ok (.aload_n 0, 1) := by decide +kernel
theorem dX6_done_62 : decode cX6_done 62 = .ok (.iload_n 2, 1) := by decide +kernel
theorem dX6_done_63 : decode cX6_done 63 = .ok (.iload_n 3, 1) := by decide +kernel
theorem dX6_done_64 : decode cX6_done 64 = .ok (.invokevirtual 234, 3) := by decide +kernel
theorem dX6_done_67 : decode cX6_done 67 = .ok (.ifCond .lt 7, 3) := by decide +kernel
theorem dX6_done_70 : decode cX6_done 70 = .ok (.iconst 1, 1) := by decide +kernel
theorem dX6_done_71 : decode cX6_done 71 = .ok (.goto 4, 3) := by decide +kernel
theorem dX6_done_74 : decode cX6_done 74 = .ok (.iconst 0, 1) := by decide +kernel
theorem dX6_done_75 : decode cX6_done 75 = .ok (.ireturn, 1) := by decide +kernel
theorem dX6_done_76 : decode cX6_done 76 = .ok (.aload_n 0, 1) := by decide +kernel
theorem dX6_done_77 : decode cX6_done 77 = .ok (.iload_n 2, 1) := by decide +kernel
theorem dX6_done_78 : decode cX6_done 78 = .ok (.iload_n 3, 1) := by decide +kernel
theorem dX6_done_79 : decode cX6_done 79 = .ok (.iload 4, 2) := by decide +kernel
theorem dX6_done_81 : decode cX6_done 81 = .ok (.iload 5, 2) := by decide +kernel
theorem dX6_done_83 : decode cX6_done 83 = .ok (.invokevirtual 238, 3) := by decide +kernel
theorem dX6_done_86 : decode cX6_done 86 = .ok (.ireturn, 1) := by decide +kernel
theorem dX6_done_87 : decode cX6_done 87 = .ok (.aload_n 0, 1) := by decide +kernel
theorem dX6_done_88 : decode cX6_done 88 = .ok (.iload_n 2, 1) := by decide +kernel
theorem dX6_done_89 : decode cX6_done 89 = .ok (.iload_n 3, 1) := by decide +kernel
theorem dX6_done_90 : decode cX6_done 90 = .ok (.iload 4, 2) := by decide +kernel
theorem dX6_done_92 : decode cX6_done 92 = .ok (.iload 5, 2) := by decide +kernel
theorem dX6_done_94 : decode cX6_done 94 = .ok (.invokevirtual 242, 3) := by decide +kernel
theorem dX6_done_97 : decode cX6_done 97 = .ok (.ireturn, 1) := by decide +kernel
theorem dX6_done_98 : decode cX6_done 98 = .ok (.aload_n 0, 1) := by decide +kernel
theorem dX6_done_99 : decode cX6_done 99 = .ok (.iload_n 2, 1) := by decide +kernel
theorem dX6_done_100 : decode cX6_done 100 = .ok (.invokevirtual 245, 3) := by decide +kernel
theorem dX6_done_103 : decode cX6_done 103 = .ok (.ifCond .lt 7, 3) := by decide +kernel
theorem dX6_done_106 : decode cX6_done 106 = .ok (.iconst 1, 1) := by decide +kernel
theorem dX6_done_107 : decode cX6_done 107 = .ok (.goto 4, 3) := by decide +kernel
theorem dX6_done_110 : decode cX6_done 110 = .ok (.iconst 0, 1) := by decide +kernel
theorem dX6_done_111 : decode cX6_done 111 = .ok (.ireturn, 1) := by decide +kernel
theorem dX6_done_112 : decode cX6_done 112 = .ok (.aload_n 0, 1) := by decide +kernel
theorem dX6_done_113 : decode cX6_done 113 = .ok (.iload_n 2, 1) := by decide +kernel
theorem dX6_done_114 : decode cX6_done 114 = .ok (.invokevirtual 248, 3) := by decide +kernel
theorem dX6_done_117 : decode cX6_done 117 = .ok (.ifCond .lt 7, 3) := by decide +kernel
theorem dX6_done_120 : decode cX6_done 120 = .ok (.iconst 1, 1) := by decide +kernel
theorem dX6_done_121 : decode cX6_done 121 = .ok (.goto 4, 3) := by decide +kernel
theorem dX6_done_124 : decode cX6_done 124 = .ok (.iconst 0, 1) := by decide +kernel
theorem dX6_done_125 : decode cX6_done 125 = .ok (.ireturn, 1) := by decide +kernel
theorem dX6_done_126 : decode cX6_done 126 = .ok (.aload_n 0, 1) := by decide +kernel
theorem dX6_done_127 : decode cX6_done 127 = .ok (.iload_n 2, 1) := by decide +kernel
theorem dX6_done_128 : decode cX6_done 128 = .ok (.invokevirtual 251, 3) := by decide +kernel
theorem dX6_done_131 : decode cX6_done 131 = .ok (.ireturn, 1) := by decide +kernel
theorem dX6_done_132 : decode cX6_done 132 = .ok (.aload_n 0, 1) := by decide +kernel
theorem dX6_done_133 : decode cX6_done 133 = .ok (.iload_n 2, 1) := by decide +kernel
theorem dX6_done_134 : decode cX6_done 134 = .ok (.iload_n 3, 1) := by decide +kernel
theorem dX6_done_135 : decode cX6_done 135 = .ok (.invokevirtual 254, 3) := by decide +kernel
theorem dX6_done_138 : decode cX6_done 138 = .ok (.ireturn, 1) := by decide +kernel
theorem dX6_isInt_0 : decode cX6_isInt 0 = .ok (.lload_n 0, 1) := by decide +kernel
theorem dX6_isInt_1 : decode cX6_isInt 1 = .ok (.lload_n 0, 1) := by decide +kernel
theorem dX6_isInt_2 : decode cX6_isInt 2 = .ok (.l2i, 1) := by decide +kernel
theorem dX6_isInt_3 : decode cX6_isInt 3 = .ok (.i2l, 1) := by decide +kernel
theorem dX6_isInt_4 : decode cX6_isInt 4 = .ok (.lcmp, 1) := by decide +kernel
theorem dX6_isInt_5 : decode cX6_isInt 5 = .ok (.ifCond .ne 7, 3) := by decide +kernel
theorem dX6_isInt_8 : decode cX6_isInt 8 = .ok (.iconst 1, 1) := by decide +kernel
theorem dX6_isInt_9 : decode cX6_isInt 9 = .ok (.goto 4, 3) := by decide +kernel
theorem dX6_isInt_12 : decode cX6_isInt 12 = .ok (.iconst 0, 1) := by decide +kernel
theorem dX6_isInt_13 : decode cX6_isInt 13 = .ok (.ireturn, 1) := by decide +kernel
theorem dX6_script_0 : decode cX6_script 0 = .ok (.aload_n 0, 1) := by decide +kernel
theorem dX6_script_1 : decode cX6_script 1 = .ok (.iconst 0, 1) := by decide +kernel
theorem dX6_script_2 : decode cX6_script 2 = .ok (.putfield 64, 3) := by decide +kernel
theorem dX6_script_5 : decode cX6_script 5 = .ok (.iload_n 1, 1) := by decide +kernel
theorem dX6_script_6 : decode cX6_script 6 = .ok (.invokestatic 223, 3) := by decide +kernel
theorem dX6_script_9 : decode cX6_script 9 = .ok (.ifCond .ne 6, 3) := by decide +kernel
theorem dX6_script_12 : decode cX6_script 12 = .ok (.bipush (-2), 2) := by decide +kernel
theorem dX6_script_14 : decode cX6_script 14 = .ok (.ireturn, 1) := by decide +kernel
theorem dX6_script_15 : decode cX6_script 15 = .ok (.aload_n 0, 1) := by decide +kernel
theorem dX6_script_16 : decode cX6_script 16 = .ok (.getfield 44, 3) := by decide +kernel
theorem dX6_script_19 : decode cX6_script 19 = .ok (.iload_n 1, 1) := by decide +kernel
theorem dX6_script_20 : decode cX6_script 20 = .ok (.iaload, 1) := by decide +kernel
theorem dX6_script_21 : decode cX6_script 21 = .ok (.ifCond .ge 6, 3) := by decide +kernel
theorem dX6_script_24 : decode cX6_script 24 = .ok (.bipush (-5), 2) := by decide +kernel
theorem dX6_script_26 : decode cX6_script 26 = .ok (.ireturn, 1) := by decide +kernel
theorem dX6_script_27 : decode cX6_script 27 = .ok (.iconst 0, 1) := by decide +kernel
theorem dX6_script_28 : decode cX6_script 28 = .ok (.istore_n 2, 1) := by decide +kernel
theorem dX6_script_29 : decode cX6_script 29 = .ok (.iconst 0, 1) := by decide +kernel
theorem dX6_script_30 : decode cX6_script 30 = .ok (.istore_n 3, 1) := by decide +kernel
theorem dX6_script_31 : decode cX6_script 31 = .ok (.aload_n 0, 1) := by decide +kernel
theorem dX6_script_32 : decode cX6_script 32 = .ok (.iconst 0, 1) := by decide +kernel
theorem dX6_script_33 : decode cX6_script 33 = .ok (.putfield 57, 3) := by decide +kernel
theorem dX6_script_36 : decode cX6_script 36 = .ok (.iload_n 3, 1) := by decide +kernel
theorem dX6_script_37 : decode cX6_script 37 = .ok (.aload_n 0, 1) := by decide +kernel
theorem dX6_script_38 : decode cX6_script 38 = .ok (.getfield 47, 3) := by decide +kernel
theorem dX6_script_41 : decode cX6_script 41 = .ok (.iload_n 1, 1) := by decide +kernel
theorem dX6_script_42 : decode cX6_script 42 = .ok (.iaload, 1) := by decide +kernel
theorem dX6_script_43 : decode cX6_script 43 = .ok (.if_icmp .ge 184, 3) := by decide +kernel
theorem dX6_script_46 : decode cX6_script 46 = .ok (.aload_n 0, 1) := by decide +kernel
theorem dX6_script_47 : decode cX6_script 47 = .ok (.getfield 50, 3) := by decide +kernel
theorem dX6_script_50 : decode cX6_script 50 = .ok (.bipush 60, 2) := by decide +kernel
theorem dX6_script_52 : decode cX6_script 52 = .ok (.iload_n 1, 1) := by decide +kernel
theorem dX6_script_53 : decode cX6_script 53 = .ok (.imul, 1) := by decide +kernel
theorem dX6_script_54 : decode cX6_script 54 = .ok (.iload_n 3, 1) := by decide +kernel
theorem dX6_script_55 : decode cX6_script 55 = .ok (.iadd, 1) := by decide +kernel
theorem dX6_script_56 : decode cX6_script 56 = .ok (.laload, 1) := by decide +kernel
theorem dX6_script_57 : decode cX6_script 57 = .ok (.lstore 4, 2) := by decide +kernel
theorem dX6_script_59 : decode cX6_script 59 = .ok (.lload 4, 2) := by decide +kernel
theorem dX6_script_61 : decode cX6_script 61 = .ok (.lconst 0, 1) := by decide +kernel
theorem dX6_script_62 : decode cX6_script 62 = .ok (.lcmp, 1) := by decide +kernel
theorem dX6_script_63 : decode cX6_script 63 = .ok (.ifCond .lt 12, 3) := by decide +kernel
theorem dX6_script_66 : decode cX6_script 66 = .ok (.lload 4, 2) := by decide +kernel
theorem dX6_script_68 : decode cX6_script 68 = .ok (.ldc2_w 258, 3) := by decide +kernel
theorem dX6_script_71 : decode cX6_script 71 = .ok (.lcmp, 1) := by decide +kernel
theorem dX6_script_72 : decode cX6_script 72 = .ok (.ifCond .le 10, 3) := by decide +kernel
theorem dX6_script_75 : decode cX6_script 75 = .ok (.aload_n 0, 1) := by decide +kernel
theorem dX6_script_76 : decode cX6_script 76 = .ok (.iconst 4, 1) := by decide +kernel
theorem dX6_script_77 : decode cX6_script 77 = .ok (.putfield 57, 3) := by decide +kernel
theorem dX6_script_80 : decode cX6_script 80 = .ok (.iload_n 2, 1) := by decide +kernel
theorem dX6_script_81 : decode cX6_script 81 = .ok (.ireturn, 1) := by decide +kernel
theorem dX6_script_82 : decode cX6_script 82 = .ok (.getstatic 260, 3) := by decide +kernel
theorem dX6_script_85 : decode cX6_script 85 = .ok (.lload 4, 2) := by decide +kernel
theorem dX6_script_87 : decode cX6_script 87 = .ok (.l2i, 1) := by decide +kernel
theorem dX6_script_88 : decode cX6_script 88 = .ok (.iaload, 1) := by decide +kernel
theorem dX6_script_89 : decode cX6_script 89 = .ok (.istore 6, 2) := by decide +kernel
theorem dX6_script_91 : decode cX6_script 91 = .ok (.iconst 0, 1) := by decide +kernel
theorem dX6_script_92 : decode cX6_script 92 = .ok (.istore 7, 2) := by decide +kernel
theorem dX6_script_94 : decode cX6_script 94 = .ok (.iload 7, 2) := by decide +kernel
theorem dX6_script_96 : decode cX6_script 96 = .ok (.iload 6, 2) := by decide +kernel
theorem dX6_script_98 : decode cX6_script 98 = .ok (.if_icmp .ge 75, 3) := by decide +kernel
theorem dX6_script_101 : decode cX6_script 101 = .ok (.iload_n 3, 1) := by decide +kernel
theorem dX6_script_102 : decode cX6_script 102 = .ok (.iconst 1, 1) := by decide +kernel
theorem dX6_script_103 : decode cX6_script 103 = .ok (.iadd, 1) := by decide +kernel
theorem dX6_script_104 : decode cX6_script 104 = .ok (.iload 7, 2) := by decide +kernel
theorem dX6_script_106 : decode cX6_script 106 = .ok (.iadd, 1) := by decide +kernel
theorem dX6_script_107 : decode cX6_script 107 = .ok (.aload_n 0, 1) := by decide +kernel
theorem dX6_script_108 : decode cX6_script 108 = .ok (.getfield 47, 3) := by decide +kernel
theorem dX6_script_111 : decode cX6_script 111 = .ok (.iload_n 1, 1) := by decide +kernel
theorem dX6_script_112 : decode cX6_script 112 = .ok (.iaload, 1) := by decide +kernel
theorem dX6_script_113 : decode cX6_script 113 = .ok (.if_icmp .lt 11, 3) := by decide +kernel
theorem dX6_script_116 : decode cX6_script 116 = .ok (.aload_n 0, 1) := by decide +kernel
theorem dX6_script_117 : decode cX6_script 117 = .ok (.bipush 6, 2) := by decide +kernel
theorem dX6_script_119 : decode cX6_script 119 = .ok (.putfield 57, 3) := by decide +kernel
theorem dX6_script_122 : decode cX6_script 122 = .ok (.iload_n 2, 1) := by decide +kernel
theorem dX6_script_123 : decode cX6_script 123 = .ok (.ireturn, 1) := by decide +kernel
theorem dX6_script_124 : decode cX6_script 124 = .ok (.aload_n 0, 1) := by decide +kernel
theorem dX6_script_125 : decode cX6_script 125 = .ok (.getfield 50, 3) := by decide +kernel
theorem dX6_script_128 : decode cX6_script 128 = .ok (.bipush 60, 2) := by decide +kernel
theorem dX6_script_130 : decode cX6_script 130 = .ok (.iload_n 1, 1) := by decide +kernel
theorem dX6_script_131 : decode cX6_script 131 = .ok (.imul, 1) := by decide +kernel
theorem dX6_script_132 : decode cX6_script 132 = .ok (.iload_n 3, 1) := by decide +kernel
theorem dX6_script_133 : decode cX6_script 133 = .ok (.iadd, 1) := by decide +kernel
theorem dX6_script_134 : decode cX6_script 134 = .ok (.iconst 1, 1) := by decide +kernel
theorem dX6_script_135 : decode cX6_script 135 = .ok (.iadd, 1) := by decide +kernel
theorem dX6_script_136 : decode cX6_script 136 = .ok (.iload 7, 2) := by decide +kernel
theorem dX6_script_138 : decode cX6_script 138 = .ok (.iadd, 1) := by decide +kernel
theorem dX6_script_139 : decode cX6_script 139 = .ok (.laload, 1) := by decide +kernel
theorem dX6_script_140 : decode cX6_script 140 = .ok (.lstore 8, 2) := by decide +kernel
theorem dX6_script_142 : decode cX6_script 142 = .ok (.lload 8, 2) := by decide +kernel
theorem dX6_script_144 : decode cX6_script 144 = .ok (.invokestatic 263, 3) := by decide +kernel
theorem dX6_script_147 : decode cX6_script 147 = .ok (.ifCond .ne 10, 3) := by decide +kernel
theorem dX6_script_150 : decode cX6_script 150 = .ok (.aload_n 0, 1) := by decide +kernel
theorem dX6_script_151 : decode cX6_script 151 = .ok (.iconst 4, 1) := by decide +kernel
theorem dX6_script_152 : decode cX6_script 152 = .ok (.putfield 57, 3) := by decide +kernel
theorem dX6_script_155 : decode cX6_script 155 = .ok (.iload_n 2, 1) := by decide +kernel
theorem dX6_script_156 : decode cX6_script 156 = .ok (.ireturn, 1) := by decide +kernel
theorem dX6_script_157 : decode cX6_script 157 = .ok (.aload_n 0, 1) := by decide +kernel
theorem dX6_script_158 : decode cX6_script 158 = .ok (.getfield 61, 3) := by decide +kernel
theorem dX6_script_161 : decode cX6_script 161 = .ok (.iload 7, 2) := by decide +kernel
theorem dX6_script_163 : decode cX6_script 163 = .ok (.lload 8, 2) := by decide +kernel
theorem dX6_script_165 : decode cX6_script 165 = .ok (.l2i, 1) := by decide +kernel
theorem dX6_script_166 : decode cX6_script 166 = .ok (.iastore, 1) := by decide +kernel
theorem dX6_script_167 : decode cX6_script 167 = .ok (.iinc 7 1, 3) := by decide +kernel
theorem dX6_script_170 : decode cX6_script 170 = .ok (.goto (-76), 3) := by decide +kernel
theorem dX6_script_173 : decode cX6_script 173 = .ok (.aload_n 0, 1) := by decide +kernel
theorem dX6_script_174 : decode cX6_script 174 = .ok (.lload 4, 2) := by decide +kernel
theorem dX6_script_176 : decode cX6_script 176 = .ok (.l2i, 1) := by decide +kernel
theorem dX6_script_177 : decode cX6_script 177 = .ok (.aload_n 0, 1) := by decide +kernel
theorem dX6_script_178 : decode cX6_script 178 = .ok (.getfield 61, 3) := by decide +kernel
theorem dX6_script_181 : decode cX6_script 181 = .ok (.iconst 0, 1) := by decide +kernel
theorem dX6_script_182 : decode cX6_script 182 = .ok (.iaload, 1) := by decide +kernel
theorem dX6_script_183 : decode cX6_script 183 = .ok (.aload_n 0, 1) := by decide +kernel
theorem dX6_script_184 : decode cX6_script 184 = .ok (.getfield 61, 3) := by decide +kernel
theorem dX6_script_187 : decode cX6_script 187 = .ok (.iconst 1, 1) := by decide +kernel
theorem dX6_script_188 : decode cX6_script 188 = .ok (.iaload, 1) := by decide +kernel
theorem dX6_script_189 : decode cX6_script 189 = .ok (.aload_n 0, 1) := by decide +kernel
theorem dX6_script_190 : decode cX6_script 190 = .ok (.getfield 61, 3) := by decide +kernel
theorem dX6_script_193 : decode cX6_script 193 = .ok (.iconst 2, 1) := by decide +kernel
theorem dX6_script_194 : decode cX6_script 194 = .ok (.iaload, 1) := by decide +kernel
theorem dX6_script_195 : decode cX6_script 195 = .ok (.aload_n 0, 1) := by decide +kernel
theorem dX6_script_196 : decode cX6_script 196 = .ok (.getfield 61, 3) := by decide +kernel
theorem dX6_script_199 : decode cX6_script 199 = .ok (.iconst 3, 1) := by decide +kernel
theorem dX6_script_200 : decode cX6_script 200 = .ok (.iaload, 1) := by decide +kernel
theorem dX6_script_201 : decode cX6_script 201 = .ok (.invokevirtual 267, 3) := by decide +kernel
theorem dX6_script_204 : decode cX6_script 204 = .ok (.ifCond .ne 10, 3) := by decide +kernel
theorem dX6_script_207 : decode cX6_script 207 = .ok (.aload_n 0, 1) := by decide +kernel
theorem dX6_script_208 : decode cX6_script 208 = .ok (.iconst 3, 1) := by decide +kernel
theorem dX6_script_209 : decode cX6_script 209 = .ok (.putfield 57, 3) := by decide +kernel
theorem dX6_script_212 : decode cX6_script 212 = .ok (.iload_n 2, 1) := by decide +kernel
theorem dX6_script_213 : decode cX6_script 213 = .ok (.ireturn, 1) := by decide +kernel
theorem dX6_script_214 : decode cX6_script 214 = .ok (.iinc 2 1, 3) := by decide +kernel
theorem dX6_script_217 : decode cX6_script 217 = .ok (.iload_n 3, 1) := by decide +kernel
theorem dX6_script_218 : decode cX6_script 218 = .ok (.iload 6, 2) := by decide +kernel
theorem dX6_script_220 : decode cX6_script 220 = .ok (.iconst 1, 1) := by decide +kernel
theorem dX6_script_221 : decode cX6_script 221 = .ok (.iadd, 1) := by decide +kernel
theorem dX6_script_222 : decode cX6_script 222 = .ok (.iadd, 1) := by decide +kernel
theorem dX6_script_223 : decode cX6_script 223 = .ok (.istore_n 3, 1) := by decide +kernel
theorem dX6_script_224 : decode cX6_script 224 = .ok (.goto (-188), 3) := by decide +kernel
theorem dX6_script_227 : decode cX6_script 227 = .ok (.iload_n 2, 1) := by decide +kernel
theorem dX6_script_228 : decode cX6_script 228 = .ok (.ireturn, 1) := by decide +kernel
theorem dX6_why_0 : decode cX6_why 0 = .ok (.aload_n 0, 1) := by decide +kernel
theorem dX6_why_1 : decode cX6_why 1 = .ok (.iconst 0, 1) := by decide +kernel
theorem dX6_why_2 : decode cX6_why 2 = .ok (.putfield 64, 3) := by decide +kernel
theorem dX6_why_5 : decode cX6_why 5 = .ok (.aload_n 0, 1) := by decide +kernel
theorem dX6_why_6 : decode cX6_why 6 = .ok (.getfield 57, 3) := by decide +kernel
theorem dX6_why_9 : decode cX6_why 9 = .ok (.ireturn, 1) := by decide +kernel
