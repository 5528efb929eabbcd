theorem dX6_says_0 : decode cX6_says 0 = .ok (.iload_n 1, 1) := by decide +kernel
theorem dX6_says_1 : decode cX6_says 1 = .ok (.invokestatic 54, 3) := by decide +kernel
theorem dX6_says_4 : decode cX6_says 4 = .ok (.ifCond .eq 10, 3) := by decide +kernel
theorem dX6_says_7 : decode cX6_says 7 = .ok (.iload_n 2, 1) := by decide +kernel
theorem dX6_says_8 : decode cX6_says 8 = .ok (.invokestatic 112, 3) := by decide +kernel
theorem dX6_says_11 : decode cX6_says 11 = .ok (.ifCond .ne 10, 3) := by decide +kernel
theorem dX6_says_14 : decode cX6_says 14 = .ok (.aload_n 0, 1) := by decide +kernel
theorem dX6_says_15 : decode cX6_says 15 = .ok (.bipush (-2), 2) := by decide +kernel
theorem dX6_says_17 : decode cX6_says 17 = .ok (.invokevirtual 58, 3) := by decide +kernel
theorem dX6_says_20 : decode cX6_says 20 = .ok (.ireturn, 1) := by decide +kernel
theorem dX6_says_21 : decode cX6_says 21 = .ok (.aload_n 0, 1) := by decide +kernel
theorem dX6_says_22 : decode cX6_says 22 = .ok (.getfield 24, 3) := by decide +kernel
theorem dX6_says_25 : decode cX6_says 25 = .ok (.iload_n 1, 1) := by decide +kernel
theorem dX6_says_26 : decode cX6_says 26 = .ok (.aaload, 1) := by decide +kernel
theorem dX6_says_27 : decode cX6_says 27 = .ok (.astore_n 3, 1) := by decide +kernel
theorem dX6_says_28 : decode cX6_says 28 = .ok (.aload_n 3, 1) := by decide +kernel
theorem dX6_says_29 : decode cX6_says 29 = .ok (.invokevirtual 81, 3) := by decide +kernel
theorem dX6_says_32 : decode cX6_says 32 = .ok (.ifCond .eq 10, 3) := by decide +kernel
theorem dX6_says_35 : decode cX6_says 35 = .ok (.aload_n 0, 1) := by decide +kernel
theorem dX6_says_36 : decode cX6_says 36 = .ok (.bipush (-4), 2) := by decide +kernel
theorem dX6_says_38 : decode cX6_says 38 = .ok (.invokevirtual 58, 3) := by decide +kernel
theorem dX6_says_41 : decode cX6_says 41 = .ok (.ireturn, 1) := by decide +kernel
theorem dX6_says_42 : decode cX6_says 42 = .ok (.aload_n 3, 1) := by decide +kernel
theorem dX6_says_43 : decode cX6_says 43 = .ok (.invokevirtual 77, 3) := by decide +kernel
theorem dX6_says_46 : decode cX6_says 46 = .ok (.ifCond .eq 17, 3) := by decide +kernel
theorem dX6_says_49 : decode cX6_says 49 = .ok (.aload_n 0, 1) := by decide +kernel
theorem dX6_says_50 : decode cX6_says 50 = .ok (.getfield 10, 3) := by decide +kernel
theorem dX6_says_53 : decode cX6_says 53 = .ok (.aload_n 3, 1) := by decide +kernel
theorem dX6_says_54 : decode cX6_says 54 = .ok (.invokevirtual 115, 3) := by decide +kernel
theorem dX6_says_57 : decode cX6_says 57 = .ok (.invokevirtual 102, 3) := by decide +kernel
theorem dX6_says_60 : decode cX6_says 60 = .ok (.ifCond .ne 10, 3) := by decide +kernel
theorem dX6_says_63 : decode cX6_says 63 = .ok (.aload_n 0, 1) := by decide +kernel
theorem dX6_says_64 : decode cX6_says 64 = .ok (.bipush (-3), 2) := by decide +kernel
theorem dX6_says_66 : decode cX6_says 66 = .ok (.invokevirtual 58, 3) := by decide +kernel
theorem dX6_says_69 : decode cX6_says 69 = .ok (.ireturn, 1) := by decide +kernel
theorem dX6_says_70 : decode cX6_says 70 = .ok (.aload_n 3, 1) := by decide +kernel
theorem dX6_says_71 : decode cX6_says 71 = .ok (.invokevirtual 115, 3) := by decide +kernel
theorem dX6_says_74 : decode cX6_says 74 = .ok (.istore 4, 2) := by decide +kernel
theorem dX6_says_76 : decode cX6_says 76 = .ok (.aload_n 0, 1) := by decide +kernel
theorem dX6_says_77 : decode cX6_says 77 = .ok (.getfield 10, 3) := by decide +kernel
theorem dX6_says_80 : decode cX6_says 80 = .ok (.getfield 119, 3) := by decide +kernel
theorem dX6_says_83 : decode cX6_says 83 = .ok (.iload 4, 2) := by decide +kernel
theorem dX6_says_85 : decode cX6_says 85 = .ok (.iaload, 1) := by decide +kernel
theorem dX6_says_86 : decode cX6_says 86 = .ok (.iload_n 2, 1) := by decide +kernel
theorem dX6_says_87 : decode cX6_says 87 = .ok (.invokestatic 122, 3) := by decide +kernel
theorem dX6_says_90 : decode cX6_says 90 = .ok (.ifCond .ne 10, 3) := by decide +kernel
theorem dX6_says_93 : decode cX6_says 93 = .ok (.aload_n 0, 1) := by decide +kernel
theorem dX6_says_94 : decode cX6_says 94 = .ok (.bipush (-3), 2) := by decide +kernel
theorem dX6_says_96 : decode cX6_says 96 = .ok (.invokevirtual 58, 3) := by decide +kernel
theorem dX6_says_99 : decode cX6_says 99 = .ok (.ireturn, 1) := by decide +kernel
theorem dX6_says_100 : decode cX6_says 100 = .ok (.aload_n 0, 1) := by decide +kernel
theorem dX6_says_101 : decode cX6_says 101 = .ok (.iload 4, 2) := by decide +kernel
theorem dX6_says_103 : decode cX6_says 103 = .ok (.iload_n 2, 1) := by decide +kernel
theorem dX6_says_104 : decode cX6_says 104 = .ok (.invokevirtual 125, 3) := by decide +kernel
theorem dX6_says_107 : decode cX6_says 107 = .ok (.ireturn, 1) := by decide +kernel
theorem dX6_isRoom_0 : decode cX6_isRoom 0 = .ok (.iload_n 0, 1) := by decide +kernel
theorem dX6_isRoom_1 : decode cX6_isRoom 1 = .ok (.ifCond .lt 13, 3) := by decide +kernel
theorem dX6_isRoom_4 : decode cX6_isRoom 4 = .ok (.iload_n 0, 1) := by decide +kernel
theorem dX6_isRoom_5 : decode cX6_isRoom 5 = .ok (.bipush 8, 2) := by decide +kernel
theorem dX6_isRoom_7 : decode cX6_isRoom 7 = .ok (.if_icmp .ge 7, 3) := by decide +kernel
theorem dX6_isRoom_10 : decode cX6_isRoom 10 = .ok (.iconst 1, 1) := by decide +kernel
theorem dX6_isRoom_11 : decode cX6_isRoom 11 = .ok (.goto 4, 3) := by decide +kernel
theorem dX6_isRoom_14 : decode cX6_isRoom 14 = .ok (.iconst 0, 1) := by decide +kernel
theorem dX6_isRoom_15 : decode cX6_isRoom 15 = .ok (.ireturn, 1) := by decide +kernel
theorem dX6_door_0 : decode cX6_door 0 = .ok (.iload_n 1, 1) := by decide +kernel
theorem dX6_door_1 : decode cX6_door 1 = .ok (.invokestatic 112, 3) := by decide +kernel
theorem dX6_door_4 : decode cX6_door 4 = .ok (.ifCond .eq 10, 3) := by decide +kernel
theorem dX6_door_7 : decode cX6_door 7 = .ok (.iload_n 2, 1) := by decide +kernel
theorem dX6_door_8 : decode cX6_door 8 = .ok (.invokestatic 129, 3) := by decide +kernel
theorem dX6_door_11 : decode cX6_door 11 = .ok (.ifCond .ne 10, 3) := by decide +kernel
theorem dX6_door_14 : decode cX6_door 14 = .ok (.aload_n 0, 1) := by decide +kernel
theorem dX6_door_15 : decode cX6_door 15 = .ok (.bipush (-2), 2) := by decide +kernel
theorem dX6_door_17 : decode cX6_door 17 = .ok (.invokevirtual 58, 3) := by decide +kernel
theorem dX6_door_20 : decode cX6_door 20 = .ok (.ireturn, 1) := by decide +kernel
theorem dX6_door_21 : decode cX6_door 21 = .ok (.iload_n 1, 1) := by decide +kernel
theorem dX6_door_22 : decode cX6_door 22 = .ok (.iconst 1, 1) := by decide +kernel
theorem dX6_door_23 : decode cX6_door 23 = .ok (.if_icmp .eq 22, 3) := by decide +kernel
theorem dX6_door_26 : decode cX6_door 26 = .ok (.iload_n 3, 1) := by decide +kernel
theorem dX6_door_27 : decode cX6_door 27 = .ok (.invokestatic 129, 3) := by decide +kernel
theorem dX6_door_30 : decode cX6_door 30 = .ok (.ifCond .eq 8, 3) := by decide +kernel
theorem dX6_door_33 : decode cX6_door 33 = .ok (.iload_n 2, 1) := by decide +kernel
theorem dX6_door_34 : decode cX6_door 34 = .ok (.iload_n 3, 1) := by decide +kernel
theorem dX6_door_35 : decode cX6_door 35 = .ok (.if_icmp .ne 10, 3) := by decide +kernel
theorem dX6_door_38 : decode cX6_door 38 = .ok (.aload_n 0, 1) := by decide +kernel
theorem dX6_door_39 : decode cX6_door 39 = .ok (.bipush (-2), 2) := by decide +kernel
theorem dX6_door_41 : decode cX6_door 41 = .ok (.invokevirtual 58, 3) := by decide +kernel
theorem dX6_door_44 : decode cX6_door 44 = .ok (.ireturn, 1) := by decide +kernel
theorem dX6_door_45 : decode cX6_door 45 = .ok (.aload_n 0, 1) := by decide +kernel
theorem dX6_door_46 : decode cX6_door 46 = .ok (.getfield 10, 3) := by decide +kernel
theorem dX6_door_49 : decode cX6_door 49 = .ok (.getfield 132, 3) := by decide +kernel
theorem dX6_door_52 : decode cX6_door 52 = .ok (.bipush 14, 2) := by decide +kernel
theorem dX6_door_54 : decode cX6_door 54 = .ok (.if_icmp .lt 10, 3) := by decide +kernel
theorem dX6_door_57 : decode cX6_door 57 = .ok (.aload_n 0, 1) := by decide +kernel
theorem dX6_door_58 : decode cX6_door 58 = .ok (.bipush (-6), 2) := by decide +kernel
theorem dX6_door_60 : decode cX6_door 60 = .ok (.invokevirtual 58, 3) := by decide +kernel
theorem dX6_door_63 : decode cX6_door 63 = .ok (.ireturn, 1) := by decide +kernel
theorem dX6_door_64 : decode cX6_door 64 = .ok (.aload_n 0, 1) := by decide +kernel
theorem dX6_door_65 : decode cX6_door 65 = .ok (.getfield 10, 3) := by decide +kernel
theorem dX6_door_68 : decode cX6_door 68 = .ok (.iload_n 1, 1) := by decide +kernel
theorem dX6_door_69 : decode cX6_door 69 = .ok (.iload_n 2, 1) := by decide +kernel
theorem dX6_door_70 : decode cX6_door 70 = .ok (.iload_n 3, 1) := by decide +kernel
theorem dX6_door_71 : decode cX6_door 71 = .ok (.invokevirtual 135, 3) := by decide +kernel
theorem dX6_door_74 : decode cX6_door 74 = .ok (.ireturn, 1) := by decide +kernel
theorem dX6_one_0 : decode cX6_one 0 = .ok (.iload_n 1, 1) := by decide +kernel
theorem dX6_one_1 : decode cX6_one 1 = .ok (.invokestatic 129, 3) := by decide +kernel
theorem dX6_one_4 : decode cX6_one 4 = .ok (.ifCond .ne 10, 3) := by decide +kernel
theorem dX6_one_7 : decode cX6_one 7 = .ok (.aload_n 0, 1) := by decide +kernel
theorem dX6_one_8 : decode cX6_one 8 = .ok (.bipush (-2), 2) := by decide +kernel
theorem dX6_one_10 : decode cX6_one 10 = .ok (.invokevirtual 58, 3) := by decide +kernel
theorem dX6_one_13 : decode cX6_one 13 = .ok (.ireturn, 1) := by decide +kernel
theorem dX6_one_14 : decode cX6_one 14 = .ok (.aload_n 0, 1) := by decide +kernel
theorem dX6_one_15 : decode cX6_one 15 = .ok (.getfield 10, 3) := by decide +kernel
theorem dX6_one_18 : decode cX6_one 18 = .ok (.getfield 139, 3) := by decide +kernel
theorem dX6_one_21 : decode cX6_one 21 = .ok (.iconst 4, 1) := by decide +kernel
theorem dX6_one_22 : decode cX6_one 22 = .ok (.if_icmp .lt 10, 3) := by decide +kernel
theorem dX6_one_25 : decode cX6_one 25 = .ok (.aload_n 0, 1) := by decide +kernel
theorem dX6_one_26 : decode cX6_one 26 = .ok (.bipush (-6), 2) := by decide +kernel
theorem dX6_one_28 : decode cX6_one 28 = .ok (.invokevirtual 58, 3) := by decide +kernel
theorem dX6_one_31 : decode cX6_one 31 = .ok (.ireturn, 1) := by decide +kernel
theorem dX6_one_32 : decode cX6_one 32 = .ok (.aload_n 0, 1) := by decide +kernel
theorem dX6_one_33 : decode cX6_one 33 = .ok (.getfield 10, 3) := by decide +kernel
theorem dX6_one_36 : decode cX6_one 36 = .ok (.iload_n 1, 1) := by decide +kernel
theorem dX6_one_37 : decode cX6_one 37 = .ok (.invokevirtual 142, 3) := by decide +kernel
theorem dX6_one_40 : decode cX6_one 40 = .ok (.ireturn, 1) := by decide +kernel
theorem dX6_ask_0 : decode cX6_ask 0 = .ok (.iload_n 1, 1) := by decide +kernel
theorem dX6_ask_1 : decode cX6_ask 1 = .ok (.ifCond .ne 31, 3) := by decide +kernel
theorem dX6_ask_4 : decode cX6_ask 4 = .ok (.iload_n 2, 1) := by decide +kernel
theorem dX6_ask_5 : decode cX6_ask 5 = .ok (.iconst 1, 1) := by decide +kernel
theorem dX6_ask_6 : decode cX6_ask 6 = .ok (.if_icmp .lt 26, 3) := by decide +kernel
theorem dX6_ask_9 : decode cX6_ask 9 = .ok (.iload_n 2, 1) := by decide +kernel
theorem dX6_ask_10 : decode cX6_ask 10 = .ok (.iconst 4, 1) := by decide +kernel
theorem dX6_ask_11 : decode cX6_ask 11 = .ok (.if_icmp .gt 21, 3) := by decide +kernel
theorem dX6_ask_14 : decode cX6_ask 14 = .ok (.aload_n 0, 1) := by decide +kernel
theorem dX6_ask_15 : decode cX6_ask 15 = .ok (.getfield 10, 3) := by decide +kernel
theorem dX6_ask_18 : decode cX6_ask 18 = .ok (.getfield 145, 3) := by decide +kernel
theorem dX6_ask_21 : decode cX6_ask 21 = .ok (.istore_n 3, 1) := by decide +kernel
theorem dX6_ask_22 : decode cX6_ask 22 = .ok (.aload_n 0, 1) := by decide +kernel
theorem dX6_ask_23 : decode cX6_ask 23 = .ok (.getfield 10, 3) := by decide +kernel
theorem dX6_ask_26 : decode cX6_ask 26 = .ok (.iload_n 2, 1) := by decide +kernel
theorem dX6_ask_27 : decode cX6_ask 27 = .ok (.putfield 145, 3) := by decide +kernel
theorem dX6_ask_30 : decode cX6_ask 30 = .ok (.iload_n 3, 1) := by decide +kernel
theorem dX6_ask_31 : decode cX6_ask 31 = .ok (.ireturn, 1) := by decide +kernel
theorem dX6_ask_32 : decode cX6_ask 32 = .ok (.iload_n 1, 1) := by decide +kernel
theorem dX6_ask_33 : decode cX6_ask 33 = .ok (.iconst 1, 1) := by decide +kernel
theorem dX6_ask_34 : decode cX6_ask 34 = .ok (.if_icmp .ne 31, 3) := by decide +kernel
theorem dX6_ask_37 : decode cX6_ask 37 = .ok (.iload_n 2, 1) := by decide +kernel
theorem dX6_ask_38 : decode cX6_ask 38 = .ok (.ifCond .lt 27, 3) := by decide +kernel
theorem dX6_ask_41 : decode cX6_ask 41 = .ok (.iload_n 2, 1) := by decide +kernel
theorem dX6_ask_42 : decode cX6_ask 42 = .ok (.bipush 99, 2) := by decide +kernel
theorem dX6_ask_44 : decode cX6_ask 44 = .ok (.if_icmp .gt 21, 3) := by decide +kernel
theorem dX6_ask_47 : decode cX6_ask 47 = .ok (.aload_n 0, 1) := by decide +kernel
theorem dX6_ask_48 : decode cX6_ask 48 = .ok (.getfield 10, 3) := by decide +kernel
theorem dX6_ask_51 : decode cX6_ask 51 = .ok (.getfield 148, 3) := by decide +kernel
theorem dX6_ask_54 : decode cX6_ask 54 = .ok (.istore_n 3, 1) := by decide +kernel
theorem dX6_ask_55 : decode cX6_ask 55 = .ok (.aload_n 0, 1) := by decide +kernel
theorem dX6_ask_56 : decode cX6_ask 56 = .ok (.getfield 10, 3) := by decide +kernel
theorem dX6_ask_59 : decode cX6_ask 59 = .ok (.iload_n 2, 1) := by decide +kernel
theorem dX6_ask_60 : decode cX6_ask 60 = .ok (.putfield 148, 3) := by decide +kernel
theorem dX6_ask_63 : decode cX6_ask 63 = .ok (.iload_n 3, 1) := by decide +kernel
theorem dX6_ask_64 : decode cX6_ask 64 = .ok (.ireturn, 1) := by decide +kernel
theorem dX6_ask_65 : decode cX6_ask 65 = .ok (.aload_n 0, 1) := by decide +kernel
theorem dX6_ask_66 : decode cX6_ask 66 = .ok (.bipush (-2), 2) := by decide +kernel
theorem dX6_ask_68 : decode cX6_ask 68 = .ok (.invokevirtual 58, 3) := by decide +kernel
theorem dX6_ask_71 : decode cX6_ask 71 = .ok (.ireturn, 1) := by decide +kernel
theorem dX6_stand_0 : decode cX6_stand 0 = .ok (.aload_n 0, 1) := by decide +kernel
theorem dX6_stand_1 : decode cX6_stand 1 = .ok (.getfield 10, 3) := by decide +kernel
theorem dX6_stand_4 : decode cX6_stand 4 = .ok (.iload_n 1, 1) := by decide +kernel
theorem dX6_stand_5 : decode cX6_stand 5 = .ok (.invokevirtual 102, 3) := by decide +kernel
theorem dX6_stand_8 : decode cX6_stand 8 = .ok (.ifCond .ne 10, 3) := by decide +kernel
theorem dX6_stand_11 : decode cX6_stand 11 = .ok (.aload_n 0, 1) := by decide +kernel
theorem dX6_stand_12 : decode cX6_stand 12 = .ok (.bipush (-2), 2) := by decide +kernel
theorem dX6_stand_14 : decode cX6_stand 14 = .ok (.invokevirtual 58, 3) := by decide +kernel
theorem dX6_stand_17 : decode cX6_stand 17 = .ok (.ireturn, 1) := by decide +kernel
theorem dX6_stand_18 : decode cX6_stand 18 = .ok (.aload_n 0, 1) := by decide +kernel
theorem dX6_stand_19 : decode cX6_stand 19 = .ok (.getfield 10, 3) := by decide +kernel
theorem dX6_stand_22 : decode cX6_stand 22 = .ok (.iload_n 1, 1) := by decide +kernel
theorem dX6_stand_23 : decode cX6_stand 23 = .ok (.invokevirtual 151, 3) := by decide +kernel
theorem dX6_stand_26 : decode cX6_stand 26 = .ok (.iload_n 2, 1) := by decide +kernel
theorem dX6_stand_27 : decode cX6_stand 27 = .ok (.if_icmp .ne 5, 3) := by decide +kernel
theorem dX6_stand_30 : decode cX6_stand 30 = .ok (.iconst 0, 1) := by decide +kernel
theorem dX6_stand_31 : decode cX6_stand 31 = .ok (.ireturn, 1) := by decide +kernel
theorem dX6_stand_32 : decode cX6_stand 32 = .ok (.aload_n 0, 1) := by decide +kernel
theorem dX6_stand_33 : decode cX6_stand 33 = .ok (.getfield 10, 3) := by decide +kernel
theorem dX6_stand_36 : decode cX6_stand 36 = .ok (.dup, 1) := by decide +kernel
theorem dX6_stand_37 : decode cX6_stand 37 = .ok (.getfield 154, 3) := by decide +kernel
theorem dX6_stand_40 : decode cX6_stand 40 = .ok (.iconst 1, 1) := by decide +kernel
theorem dX6_stand_41 : decode cX6_stand 41 = .ok (.iload_n 1, 1) := by decide +kernel
theorem dX6_stand_42 : decode cX6_stand 42 = .ok (.ishl, 1) := by decide +kernel
theorem dX6_stand_43 : decode cX6_stand 43 = .ok (.ixor, 1) := by decide +kernel
theorem dX6_stand_44 : decode cX6_stand 44 = .ok (.putfield 154, 3) := by decide +kernel
theorem dX6_stand_47 : decode cX6_stand 47 = .ok (.iconst 1, 1) := by decide +kernel
theorem dX6_stand_48 : decode cX6_stand 48 = .ok (.ireturn, 1) := by decide +kernel
theorem dX6_move_0 : decode cX6_move 0 = .ok (.aload_n 0, 1) := by decide +kernel
theorem dX6_move_1 : decode cX6_move 1 = .ok (.getfield 10, 3) := by decide +kernel
theorem dX6_move_4 : decode cX6_move 4 = .ok (.iload_n 1, 1) := by decide +kernel
theorem dX6_move_5 : decode cX6_move 5 = .ok (.invokevirtual 157, 3) := by decide +kernel
theorem dX6_move_8 : decode cX6_move 8 = .ok (.ifCond .eq 10, 3) := by decide +kernel
theorem dX6_move_11 : decode cX6_move 11 = .ok (.iload_n 2, 1) := by decide +kernel
theorem dX6_move_12 : decode cX6_move 12 = .ok (.invokestatic 129, 3) := by decide +kernel
theorem dX6_move_15 : decode cX6_move 15 = .ok (.ifCond .ne 10, 3) := by decide +kernel
theorem dX6_move_18 : decode cX6_move 18 = .ok (.aload_n 0, 1) := by decide +kernel
theorem dX6_move_19 : decode cX6_move 19 = .ok (.bipush (-2), 2) := by decide +kernel
theorem dX6_move_21 : decode cX6_move 21 = .ok (.invokevirtual 58, 3) := by decide +kernel
theorem dX6_move_24 : decode cX6_move 24 = .ok (.ireturn, 1) := by decide +kernel
theorem dX6_move_25 : decode cX6_move 25 = .ok (.aload_n 0, 1) := by decide +kernel
theorem dX6_move_26 : decode cX6_move 26 = .ok (.getfield 10, 3) := by decide +kernel
theorem dX6_move_29 : decode cX6_move 29 = .ok (.getfield 160, 3) := by decide +kernel
theorem dX6_move_32 : decode cX6_move 32 = .ok (.iload_n 1, 1) := by decide +kernel
theorem dX6_move_33 : decode cX6_move 33 = .ok (.iaload, 1) := by decide +kernel
theorem dX6_move_34 : decode cX6_move 34 = .ok (.istore_n 3, 1) := by decide +kernel
theorem dX6_move_35 : decode cX6_move 35 = .ok (.aload_n 0, 1) := by decide +kernel
theorem dX6_move_36 : decode cX6_move 36 = .ok (.getfield 10, 3) := by decide +kernel
theorem dX6_move_39 : decode cX6_move 39 = .ok (.getfield 160, 3) := by decide +kernel
theorem dX6_move_42 : decode cX6_move 42 = .ok (.iload_n 1, 1) := by decide +kernel
theorem dX6_move_43 : decode cX6_move 43 = .ok (.iload_n 2, 1) := by decide +kernel
theorem dX6_move_44 : decode cX6_move 44 = .ok (.iastore, 1) := by decide +kernel
theorem dX6_move_45 : decode cX6_move 45 = .ok (.iload_n 3, 1) := by decide +kernel
theorem dX6_move_46 : decode cX6_move 46 = .ok (.ireturn, 1) := by decide +kernel
theorem dX6_feed_0 : decode cX6_feed 0 = .ok (.iload_n 2, 1) := by decide +kernel
theorem dX6_feed_1 : decode cX6_feed 1 = .ok (.iconst 1, 1) := by decide +kernel
theorem dX6_feed_2 : decode cX6_feed 2 = .ok (.if_icmp .lt 8, 3) := by decide +kernel
theorem dX6_feed_5 : decode cX6_feed 5 = .ok (.iload_n 2, 1) := by decide +kernel
theorem dX6_feed_6 : decode cX6_feed 6 = .ok (.iconst 4, 1) := by decide +kernel
theorem dX6_feed_7 : decode cX6_feed 7 = .ok (.if_icmp .le 10, 3) := by decide +kernel
theorem dX6_feed_10 : decode cX6_feed 10 = .ok (.aload_n 0, 1) := by decide +kernel
theorem dX6_feed_11 : decode cX6_feed 11 = .ok (.bipush (-2), 2) := by decide +kernel
theorem dX6_feed_13 : decode cX6_feed 13 = .ok (.invokevirtual 58, 3) := by decide +kernel
theorem dX6_feed_16 : decode cX6_feed 16 = .ok (.ireturn, 1) := by decide +kernel
theorem dX6_feed_17 : decode cX6_feed 17 = .ok (.aload_n 0, 1) := by decide +kernel
theorem dX6_feed_18 : decode cX6_feed 18 = .ok (.getfield 31, 3) := by decide +kernel
theorem dX6_feed_21 : decode cX6_feed 21 = .ok (.getfield 163, 3) := by decide +kernel
theorem dX6_feed_24 : decode cX6_feed 24 = .ok (.iload_n 2, 1) := by decide +kernel
theorem dX6_feed_25 : decode cX6_feed 25 = .ok (.iadd, 1) := by decide +kernel
theorem dX6_feed_26 : decode cX6_feed 26 = .ok (.sipush 250, 3) := by decide +kernel
theorem dX6_feed_29 : decode cX6_feed 29 = .ok (.if_icmp .le 10, 3) := by decide +kernel
theorem dX6_feed_32 : decode cX6_feed 32 = .ok (.aload_n 0, 1) := by decide +kernel
theorem dX6_feed_33 : decode cX6_feed 33 = .ok (.bipush (-6), 2) := by decide +kernel
theorem dX6_feed_35 : decode cX6_feed 35 = .ok (.invokevirtual 58, 3) := by decide +kernel
theorem dX6_feed_38 : decode cX6_feed 38 = .ok (.ireturn, 1) := by decide +kernel
theorem dX6_feed_39 : decode cX6_feed 39 = .ok (.aload_n 0, 1) := by decide +kernel
theorem dX6_feed_40 : decode cX6_feed 40 = .ok (.getfield 31, 3) := by decide +kernel
theorem dX6_feed_43 : decode cX6_feed 43 = .ok (.iload_n 1, 1) := by decide +kernel
theorem dX6_feed_44 : decode cX6_feed 44 = .ok (.iload_n 2, 1) := by decide +kernel
theorem dX6_feed_45 : decode cX6_feed 45 = .ok (.invokevirtual 166, 3) := by decide +kernel
theorem dX6_feed_48 : decode cX6_feed 48 = .ok (.aload_n 0, 1) := by decide +kernel
theorem dX6_feed_49 : decode cX6_feed 49 = .ok (.getfield 31, 3) := by decide +kernel
theorem dX6_feed_52 : decode cX6_feed 52 = .ok (.getfield 163, 3) := by decide +kernel
theorem dX6_feed_55 : decode cX6_feed 55 = .ok (.ireturn, 1) := by decide +kernel
theorem dX6_wipe_0 : decode cX6_wipe 0 = .ok (.aload_n 0, 1) := by decide +kernel
theorem dX6_wipe_1 : decode cX6_wipe 1 = .ok (.getfield 31, 3) := by decide +kernel
theorem dX6_wipe_4 : decode cX6_wipe 4 = .ok (.getfield 163, 3) := by decide +kernel
theorem dX6_wipe_7 : decode cX6_wipe 7 = .ok (.istore_n 1, 1) := by decide +kernel
theorem dX6_wipe_8 : decode cX6_wipe 8 = .ok (.aload_n 0, 1) := by decide +kernel
theorem dX6_wipe_9 : decode cX6_wipe 9 = .ok (.getfield 31, 3) := by decide +kernel
theorem dX6_wipe_12 : decode cX6_wipe 12 = .ok (.iconst 0, 1) := by decide +kernel
theorem dX6_wipe_13 : decode cX6_wipe 13 = .ok (.putfield 163, 3) := by decide +kernel
theorem dX6_wipe_16 : decode cX6_wipe 16 = .ok (.iload_n 1, 1) := by decide +kernel
theorem dX6_wipe_17 : decode cX6_wipe 17 = .ok (.ireturn, 1) := by decide +kernel
theorem dX6_house_0 : decode cX6_house 0 = .ok (.aload_n 0, 1) := by decide +kernel
theorem dX6_house_1 : decode cX6_house 1 = .ok (.getfield 16, 3) := by decide +kernel
theorem dX6_house_4 : decode cX6_house 4 = .ok (.aload_n 0, 1) := by decide +kernel
theorem dX6_house_5 : decode cX6_house 5 = .ok (.getfield 10, 3) := by decide +kernel
theorem dX6_house_8 : decode cX6_house 8 = .ok (.invokevirtual 169, 3) := by decide +kernel
theorem dX6_house_11 : decode cX6_house 11 = .ok (.aload_n 0, 1) := by decide +kernel
theorem dX6_house_12 : decode cX6_house 12 = .ok (.getfield 31, 3) := by decide +kernel
theorem dX6_house_15 : decode cX6_house 15 = .ok (.aload_n 0, 1) := by decide +kernel
theorem dX6_house_16 : decode cX6_house 16 = .ok (.getfield 16, 3) := by decide +kernel
theorem dX6_house_19 : decode cX6_house 19 = .ok (.invokevirtual 173, 3) := by decide +kernel
theorem dX6_house_22 : decode cX6_house 22 = .ok (.istore_n 1, 1) := by decide +kernel
theorem dX6_house_23 : decode cX6_house 23 = .ok (.aload_n 0, 1) := by decide +kernel
theorem dX6_house_24 : decode cX6_house 24 = .ok (.getfield 31, 3) := by decide +kernel
theorem dX6_house_27 : decode cX6_house 27 = .ok (.iconst 0, 1) := by decide +kernel
theorem dX6_house_28 : decode cX6_house 28 = .ok (.putfield 163, 3) := by decide +kernel
theorem dX6_house_31 : decode cX6_house 31 = .ok (.iload_n 1, 1) := by decide +kernel
theorem dX6_house_32 : decode cX6_house 32 = .ok (.ifCond .ge 12, 3) := by decide +kernel
theorem dX6_house_35 : decode cX6_house 35 = .ok (.aload_n 0, 1) := by decide +kernel
theorem dX6_house_36 : decode cX6_house 36 = .ok (.bipush (-2), 2) := by decide +kernel
theorem dX6_house_38 : decode cX6_house 38 = .ok (.invokevirtual 58, 3) := by decide +kernel
theorem dX6_house_41 : decode cX6_house 41 = .ok (.pop, 1) := by decide +kernel
theorem dX6_house_42 : decode cX6_house 42 = .ok (.iload_n 1, 1) := by decide +kernel
theorem dX6_house_43 : decode cX6_house 43 = .ok (.ireturn, 1) := by decide +kernel
theorem dX6_house_44 : decode cX6_house 44 = .ok (.aload_n 0, 1) := by decide +kernel
theorem dX6_house_45 : decode cX6_house 45 = .ok (.getfield 10, 3) := by decide +kernel
theorem dX6_house_48 : decode cX6_house 48 = .ok (.aload_n 0, 1) := by decide +kernel
theorem dX6_house_49 : decode cX6_house 49 = .ok (.getfield 16, 3) := by decide +kernel
theorem dX6_house_52 : decode cX6_house 52 = .ok (.invokevirtual 169, 3) := by decide +kernel
theorem dX6_house_55 : decode cX6_house 55 = .ok (.iload_n 1, 1) := by decide +kernel
theorem dX6_house_56 : decode cX6_house 56 = .ok (.ireturn, 1) := by decide +kernel
theorem dX6_doorOf_0 : decode cX6_doorOf 0 = .ok (.aload_n 0, 1) := by decide +kernel
theorem dX6_doorOf_1 : decode cX6_doorOf 1 = .ok (.getfield 10, 3) := by decide +kernel
theorem dX6_doorOf_4 : decode cX6_doorOf 4 = .ok (.iload_n 1, 1) := by decide +kernel
theorem dX6_doorOf_5 : decode cX6_doorOf 5 = .ok (.invokevirtual 102, 3) := by decide +kernel
theorem dX6_doorOf_8 : decode cX6_doorOf 8 = .ok (.ifCond .ne 10, 3) := by decide +kernel
theorem dX6_doorOf_11 : decode cX6_doorOf 11 = .ok (.aload_n 0, 1) := by decide +kernel
theorem dX6_doorOf_12 : decode cX6_doorOf 12 = .ok (.bipush (-2), 2) := by decide +kernel
theorem dX6_doorOf_14 : decode cX6_doorOf 14 = .ok (.invokevirtual 58, 3) := by decide +kernel
theorem dX6_doorOf_17 : decode cX6_doorOf 17 = .ok (.ireturn, 1) := by decide +kernel
theorem dX6_doorOf_18 : decode cX6_doorOf 18 = .ok (.iload_n 2, 1) := by decide +kernel
theorem dX6_doorOf_19 : decode cX6_doorOf 19 = .ok (.tableswitch 89 0 4 #[33, 43, 53, 63, 80], 33) := by decide +kernel
theorem dX6_doorOf_52 : decode cX6_doorOf 52 = .ok (.aload_n 0, 1) := by decide +kernel
theorem dX6_doorOf_53 : decode cX6_doorOf 53 = .ok (.getfield 10, 3) := by decide +kernel
theorem dX6_doorOf_56 : decode cX6_doorOf 56 = .ok (.getfield 119, 3) := by decide +kernel
theorem dX6_doorOf_59 : decode cX6_doorOf 59 = .ok (.iload_n 1, 1) := by decide +kernel
theorem dX6_doorOf_60 : decode cX6_doorOf 60 = .ok (.iaload, 1) := by decide +kernel
theorem dX6_doorOf_61 : decode cX6_doorOf 61 = .ok (.ireturn, 1) := by decide +kernel
theorem dX6_doorOf_62 : decode cX6_doorOf 62 = .ok (.aload_n 0, 1) := by decide +kernel
theorem dX6_doorOf_63 : decode cX6_doorOf 63 = .ok (.getfield 10, 3) := by decide +kernel
theorem dX6_doorOf_66 : decode cX6_doorOf 66 = .ok (.getfield 177, 3) := by decide +kernel
theorem dX6_doorOf_69 : decode cX6_doorOf 69 = .ok (.iload_n 1, 1) := by decide +kernel
theorem dX6_doorOf_70 : decode cX6_doorOf 70 = .ok (.iaload, 1) := by decide +kernel
theorem dX6_doorOf_71 : decode cX6_doorOf 71 = .ok (.ireturn, 1) := by decide +kernel
theorem dX6_doorOf_72 : decode cX6_doorOf 72 = .ok (.aload_n 0, 1) := by decide +kernel
theorem dX6_doorOf_73 : decode cX6_doorOf 73 = .ok (.getfield 10, 3) := by decide +kernel
theorem dX6_doorOf_76 : decode cX6_doorOf 76 = .ok (.getfield 180, 3) := by decide +kernel
theorem dX6_doorOf_79 : decode cX6_doorOf 79 = .ok (.iload_n 1, 1) := by decide +kernel
theorem dX6_doorOf_80 : decode cX6_doorOf 80 = .ok (.iaload, 1) := by decide +kernel
theorem dX6_doorOf_81 : decode cX6_doorOf 81 = .ok (.ireturn, 1) := by decide +kernel
theorem dX6_doorOf_82 : decode cX6_doorOf 82 = .ok (.aload_n 0, 1) := by decide +kernel
theorem dX6_doorOf_83 : decode cX6_doorOf 83 = .ok (.getfield 10, 3) := by decide +kernel
theorem dX6_doorOf_86 : decode cX6_doorOf 86 = .ok (.iload_n 1, 1) := by decide +kernel
theorem dX6_doorOf_87 : decode cX6_doorOf 87 = .ok (.invokevirtual 151, 3) := by decide +kernel
theorem dX6_doorOf_90 : decode cX6_doorOf 90 = .ok (.ifCond .eq 7, 3) := by decide +kernel
theorem dX6_doorOf_93 : decode cX6_doorOf 93 = .ok (.iconst 1, 1) := by decide +kernel
theorem dX6_doorOf_94 : decode cX6_doorOf 94 = .ok (.goto 4, 3) := by decide +kernel
theorem dX6_doorOf_97 : decode cX6_doorOf 97 = .ok (.iconst 0, 1) := by decide +kernel
theorem dX6_doorOf_98 : decode cX6_doorOf 98 = .ok (.ireturn, 1) := by decide +kernel
theorem dX6_doorOf_99 : decode cX6_doorOf 99 = .ok (.aload_n 0, 1) := by decide +kernel
theorem dX6_doorOf_100 : decode cX6_doorOf 100 = .ok (.getfield 10, 3) := by decide +kernel
theorem dX6_doorOf_103 : decode cX6_doorOf 103 = .ok (.iload_n 1, 1) := by decide +kernel
theorem dX6_doorOf_104 : decode cX6_doorOf 104 = .ok (.invokevirtual 183, 3) := by decide +kernel
theorem dX6_doorOf_107 : decode cX6_doorOf 107 = .ok (.ireturn, 1) := by decide +kernel
theorem dX6_doorOf_108 : decode cX6_doorOf 108 = .ok (.aload_n 0, 1) := by decide +kernel
theorem dX6_doorOf_109 : decode cX6_doorOf 109 = .ok (.bipush (-2), 2) := by decide +kernel
theorem dX6_doorOf_111 : decode cX6_doorOf 111 = .ok (.invokevirtual 58, 3) := by decide +kernel
theorem dX6_doorOf_114 : decode cX6_doorOf 114 = .ok (.ireturn, 1) := by decide +kernel
theorem dX6_where_0 : decode cX6_where 0 = .ok (.aload_n 0, 1) := by decide +kernel
theorem dX6_where_1 : decode cX6_where 1 = .ok (.getfield 10, 3) := by decide +kernel
theorem dX6_where_4 : decode cX6_where 4 = .ok (.iload_n 1, 1) := by decide +kernel
theorem dX6_where_5 : decode cX6_where 5 = .ok (.invokevirtual 157, 3) := by decide +kernel
theorem dX6_where_8 : decode cX6_where 8 = .ok (.ifCond .eq 15, 3) := by decide +kernel
theorem dX6_where_11 : decode cX6_where 11 = .ok (.aload_n 0, 1) := by decide +kernel
theorem dX6_where_12 : decode cX6_where 12 = .ok (.getfield 10, 3) := by decide +kernel
theorem dX6_where_15 : decode cX6_where 15 = .ok (.getfield 160, 3) := by decide +kernel
theorem dX6_where_18 : decode cX6_where 18 = .ok (.iload_n 1, 1) := by decide +kernel
theorem dX6_where_19 : decode cX6_where 19 = .ok (.iaload, 1) := by decide +kernel
theorem dX6_where_20 : decode cX6_where 20 = .ok (.goto 9, 3) := by decide +kernel
theorem dX6_where_23 : decode cX6_where 23 = .ok (.aload_n 0, 1) := by decide +kernel
theorem dX6_where_24 : decode cX6_where 24 = .ok (.bipush (-2), 2) := by decide +kernel
theorem dX6_where_26 : decode cX6_where 26 = .ok (.invokevirtual 58, 3) := by decide +kernel
theorem dX6_where_29 : decode cX6_where 29 = .ok (.ireturn, 1) := by decide +kernel
theorem dX6_doors_0 : decode cX6_doors 0 = .ok (.iload_n 1, 1) := by decide +kernel
theorem dX6_doors_1 : decode cX6_doors 1 = .ok (.ifCond .ne 11, 3) := by decide +kernel
theorem dX6_doors_4 : decode cX6_doors 4 = .ok (.aload_n 0, 1) := by decide +kernel
theorem dX6_doors_5 : decode cX6_doors 5 = .ok (.getfield 10, 3) := by decide +kernel
theorem dX6_doors_8 : decode cX6_doors 8 = .ok (.getfield 154, 3) := by decide +kernel
theorem dX6_doors_11 : decode cX6_doors 11 = .ok (.ireturn, 1) := by decide +kernel
theorem dX6_doors_12 : decode cX6_doors 12 = .ok (.iload_n 1, 1) := by decide +kernel
theorem dX6_doors_13 : decode cX6_doors 13 = .ok (.iconst 1, 1) := by decide +kernel
theorem dX6_doors_14 : decode cX6_doors 14 = .ok (.if_icmp .ne 19, 3) := by decide +kernel
theorem dX6_doors_17 : decode cX6_doors 17 = .ok (.iload_n 2, 1) := by decide +kernel
theorem dX6_doors_18 : decode cX6_doors 18 = .ok (.invokestatic 129, 3) := by decide +kernel
theorem dX6_doors_21 : decode cX6_doors 21 = .ok (.ifCond .eq 12, 3) := by decide +kernel
theorem dX6_doors_24 : decode cX6_doors 24 = .ok (.aload_n 0, 1) := by decide +kernel
theorem dX6_doors_25 : decode cX6_doors 25 = .ok (.getfield 10, 3) := by decide +kernel
theorem dX6_doors_28 : decode cX6_doors 28 = .ok (.iload_n 2, 1) := by decide +kernel
theorem dX6_doors_29 : decode cX6_doors 29 = .ok (.invokevirtual 186, 3) := by decide +kernel
theorem dX6_doors_32 : decode cX6_doors 32 = .ok (.ireturn, 1) := by decide +kernel
theorem dX6_doors_33 : decode cX6_doors 33 = .ok (.iload_n 1, 1) := by decide +kernel
theorem dX6_doors_34 : decode cX6_doors 34 = .ok (.iconst 2, 1) := by decide +kernel
theorem dX6_doors_35 : decode cX6_doors 35 = .ok (.if_icmp .ne 11, 3) := by decide +kernel
theorem dX6_doors_38 : decode cX6_doors 38 = .ok (.aload_n 0, 1) := by decide +kernel
theorem dX6_doors_39 : decode cX6_doors 39 = .ok (.getfield 10, 3) := by decide +kernel
theorem dX6_doors_42 : decode cX6_doors 42 = .ok (.invokevirtual 189, 3) := by decide +kernel
theorem dX6_doors_45 : decode cX6_doors 45 = .ok (.ireturn, 1) := by decide +kernel
theorem dX6_doors_46 : decode cX6_doors 46 = .ok (.aload_n 0, 1) := by decide +kernel
theorem dX6_doors_47 : decode cX6_doors 47 = .ok (.bipush (-2), 2) := by decide +kernel
theorem dX6_doors_49 : decode cX6_doors 49 = .ok (.invokevirtual 58, 3) := by decide +kernel
theorem dX6_doors_52 : decode cX6_doors 52 = .ok (.ireturn, 1) := by decide +kernel
theorem dX6_may_0 : decode cX6_may 0 = .ok (.aload_n 0, 1) := by decide +kernel
theorem dX6_may_1 : decode cX6_may 1 = .ok (.getfield 10, 3) := by decide +kernel
theorem dX6_may_4 : decode cX6_may 4 = .ok (.iload_n 1, 1) := by decide +kernel
theorem dX6_may_5 : decode cX6_may 5 = .ok (.invokevirtual 157, 3) := by decide +kernel
theorem dX6_may_8 : decode cX6_may 8 = .ok (.ifCond .eq 14, 3) := by decide +kernel
theorem dX6_may_11 : decode cX6_may 11 = .ok (.aload_n 0, 1) := by decide +kernel
theorem dX6_may_12 : decode cX6_may 12 = .ok (.getfield 10, 3) := by decide +kernel
theorem dX6_may_15 : decode cX6_may 15 = .ok (.iload_n 2, 1) := by decide +kernel
theorem dX6_may_16 : decode cX6_may 16 = .ok (.invokevirtual 102, 3) := by decide +kernel
theorem dX6_may_19 : decode cX6_may 19 = .ok (.ifCond .ne 10, 3) := by decide +kernel
theorem dX6_may_22 : decode cX6_may 22 = .ok (.aload_n 0, 1) := by decide +kernel
theorem dX6_may_23 : decode cX6_may 23 = .ok (.bipush (-2), 2) := by decide +kernel
theorem dX6_may_25 : decode cX6_may 25 = .ok (.invokevirtual 58, 3) := by decide +kernel
theorem dX6_may_28 : decode cX6_may 28 = .ok (.ireturn, 1) := by decide +kernel
theorem dX6_may_29 : decode cX6_may 29 = .ok (.iload_n 3, 1) := by decide +kernel
theorem dX6_may_30 : decode cX6_may 30 = .ok (.tableswitch 81 0 2 #[26, 44, 62], 26) := by decide +kernel
theorem dX6_may_56 : decode cX6_may 56 = .ok (.aload_n 0, 1) := by decide +kernel
theorem dX6_may_57 : decode cX6_may 57 = .ok (.getfield 10, 3) := by decide +kernel
theorem dX6_may_60 : decode cX6_may 60 = .ok (.iload_n 1, 1) := by decide +kernel
theorem dX6_may_61 : decode cX6_may 61 = .ok (.iload_n 2, 1) := by decide +kernel
theorem dX6_may_62 : decode cX6_may 62 = .ok (.invokevirtual 192, 3) := by decide +kernel
theorem dX6_may_65 : decode cX6_may 65 = .ok (.ifCond .eq 7, 3) := by decide +kernel
theorem dX6_may_68 : decode cX6_may 68 = .ok (.iconst 1, 1) := by decide +kernel
theorem dX6_may_69 : decode cX6_may 69 = .ok (.goto 4, 3) := by decide +kernel
theorem dX6_may_72 : decode cX6_may 72 = .ok (.iconst 0, 1) := by decide +kernel
theorem dX6_may_73 : decode cX6_may 73 = .ok (.ireturn, 1) := by decide +kernel
theorem dX6_may_74 : decode cX6_may 74 = .ok (.aload_n 0, 1) := by decide +kernel
theorem dX6_may_75 : decode cX6_may 75 = .ok (.getfield 10, 3) := by decide +kernel
theorem dX6_may_78 : decode cX6_may 78 = .ok (.iload_n 1, 1) := by decide +kernel
theorem dX6_may_79 : decode cX6_may 79 = .ok (.iload_n 2, 1) := by decide +kernel
theorem dX6_may_80 : decode cX6_may 80 = .ok (.invokevirtual 195, 3) := by decide +kernel
theorem dX6_may_83 : decode cX6_may 83 = .ok (.ifCond .eq 7, 3) := by decide +kernel
theorem dX6_may_86 : decode cX6_may 86 = .ok (.iconst 1, 1) := by decide +kernel
theorem dX6_may_87 : decode cX6_may 87 = .ok (.goto 4, 3) := by decide +kernel
theorem dX6_may_90 : decode cX6_may 90 = .ok (.iconst 0, 1) := by decide +kernel
theorem dX6_may_91 : decode cX6_may 91 = .ok (.ireturn, 1) := by decide +kernel
theorem dX6_may_92 : decode cX6_may 92 = .ok (.aload_n 0, 1) := by decide +kernel
theorem dX6_may_93 : decode cX6_may 93 = .ok (.getfield 10, 3) := by decide +kernel
theorem dX6_may_96 : decode cX6_may 96 = .ok (.iload_n 1, 1) := by decide +kernel
theorem dX6_may_97 : decode cX6_may 97 = .ok (.iload_n 2, 1) := by decide +kernel
theorem dX6_may_98 : decode cX6_may 98 = .ok (.invokevirtual 198, 3) := by decide +kernel
theorem dX6_may_101 : decode cX6_may 101 = .ok (.iconst (-1), 1) := by decide +kernel
theorem dX6_may_102 : decode cX6_may 102 = .ok (.if_icmp .eq 7, 3) := by decide +kernel
theorem dX6_may_105 : decode cX6_may 105 = .ok (.iconst 1, 1) := by decide +kernel
theorem dX6_may_106 : decode cX6_may 106 = .ok (.goto 4, 3) := by decide +kernel
theorem dX6_may_109 : decode cX6_may 109 = .ok (.iconst 0, 1) := by decide +kernel
theorem dX6_may_110 : decode cX6_may 110 = .ok (.ireturn, 1) := by decide +kernel
theorem dX6_may_111 : decode cX6_may 111 = .ok (.aload_n 0, 1) := by decide +kernel
theorem dX6_may_112 : decode cX6_may 112 = .ok (.bipush (-2), 2) := by decide +kernel
theorem dX6_may_114 : decode cX6_may 114 = .ok (.invokevirtual 58, 3) := by decide +kernel
theorem dX6_may_117 : decode cX6_may 117 = .ok (.ireturn, 1) := by decide +kernel
theorem dX6_by_0 : decode cX6_by 0 = .ok (.aload_n 0, 1) := by decide +kernel
theorem dX6_by_1 : decode cX6_by 1 = .ok (.getfield 10, 3) := by decide +kernel
theorem dX6_by_4 : decode cX6_by 4 = .ok (.iload_n 1, 1) := by decide +kernel
theorem dX6_by_5 : decode cX6_by 5 = .ok (.invokevirtual 157, 3) := by decide +kernel
theorem dX6_by_8 : decode cX6_by 8 = .ok (.ifCond .eq 25, 3) := by decide +kernel
theorem dX6_by_11 : decode cX6_by 11 = .ok (.aload_n 0, 1) := by decide +kernel
theorem dX6_by_12 : decode cX6_by 12 = .ok (.getfield 10, 3) := by decide +kernel
theorem dX6_by_15 : decode cX6_by 15 = .ok (.iload_n 2, 1) := by decide +kernel
theorem dX6_by_16 : decode cX6_by 16 = .ok (.invokevirtual 102, 3) := by decide +kernel
theorem dX6_by_19 : decode cX6_by 19 = .ok (.ifCond .eq 14, 3) := by decide +kernel
theorem dX6_by_22 : decode cX6_by 22 = .ok (.aload_n 0, 1) := by decide +kernel
theorem dX6_by_23 : decode cX6_by 23 = .ok (.getfield 10, 3) := by decide +kernel
theorem dX6_by_26 : decode cX6_by 26 = .ok (.iload_n 3, 1) := by decide +kernel
theorem dX6_by_27 : decode cX6_by 27 = .ok (.invokevirtual 201, 3) := by decide +kernel
theorem dX6_by_30 : decode cX6_by 30 = .ok (.ifCond .ne 10, 3) := by decide +kernel
theorem dX6_by_33 : decode cX6_by 33 = .ok (.aload_n 0, 1) := by decide +kernel
theorem dX6_by_34 : decode cX6_by 34 = .ok (.bipush (-2), 2) := by decide +kernel
theorem dX6_by_36 : decode cX6_by 36 = .ok (.invokevirtual 58, 3) := by decide +kernel
theorem dX6_by_39 : decode cX6_by 39 = .ok (.ireturn, 1) := by decide +kernel
theorem dX6_by_40 : decode cX6_by 40 = .ok (.aload_n 0, 1) := by decide +kernel
theorem dX6_by_41 : decode cX6_by 41 = .ok (.getfield 10, 3) := by decide +kernel
theorem dX6_by_44 : decode cX6_by 44 = .ok (.iload_n 1, 1) := by decide +kernel
theorem dX6_by_45 : decode cX6_by 45 = .ok (.iload_n 2, 1) := by decide +kernel
theorem dX6_by_46 : decode cX6_by 46 = .ok (.iload_n 3, 1) := by decide +kernel
theorem dX6_by_47 : decode cX6_by 47 = .ok (.invokevirtual 204, 3) := by decide +kernel
theorem dX6_by_50 : decode cX6_by 50 = .ok (.ifCond .eq 7, 3) := by decide +kernel
theorem dX6_by_53 : decode cX6_by 53 = .ok (.iconst 1, 1) := by decide +kernel
theorem dX6_by_54 : decode cX6_by 54 = .ok (.goto 4, 3) := by decide +kernel
theorem dX6_by_57 : decode cX6_by 57 = .ok (.iconst 0, 1) := by decide +kernel
theorem dX6_by_58 : decode cX6_by 58 = .ok (.ireturn, 1) := by decide +kernel
def f_X6_says (n : Nat) (h : xH) (a0 : Nat) (p1 : Int32) (p2 : Int32) : Option (Int32 × xH) :=
  (f_X6_isShelf h p1).bind fun q1 =>
  if q1 = 0 then
    (x_ob h a0 6).bind fun u2 =>
    (f_X6_refuse h a0 (-2 : Int32)).bind fun q3 =>
    some (q3.1, q3.2)
  else
    (f_X6_isKind h p2).bind fun q4 =>
    if q4 = 0 then
      (x_ob h a0 6).bind fun u5 =>
      (f_X6_refuse h a0 (-2 : Int32)).bind fun q6 =>
      some (q6.1, q6.2)
    else
      (x_gR h a0 6 4).bind fun a7 =>
      (x_ldQ h a7 p1).bind fun a8 =>
      (x_ob h a8 4).bind fun u9 =>
      (f_X4_isEmpty h a8).bind fun q10 =>
      if q10 = 0 then
        (x_ob h a8 4).bind fun u11 =>
        (f_X4_holdsDoor h a8).bind fun q12 =>
        if q12 = 0 then
          (x_ob h a0 6).bind fun u13 =>
          (f_X6_refuse h a0 (-3 : Int32)).bind fun q14 =>
          some (q14.1, q14.2)
        else
          (x_gR h a0 6 0).bind fun a15 =>
          (x_ob h a8 4).bind fun u16 =>
          (f_X4_heldDoor h a8).bind fun q17 =>
          (x_ob h a15 0).bind fun u18 =>
          (f_X0_hasDoor h a15 q17).bind fun q19 =>
          if q19 = 0 then
            (x_ob h a0 6).bind fun u20 =>
            (f_X6_refuse h a0 (-3 : Int32)).bind fun q21 =>
            some (q21.1, q21.2)
          else
            (x_ob h a8 4).bind fun u22 =>
            (f_X4_heldDoor h a8).bind fun q23 =>
            (x_gR h a0 6 0).bind fun a24 =>
            (x_gR h a24 0 0).bind fun a25 =>
            (x_ld h a25 q23).bind fun x26 =>
            (f_X6_isUnder n h x26 p2).bind fun q27 =>
            if q27 = 0 then
              (x_ob h a0 6).bind fun u28 =>
              (f_X6_refuse h a0 (-3 : Int32)).bind fun q29 =>
              some (q29.1, q29.2)
            else
              (x_ob h a0 6).bind fun u30 =>
              (f_X6_saying n h a0 q23 p2).bind fun q31 =>
              some (q31, h)
      else
        (x_ob h a0 6).bind fun u35 =>
        (f_X6_refuse h a0 (-4 : Int32)).bind fun q36 =>
        some (q36.1, q36.2)
set_option maxRecDepth 100000 in
set_option maxHeartbeats 4000000 in
theorem c_X6_says {n : Nat} {h : xH} {a0 : Nat} {p1 : Int32} {p2 : Int32} {r9 : Int32} {hz : xH} (hE : f_X6_says n h a0 p1 p2 = some (r9, hz)) : Ctr M_X6_says [.ref a0, .int p1, .int p2] h (some (.int r9)) hz 0 0 := by
  refine ctr_of (by decide) (fun _ _ => Nat.le_of_ble_eq_true rfl) (fun S => ?_)
  show Y S M_X6_says h (some (.int r9)) hz 0 0 0 [(0, .ref a0), (1, .int p1), (2, .int p2)] [] h 0 0
  unfold f_X6_says at hE
  refine y_iload_n dX6_says_0 1 rfl ?_
  obtain ⟨q1, eq1, hE⟩ := Option.bind_eq_some_iff.mp hE
  refine y_cSi0 (st := []) (as := [.int p1]) (c_X6_isShelf eq1) lk_X6_54 st_X6_isShelf ⟨Nat.le_of_ble_eq_true rfl, Nat.le_of_ble_eq_true rfl⟩ (Nat.le_of_ble_eq_true rfl) dX6_says_1 ⟨Nat.le_refl _, Nat.le_refl _⟩ rfl ?_
  refine y_if_eq (tgt := 14) dX6_says_4 (by decide) (fun hc39 => ?_) (fun hc39 => ?_)
  · rw [if_pos hc39] at hE
    refine y_aload_n dX6_says_14 0 rfl ?_
    refine y_bipush (v := (-2 : Int32)) dX6_says_15 (by decide) ?_
    obtain ⟨u2, eu2, hE⟩ := Option.bind_eq_some_iff.mp hE
    obtain ⟨q3, eq3, hE⟩ := Option.bind_eq_some_iff.mp hE
    refine y_cVi0 (st := []) (as := [.int (-2 : Int32)]) (c_X6_refuse eq3) lk_X6_58 in_X6_refuse se_X6_refuse rfl eu2 ⟨Nat.le_of_ble_eq_true rfl, Nat.le_of_ble_eq_true rfl⟩ (Nat.le_of_ble_eq_true rfl) dX6_says_17 ⟨Nat.le_refl _, Nat.le_refl _⟩ rfl ?_
    obtain ⟨rfl, rfl⟩ := x_inj2 hE
    exact y_ret dX6_says_20 (Nat.le_refl _) (Nat.le_refl _) ⟨_, rfl, rfl⟩
  · rw [if_neg hc39] at hE
    refine y_iload_n dX6_says_7 2 rfl ?_
    obtain ⟨q4, eq4, hE⟩ := Option.bind_eq_some_iff.mp hE
    refine y_cSi0 (st := []) (as := [.int p2]) (c_X6_isKind eq4) lk_X6_112 st_X6_isKind ⟨Nat.le_of_ble_eq_true rfl, Nat.le_of_ble_eq_true rfl⟩ (Nat.le_of_ble_eq_true rfl) dX6_says_8 ⟨Nat.le_refl _, Nat.le_refl _⟩ rfl ?_
    refine y_if_ne (tgt := 21) dX6_says_11 (by decide) (fun hc38 => ?_) (fun hc38 => ?_)
    · rw [if_pos hc38] at hE
      refine y_aload_n dX6_says_14 0 rfl ?_
      refine y_bipush (v := (-2 : Int32)) dX6_says_15 (by decide) ?_
      obtain ⟨u5, eu5, hE⟩ := Option.bind_eq_some_iff.mp hE
      obtain ⟨q6, eq6, hE⟩ := Option.bind_eq_some_iff.mp hE
      refine y_cVi0 (st := []) (as := [.int (-2 : Int32)]) (c_X6_refuse eq6) lk_X6_58 in_X6_refuse se_X6_refuse rfl eu5 ⟨Nat.le_of_ble_eq_true rfl, Nat.le_of_ble_eq_true rfl⟩ (Nat.le_of_ble_eq_true rfl) dX6_says_17 ⟨Nat.le_refl _, Nat.le_refl _⟩ rfl ?_
      obtain ⟨rfl, rfl⟩ := x_inj2 hE
      exact y_ret dX6_says_20 (Nat.le_refl _) (Nat.le_refl _) ⟨_, rfl, rfl⟩
    · rw [if_neg hc38] at hE
      refine y_aload_n dX6_says_21 0 rfl ?_
      obtain ⟨a7, ea7, hE⟩ := Option.bind_eq_some_iff.mp hE
      refine y_getR fl_X6_24 ea7 dX6_says_22 ?_
      refine y_iload_n dX6_says_25 1 rfl ?_
      obtain ⟨a8, ea8, hE⟩ := Option.bind_eq_some_iff.mp hE
      refine y_aald ea8 dX6_says_26 ?_
      refine y_astore_n (ls' := [(3, .ref a8), (0, .ref a0), (1, .int p1), (2, .int p2)]) dX6_says_27 (by decide) rfl rfl ?_
      refine y_aload_n dX6_says_28 0 rfl ?_
      obtain ⟨u9, eu9, hE⟩ := Option.bind_eq_some_iff.mp hE
      obtain ⟨q10, eq10, hE⟩ := Option.bind_eq_some_iff.mp hE
      refine y_cVi0 (st := []) (as := []) (c_X4_isEmpty eq10) lk_X6_81 in_X4_isEmpty se_X4_isEmpty rfl eu9 ⟨Nat.le_of_ble_eq_true rfl, Nat.le_of_ble_eq_true rfl⟩ (Nat.le_of_ble_eq_true rfl) dX6_says_29 ⟨Nat.le_refl _, Nat.le_refl _⟩ rfl ?_
      refine y_if_eq (tgt := 42) dX6_says_32 (by decide) (fun hc37 => ?_) (fun hc37 => ?_)
      · rw [if_pos hc37] at hE
        refine y_aload_n dX6_says_42 0 rfl ?_
        obtain ⟨u11, eu11, hE⟩ := Option.bind_eq_some_iff.mp hE
        obtain ⟨q12, eq12, hE⟩ := Option.bind_eq_some_iff.mp hE
        refine y_cVi0 (st := []) (as := []) (c_X4_holdsDoor eq12) lk_X6_77 in_X4_holdsDoor se_X4_holdsDoor rfl eu11 ⟨Nat.le_of_ble_eq_true rfl, Nat.le_of_ble_eq_true rfl⟩ (Nat.le_of_ble_eq_true rfl) dX6_says_43 ⟨Nat.le_refl _, Nat.le_refl _⟩ rfl ?_
        refine y_if_eq (tgt := 63) dX6_says_46 (by decide) (fun hc34 => ?_) (fun hc34 => ?_)
        · rw [if_pos hc34] at hE
          refine y_aload_n dX6_says_63 1 rfl ?_
          refine y_bipush (v := (-3 : Int32)) dX6_says_64 (by decide) ?_
          obtain ⟨u13, eu13, hE⟩ := Option.bind_eq_some_iff.mp hE
          obtain ⟨q14, eq14, hE⟩ := Option.bind_eq_some_iff.mp hE
          refine y_cVi0 (st := []) (as := [.int (-3 : Int32)]) (c_X6_refuse eq14) lk_X6_58 in_X6_refuse se_X6_refuse rfl eu13 ⟨Nat.le_of_ble_eq_true rfl, Nat.le_of_ble_eq_true rfl⟩ (Nat.le_of_ble_eq_true rfl) dX6_says_66 ⟨Nat.le_refl _, Nat.le_refl _⟩ rfl ?_
          obtain ⟨rfl, rfl⟩ := x_inj2 hE
          exact y_ret dX6_says_69 (Nat.le_refl _) (Nat.le_refl _) ⟨_, rfl, rfl⟩
        · rw [if_neg hc34] at hE
          refine y_aload_n dX6_says_49 1 rfl ?_
          obtain ⟨a15, ea15, hE⟩ := Option.bind_eq_some_iff.mp hE
          refine y_getR fl_X6_10 ea15 dX6_says_50 ?_
          refine y_aload_n dX6_says_53 0 rfl ?_
          obtain ⟨u16, eu16, hE⟩ := Option.bind_eq_some_iff.mp hE
          obtain ⟨q17, eq17, hE⟩ := Option.bind_eq_some_iff.mp hE
          refine y_cVi0 (st := [.ref a15]) (as := []) (c_X4_heldDoor eq17) lk_X6_115 in_X4_heldDoor se_X4_heldDoor rfl eu16 ⟨Nat.le_of_ble_eq_true rfl, Nat.le_of_ble_eq_true rfl⟩ (Nat.le_of_ble_eq_true rfl) dX6_says_54 ⟨Nat.le_refl _, Nat.le_refl _⟩ rfl ?_
          obtain ⟨u18, eu18, hE⟩ := Option.bind_eq_some_iff.mp hE
          obtain ⟨q19, eq19, hE⟩ := Option.bind_eq_some_iff.mp hE
          refine y_cVi0 (st := []) (as := [.int q17]) (c_X0_hasDoor eq19) lk_X6_102 in_X0_hasDoor se_X0_hasDoor rfl eu18 ⟨Nat.le_of_ble_eq_true rfl, Nat.le_of_ble_eq_true rfl⟩ (Nat.le_of_ble_eq_true rfl) dX6_says_57 ⟨Nat.le_refl _, Nat.le_refl _⟩ rfl ?_
          refine y_if_ne (tgt := 70) dX6_says_60 (by decide) (fun hc33 => ?_) (fun hc33 => ?_)
          · rw [if_pos hc33] at hE
            refine y_aload_n dX6_says_63 1 rfl ?_
            refine y_bipush (v := (-3 : Int32)) dX6_says_64 (by decide) ?_
            obtain ⟨u20, eu20, hE⟩ := Option.bind_eq_some_iff.mp hE
            obtain ⟨q21, eq21, hE⟩ := Option.bind_eq_some_iff.mp hE
            refine y_cVi0 (st := []) (as := [.int (-3 : Int32)]) (c_X6_refuse eq21) lk_X6_58 in_X6_refuse se_X6_refuse rfl eu20 ⟨Nat.le_of_ble_eq_true rfl, Nat.le_of_ble_eq_true rfl⟩ (Nat.le_of_ble_eq_true rfl) dX6_says_66 ⟨Nat.le_refl _, Nat.le_refl _⟩ rfl ?_
            obtain ⟨rfl, rfl⟩ := x_inj2 hE
            exact y_ret dX6_says_69 (Nat.le_refl _) (Nat.le_refl _) ⟨_, rfl, rfl⟩
          · rw [if_neg hc33] at hE
            refine y_aload_n dX6_says_70 0 rfl ?_
            obtain ⟨u22, eu22, hE⟩ := Option.bind_eq_some_iff.mp hE
            obtain ⟨q23, eq23, hE⟩ := Option.bind_eq_some_iff.mp hE
            refine y_cVi0 (st := []) (as := []) (c_X4_heldDoor eq23) lk_X6_115 in_X4_heldDoor se_X4_heldDoor rfl eu22 ⟨Nat.le_of_ble_eq_true rfl, Nat.le_of_ble_eq_true rfl⟩ (Nat.le_of_ble_eq_true rfl) dX6_says_71 ⟨Nat.le_refl _, Nat.le_refl _⟩ rfl ?_
            refine y_istore (ls' := [(4, .int q23), (3, .ref a8), (0, .ref a0), (1, .int p1), (2, .int p2)]) dX6_says_74 (by decide) rfl rfl ?_
            refine y_aload_n dX6_says_76 2 rfl ?_
            obtain ⟨a24, ea24, hE⟩ := Option.bind_eq_some_iff.mp hE
            refine y_getR fl_X6_10 ea24 dX6_says_77 ?_
            obtain ⟨a25, ea25, hE⟩ := Option.bind_eq_some_iff.mp hE
            refine y_getR fl_X6_119 ea25 dX6_says_80 ?_
            refine y_iload dX6_says_83 0 rfl ?_
            obtain ⟨x26, ex26, hE⟩ := Option.bind_eq_some_iff.mp hE
            refine y_iald ex26 dX6_says_85 ?_
            refine y_iload_n dX6_says_86 4 rfl ?_
            obtain ⟨q27, eq27, hE⟩ := Option.bind_eq_some_iff.mp hE
            refine y_cSi0 (st := []) (as := [.int x26, .int p2]) (c_X6_isUnder eq27) lk_X6_122 st_X6_isUnder ⟨Nat.le_of_ble_eq_true rfl, Nat.le_of_ble_eq_true rfl⟩ (Nat.le_of_ble_eq_true rfl) dX6_says_87 ⟨Nat.le_refl _, Nat.le_refl _⟩ rfl ?_
            refine y_if_ne (tgt := 100) dX6_says_90 (by decide) (fun hc32 => ?_) (fun hc32 => ?_)
            · rw [if_pos hc32] at hE
              refine y_aload_n dX6_says_93 2 rfl ?_
              refine y_bipush (v := (-3 : Int32)) dX6_says_94 (by decide) ?_
              obtain ⟨u28, eu28, hE⟩ := Option.bind_eq_some_iff.mp hE
              obtain ⟨q29, eq29, hE⟩ := Option.bind_eq_some_iff.mp hE
              refine y_cVi0 (st := []) (as := [.int (-3 : Int32)]) (c_X6_refuse eq29) lk_X6_58 in_X6_refuse se_X6_refuse rfl eu28 ⟨Nat.le_of_ble_eq_true rfl, Nat.le_of_ble_eq_true rfl⟩ (Nat.le_of_ble_eq_true rfl) dX6_says_96 ⟨Nat.le_refl _, Nat.le_refl _⟩ rfl ?_
              obtain ⟨rfl, rfl⟩ := x_inj2 hE
              exact y_ret dX6_says_99 (Nat.le_refl _) (Nat.le_refl _) ⟨_, rfl, rfl⟩
            · rw [if_neg hc32] at hE
              refine y_aload_n dX6_says_100 2 rfl ?_
              refine y_iload dX6_says_101 0 rfl ?_
              refine y_iload_n dX6_says_103 4 rfl ?_
              obtain ⟨u30, eu30, hE⟩ := Option.bind_eq_some_iff.mp hE
              obtain ⟨q31, eq31, hE⟩ := Option.bind_eq_some_iff.mp hE
              refine y_cVi0 (st := []) (as := [.int q23, .int p2]) (c_X6_saying eq31) lk_X6_125 in_X6_saying se_X6_saying rfl eu30 ⟨Nat.le_of_ble_eq_true rfl, Nat.le_of_ble_eq_true rfl⟩ (Nat.le_of_ble_eq_true rfl) dX6_says_104 ⟨Nat.le_refl _, Nat.le_refl _⟩ rfl ?_
              obtain ⟨rfl, rfl⟩ := x_inj2 hE
              exact y_ret dX6_says_107 (Nat.le_refl _) (Nat.le_refl _) ⟨_, rfl, rfl⟩
      · rw [if_neg hc37] at hE
        refine y_aload_n dX6_says_35 1 rfl ?_
        refine y_bipush (v := (-4 : Int32)) dX6_says_36 (by decide) ?_
        obtain ⟨u35, eu35, hE⟩ := Option.bind_eq_some_iff.mp hE
        obtain ⟨q36, eq36, hE⟩ := Option.bind_eq_some_iff.mp hE
        refine y_cVi0 (st := []) (as := [.int (-4 : Int32)]) (c_X6_refuse eq36) lk_X6_58 in_X6_refuse se_X6_refuse rfl eu35 ⟨Nat.le_of_ble_eq_true rfl, Nat.le_of_ble_eq_true rfl⟩ (Nat.le_of_ble_eq_true rfl) dX6_says_38 ⟨Nat.le_refl _, Nat.le_refl _⟩ rfl ?_
        obtain ⟨rfl, rfl⟩ := x_inj2 hE
        exact y_ret dX6_says_41 (Nat.le_refl _) (Nat.le_refl _) ⟨_, rfl, rfl⟩
def f_X6_isRoom (h : xH) (p0 : Int32) : Option (Int32) :=
  if p0 < 0 then
    some (0 : Int32)
  else
    if (8 : Int32) ≤ p0 then
      some (0 : Int32)
    else
      some (1 : Int32)
set_option maxRecDepth 100000 in
set_option maxHeartbeats 4000000 in
theorem c_X6_isRoom {h : xH} {p0 : Int32} {r9 : Int32} (hE : f_X6_isRoom h p0 = some r9) : Ctr M_X6_isRoom [.int p0] h (some (.int r9)) h 0 0 := by
  refine ctr_of (by decide) (fun _ _ => Nat.le_of_ble_eq_true rfl) (fun S => ?_)
  show Y S M_X6_isRoom h (some (.int r9)) h 0 0 0 [(0, .int p0)] [] h 0 0
  unfold f_X6_isRoom at hE
  refine y_iload_n dX6_isRoom_0 0 rfl ?_
  refine y_if_lt (tgt := 14) dX6_isRoom_1 (by decide) (fun hc2 => ?_) (fun hc2 => ?_)
  · rw [if_pos hc2] at hE
    refine y_iconst (v := (0 : Int32)) dX6_isRoom_14 (by decide) ?_
    obtain rfl := Option.some.inj hE
    exact y_ret dX6_isRoom_15 (Nat.le_refl _) (Nat.le_refl _) ⟨_, rfl, rfl⟩
  · rw [if_neg hc2] at hE
    refine y_iload_n dX6_isRoom_4 0 rfl ?_
    refine y_bipush (v := (8 : Int32)) dX6_isRoom_5 (by decide) ?_
    refine y_icmp_ge (tgt := 14) dX6_isRoom_7 (by decide) (fun hc1 => ?_) (fun hc1 => ?_)
    · rw [if_pos hc1] at hE
      refine y_iconst (v := (0 : Int32)) dX6_isRoom_14 (by decide) ?_
      obtain rfl := Option.some.inj hE
      exact y_ret dX6_isRoom_15 (Nat.le_refl _) (Nat.le_refl _) ⟨_, rfl, rfl⟩
    · rw [if_neg hc1] at hE
      refine y_iconst (v := (1 : Int32)) dX6_isRoom_10 (by decide) ?_
      refine y_goto (tgt := 15) dX6_isRoom_11 (by decide) ?_
      obtain rfl := Option.some.inj hE
      exact y_ret dX6_isRoom_15 (Nat.le_refl _) (Nat.le_refl _) ⟨_, rfl, rfl⟩
def f_X6_door_J45 (h : xH) (v0 : Nat) (v1 : Int32) (v2 : Int32) (v3 : Int32) : Option (Int32 × xH) :=
  (x_gR h v0 6 0).bind fun a7 =>
  (x_gI h a7 0 4).bind fun x8 =>
  if x8 < (14 : Int32) then
    (x_gR h v0 6 0).bind fun a9 =>
    (x_ob h a9 0).bind fun u10 =>
    (f_X0_addDoor h a9 v1 v2 v3).bind fun q11 =>
    some (q11.1, q11.2)
  else
    (x_ob h v0 6).bind fun u12 =>
    (f_X6_refuse h v0 (-6 : Int32)).bind fun q13 =>
    some (q13.1, q13.2)
set_option maxRecDepth 100000 in
set_option maxHeartbeats 4000000 in
theorem j_X6_door_45 {S : Nat × (Nat → Int32)} {h0 : xH} {mc ms cells slots : Nat} {h : xH} {v0 : Nat} {v1 : Int32} {v2 : Int32} {v3 : Int32} {r9 : Int32} {hz : xH} (hE : f_X6_door_J45 h v0 v1 v2 v3 = some (r9, hz)) (hm : cells ≤ mc ∧ slots ≤ ms) : Y S M_X6_door h0 (some (.int r9)) hz mc ms 45 [(0, .ref v0), (1, .int v1), (2, .int v2), (3, .int v3)] [] h cells slots := by
  unfold f_X6_door_J45 at hE
  refine y_aload_n dX6_door_45 0 rfl ?_
  obtain ⟨a7, ea7, hE⟩ := Option.bind_eq_some_iff.mp hE
  refine y_getR fl_X6_10 ea7 dX6_door_46 ?_
  obtain ⟨x8, ex8, hE⟩ := Option.bind_eq_some_iff.mp hE
  refine y_getI fl_X6_132 ex8 dX6_door_49 ?_
  refine y_bipush (v := (14 : Int32)) dX6_door_52 (by decide) ?_
  refine y_icmp_lt (tgt := 64) dX6_door_54 (by decide) (fun hc14 => ?_) (fun hc14 => ?_)
  · rw [if_pos hc14] at hE
    refine y_aload_n dX6_door_64 0 rfl ?_
    obtain ⟨a9, ea9, hE⟩ := Option.bind_eq_some_iff.mp hE
    refine y_getR fl_X6_10 ea9 dX6_door_65 ?_
    refine y_iload_n dX6_door_68 1 rfl ?_
    refine y_iload_n dX6_door_69 2 rfl ?_
    refine y_iload_n dX6_door_70 3 rfl ?_
    obtain ⟨u10, eu10, hE⟩ := Option.bind_eq_some_iff.mp hE
    obtain ⟨q11, eq11, hE⟩ := Option.bind_eq_some_iff.mp hE
    refine y_cVi0 (st := []) (as := [.int v1, .int v2, .int v3]) (c_X0_addDoor eq11) lk_X6_135 in_X0_addDoor se_X0_addDoor rfl eu10 ⟨Nat.le_of_ble_eq_true rfl, Nat.le_of_ble_eq_true rfl⟩ (Nat.le_of_ble_eq_true rfl) dX6_door_71 hm rfl ?_
    obtain ⟨rfl, rfl⟩ := x_inj2 hE
    exact y_ret dX6_door_74 hm.1 hm.2 ⟨_, rfl, rfl⟩
  · rw [if_neg hc14] at hE
    refine y_aload_n dX6_door_57 0 rfl ?_
    refine y_bipush (v := (-6 : Int32)) dX6_door_58 (by decide) ?_
    obtain ⟨u12, eu12, hE⟩ := Option.bind_eq_some_iff.mp hE
    obtain ⟨q13, eq13, hE⟩ := Option.bind_eq_some_iff.mp hE
    refine y_cVi0 (st := []) (as := [.int (-6 : Int32)]) (c_X6_refuse eq13) lk_X6_58 in_X6_refuse se_X6_refuse rfl eu12 ⟨Nat.le_of_ble_eq_true rfl, Nat.le_of_ble_eq_true rfl⟩ (Nat.le_of_ble_eq_true rfl) dX6_door_60 hm rfl ?_
    obtain ⟨rfl, rfl⟩ := x_inj2 hE
    exact y_ret dX6_door_63 hm.1 hm.2 ⟨_, rfl, rfl⟩
def f_X6_door (h : xH) (a0 : Nat) (p1 : Int32) (p2 : Int32) (p3 : Int32) : Option (Int32 × xH) :=
  (f_X6_isKind h p1).bind fun q1 =>
  if q1 = 0 then
    (x_ob h a0 6).bind fun u2 =>
    (f_X6_refuse h a0 (-2 : Int32)).bind fun q3 =>
    some (q3.1, q3.2)
  else
    (f_X6_isRoom h p2).bind fun q4 =>
    if q4 = 0 then
      (x_ob h a0 6).bind fun u5 =>
      (f_X6_refuse h a0 (-2 : Int32)).bind fun q6 =>
      some (q6.1, q6.2)
    else
      if p1 = (1 : Int32) then
        f_X6_door_J45 h a0 p1 p2 p3
      else
        (f_X6_isRoom h p3).bind fun q15 =>
        if q15 = 0 then
          (x_ob h a0 6).bind fun u16 =>
          (f_X6_refuse h a0 (-2 : Int32)).bind fun q17 =>
          some (q17.1, q17.2)
        else
          if p2 = p3 then
            (x_ob h a0 6).bind fun u18 =>
            (f_X6_refuse h a0 (-2 : Int32)).bind fun q19 =>
            some (q19.1, q19.2)
          else
            f_X6_door_J45 h a0 p1 p2 p3
set_option maxRecDepth 100000 in
set_option maxHeartbeats 4000000 in
theorem c_X6_door {h : xH} {a0 : Nat} {p1 : Int32} {p2 : Int32} {p3 : Int32} {r9 : Int32} {hz : xH} (hE : f_X6_door h a0 p1 p2 p3 = some (r9, hz)) : Ctr M_X6_door [.ref a0, .int p1, .int p2, .int p3] h (some (.int r9)) hz 0 0 := by
  refine ctr_of (by decide) (fun _ _ => Nat.le_of_ble_eq_true rfl) (fun S => ?_)
  show Y S M_X6_door h (some (.int r9)) hz 0 0 0 [(0, .ref a0), (1, .int p1), (2, .int p2), (3, .int p3)] [] h 0 0
  unfold f_X6_door at hE
  refine y_iload_n dX6_door_0 1 rfl ?_
  obtain ⟨q1, eq1, hE⟩ := Option.bind_eq_some_iff.mp hE
  refine y_cSi0 (st := []) (as := [.int p1]) (c_X6_isKind eq1) lk_X6_112 st_X6_isKind ⟨Nat.le_of_ble_eq_true rfl, Nat.le_of_ble_eq_true rfl⟩ (Nat.le_of_ble_eq_true rfl) dX6_door_1 ⟨Nat.le_refl _, Nat.le_refl _⟩ rfl ?_
  refine y_if_eq (tgt := 14) dX6_door_4 (by decide) (fun hc24 => ?_) (fun hc24 => ?_)
  · rw [if_pos hc24] at hE
    refine y_aload_n dX6_door_14 0 rfl ?_
    refine y_bipush (v := (-2 : Int32)) dX6_door_15 (by decide) ?_
    obtain ⟨u2, eu2, hE⟩ := Option.bind_eq_some_iff.mp hE
    obtain ⟨q3, eq3, hE⟩ := Option.bind_eq_some_iff.mp hE
    refine y_cVi0 (st := []) (as := [.int (-2 : Int32)]) (c_X6_refuse eq3) lk_X6_58 in_X6_refuse se_X6_refuse rfl eu2 ⟨Nat.le_of_ble_eq_true rfl, Nat.le_of_ble_eq_true rfl⟩ (Nat.le_of_ble_eq_true rfl) dX6_door_17 ⟨Nat.le_refl _, Nat.le_refl _⟩ rfl ?_
    obtain ⟨rfl, rfl⟩ := x_inj2 hE
    exact y_ret dX6_door_20 (Nat.le_refl _) (Nat.le_refl _) ⟨_, rfl, rfl⟩
  · rw [if_neg hc24] at hE
    refine y_iload_n dX6_door_7 2 rfl ?_
    obtain ⟨q4, eq4, hE⟩ := Option.bind_eq_some_iff.mp hE
    refine y_cSi0 (st := []) (as := [.int p2]) (c_X6_isRoom eq4) lk_X6_129 st_X6_isRoom ⟨Nat.le_of_ble_eq_true rfl, Nat.le_of_ble_eq_true rfl⟩ (Nat.le_of_ble_eq_true rfl) dX6_door_8 ⟨Nat.le_refl _, Nat.le_refl _⟩ rfl ?_
    refine y_if_ne (tgt := 21) dX6_door_11 (by decide) (fun hc23 => ?_) (fun hc23 => ?_)
    · rw [if_pos hc23] at hE
      refine y_aload_n dX6_door_14 0 rfl ?_
      refine y_bipush (v := (-2 : Int32)) dX6_door_15 (by decide) ?_
      obtain ⟨u5, eu5, hE⟩ := Option.bind_eq_some_iff.mp hE
      obtain ⟨q6, eq6, hE⟩ := Option.bind_eq_some_iff.mp hE
      refine y_cVi0 (st := []) (as := [.int (-2 : Int32)]) (c_X6_refuse eq6) lk_X6_58 in_X6_refuse se_X6_refuse rfl eu5 ⟨Nat.le_of_ble_eq_true rfl, Nat.le_of_ble_eq_true rfl⟩ (Nat.le_of_ble_eq_true rfl) dX6_door_17 ⟨Nat.le_refl _, Nat.le_refl _⟩ rfl ?_
      obtain ⟨rfl, rfl⟩ := x_inj2 hE
      exact y_ret dX6_door_20 (Nat.le_refl _) (Nat.le_refl _) ⟨_, rfl, rfl⟩
    · rw [if_neg hc23] at hE
      refine y_iload_n dX6_door_21 1 rfl ?_
      refine y_iconst (v := (1 : Int32)) dX6_door_22 (by decide) ?_
      refine y_icmp_eq (tgt := 45) dX6_door_23 (by decide) (fun hc22 => ?_) (fun hc22 => ?_)
      · rw [if_pos hc22] at hE
        refine y_pick [0, 1, 2, 3] rfl ?_
        exact j_X6_door_45 hE ⟨Nat.le_refl _, Nat.le_refl _⟩
      · rw [if_neg hc22] at hE
        refine y_iload_n dX6_door_26 3 rfl ?_
        obtain ⟨q15, eq15, hE⟩ := Option.bind_eq_some_iff.mp hE
        refine y_cSi0 (st := []) (as := [.int p3]) (c_X6_isRoom eq15) lk_X6_129 st_X6_isRoom ⟨Nat.le_of_ble_eq_true rfl, Nat.le_of_ble_eq_true rfl⟩ (Nat.le_of_ble_eq_true rfl) dX6_door_27 ⟨Nat.le_refl _, Nat.le_refl _⟩ rfl ?_
        refine y_if_eq (tgt := 38) dX6_door_30 (by decide) (fun hc21 => ?_) (fun hc21 => ?_)
        · rw [if_pos hc21] at hE
          refine y_aload_n dX6_door_38 0 rfl ?_
          refine y_bipush (v := (-2 : Int32)) dX6_door_39 (by decide) ?_
          obtain ⟨u16, eu16, hE⟩ := Option.bind_eq_some_iff.mp hE
          obtain ⟨q17, eq17, hE⟩ := Option.bind_eq_some_iff.mp hE
          refine y_cVi0 (st := []) (as := [.int (-2 : Int32)]) (c_X6_refuse eq17) lk_X6_58 in_X6_refuse se_X6_refuse rfl eu16 ⟨Nat.le_of_ble_eq_true rfl, Nat.le_of_ble_eq_true rfl⟩ (Nat.le_of_ble_eq_true rfl) dX6_door_41 ⟨Nat.le_refl _, Nat.le_refl _⟩ rfl ?_
          obtain ⟨rfl, rfl⟩ := x_inj2 hE
          exact y_ret dX6_door_44 (Nat.le_refl _) (Nat.le_refl _) ⟨_, rfl, rfl⟩
        · rw [if_neg hc21] at hE
          refine y_iload_n dX6_door_33 2 rfl ?_
          refine y_iload_n dX6_door_34 3 rfl ?_
          refine y_icmp_ne (tgt := 45) dX6_door_35 (by decide) (fun hc20 => ?_) (fun hc20 => ?_)
          · rw [if_pos hc20] at hE
            refine y_aload_n dX6_door_38 0 rfl ?_
            refine y_bipush (v := (-2 : Int32)) dX6_door_39 (by decide) ?_
            obtain ⟨u18, eu18, hE⟩ := Option.bind_eq_some_iff.mp hE
            obtain ⟨q19, eq19, hE⟩ := Option.bind_eq_some_iff.mp hE
            refine y_cVi0 (st := []) (as := [.int (-2 : Int32)]) (c_X6_refuse eq19) lk_X6_58 in_X6_refuse se_X6_refuse rfl eu18 ⟨Nat.le_of_ble_eq_true rfl, Nat.le_of_ble_eq_true rfl⟩ (Nat.le_of_ble_eq_true rfl) dX6_door_41 ⟨Nat.le_refl _, Nat.le_refl _⟩ rfl ?_
            obtain ⟨rfl, rfl⟩ := x_inj2 hE
            exact y_ret dX6_door_44 (Nat.le_refl _) (Nat.le_refl _) ⟨_, rfl, rfl⟩
          · rw [if_neg hc20] at hE
            refine y_pick [0, 1, 2, 3] rfl ?_
            exact j_X6_door_45 hE ⟨Nat.le_refl _, Nat.le_refl _⟩
def f_X6_one (h : xH) (a0 : Nat) (p1 : Int32) : Option (Int32 × xH) :=
  (f_X6_isRoom h p1).bind fun q1 =>
  if q1 = 0 then
    (x_ob h a0 6).bind fun u2 =>
    (f_X6_refuse h a0 (-2 : Int32)).bind fun q3 =>
    some (q3.1, q3.2)
  else
    (x_gR h a0 6 0).bind fun a4 =>
    (x_gI h a4 0 6).bind fun x5 =>
    if x5 < (4 : Int32) then
      (x_gR h a0 6 0).bind fun a6 =>
      (x_ob h a6 0).bind fun u7 =>
      (f_X0_addOne h a6 p1).bind fun q8 =>
      some (q8.1, q8.2)
    else
      (x_ob h a0 6).bind fun u9 =>
      (f_X6_refuse h a0 (-6 : Int32)).bind fun q10 =>
      some (q10.1, q10.2)
set_option maxRecDepth 100000 in
set_option maxHeartbeats 4000000 in
theorem c_X6_one {h : xH} {a0 : Nat} {p1 : Int32} {r9 : Int32} {hz : xH} (hE : f_X6_one h a0 p1 = some (r9, hz)) : Ctr M_X6_one [.ref a0, .int p1] h (some (.int r9)) hz 0 0 := by
  refine ctr_of (by decide) (fun _ _ => Nat.le_of_ble_eq_true rfl) (fun S => ?_)
  show Y S M_X6_one h (some (.int r9)) hz 0 0 0 [(0, .ref a0), (1, .int p1)] [] h 0 0
  unfold f_X6_one at hE
  refine y_iload_n dX6_one_0 1 rfl ?_
  obtain ⟨q1, eq1, hE⟩ := Option.bind_eq_some_iff.mp hE
  refine y_cSi0 (st := []) (as := [.int p1]) (c_X6_isRoom eq1) lk_X6_129 st_X6_isRoom ⟨Nat.le_of_ble_eq_true rfl, Nat.le_of_ble_eq_true rfl⟩ (Nat.le_of_ble_eq_true rfl) dX6_one_1 ⟨Nat.le_refl _, Nat.le_refl _⟩ rfl ?_
  refine y_if_ne (tgt := 14) dX6_one_4 (by decide) (fun hc12 => ?_) (fun hc12 => ?_)
  · rw [if_pos hc12] at hE
    refine y_aload_n dX6_one_7 0 rfl ?_
    refine y_bipush (v := (-2 : Int32)) dX6_one_8 (by decide) ?_
    obtain ⟨u2, eu2, hE⟩ := Option.bind_eq_some_iff.mp hE
    obtain ⟨q3, eq3, hE⟩ := Option.bind_eq_some_iff.mp hE
    refine y_cVi0 (st := []) (as := [.int (-2 : Int32)]) (c_X6_refuse eq3) lk_X6_58 in_X6_refuse se_X6_refuse rfl eu2 ⟨Nat.le_of_ble_eq_true rfl, Nat.le_of_ble_eq_true rfl⟩ (Nat.le_of_ble_eq_true rfl) dX6_one_10 ⟨Nat.le_refl _, Nat.le_refl _⟩ rfl ?_
    obtain ⟨rfl, rfl⟩ := x_inj2 hE
    exact y_ret dX6_one_13 (Nat.le_refl _) (Nat.le_refl _) ⟨_, rfl, rfl⟩
  · rw [if_neg hc12] at hE
    refine y_aload_n dX6_one_14 0 rfl ?_
    obtain ⟨a4, ea4, hE⟩ := Option.bind_eq_some_iff.mp hE
    refine y_getR fl_X6_10 ea4 dX6_one_15 ?_
    obtain ⟨x5, ex5, hE⟩ := Option.bind_eq_some_iff.mp hE
    refine y_getI fl_X6_139 ex5 dX6_one_18 ?_
    refine y_iconst (v := (4 : Int32)) dX6_one_21 (by decide) ?_
    refine y_icmp_lt (tgt := 32) dX6_one_22 (by decide) (fun hc11 => ?_) (fun hc11 => ?_)
    · rw [if_pos hc11] at hE
      refine y_aload_n dX6_one_32 0 rfl ?_
      obtain ⟨a6, ea6, hE⟩ := Option.bind_eq_some_iff.mp hE
      refine y_getR fl_X6_10 ea6 dX6_one_33 ?_
      refine y_iload_n dX6_one_36 1 rfl ?_
      obtain ⟨u7, eu7, hE⟩ := Option.bind_eq_some_iff.mp hE
      obtain ⟨q8, eq8, hE⟩ := Option.bind_eq_some_iff.mp hE
      refine y_cVi0 (st := []) (as := [.int p1]) (c_X0_addOne eq8) lk_X6_142 in_X0_addOne se_X0_addOne rfl eu7 ⟨Nat.le_of_ble_eq_true rfl, Nat.le_of_ble_eq_true rfl⟩ (Nat.le_of_ble_eq_true rfl) dX6_one_37 ⟨Nat.le_refl _, Nat.le_refl _⟩ rfl ?_
      obtain ⟨rfl, rfl⟩ := x_inj2 hE
      exact y_ret dX6_one_40 (Nat.le_refl _) (Nat.le_refl _) ⟨_, rfl, rfl⟩
    · rw [if_neg hc11] at hE
      refine y_aload_n dX6_one_25 0 rfl ?_
      refine y_bipush (v := (-6 : Int32)) dX6_one_26 (by decide) ?_
      obtain ⟨u9, eu9, hE⟩ := Option.bind_eq_some_iff.mp hE
      obtain ⟨q10, eq10, hE⟩ := Option.bind_eq_some_iff.mp hE
      refine y_cVi0 (st := []) (as := [.int (-6 : Int32)]) (c_X6_refuse eq10) lk_X6_58 in_X6_refuse se_X6_refuse rfl eu9 ⟨Nat.le_of_ble_eq_true rfl, Nat.le_of_ble_eq_true rfl⟩ (Nat.le_of_ble_eq_true rfl) dX6_one_28 ⟨Nat.le_refl _, Nat.le_refl _⟩ rfl ?_
      obtain ⟨rfl, rfl⟩ := x_inj2 hE
      exact y_ret dX6_one_31 (Nat.le_refl _) (Nat.le_refl _) ⟨_, rfl, rfl⟩
def f_X6_ask_J32 (h : xH) (v0 : Nat) (v1 : Int32) (v2 : Int32) : Option (Int32 × xH) :=
  if v1 = (1 : Int32) then
    if v2 < 0 then
      (x_ob h v0 6).bind fun u1 =>
      (f_X6_refuse h v0 (-2 : Int32)).bind fun q2 =>
      some (q2.1, q2.2)
    else
      if (99 : Int32) < v2 then
        (x_ob h v0 6).bind fun u3 =>
        (f_X6_refuse h v0 (-2 : Int32)).bind fun q4 =>
        some (q4.1, q4.2)
      else
        (x_gR h v0 6 0).bind fun a5 =>
        (x_gI h a5 0 8).bind fun x6 =>
        (x_gR h v0 6 0).bind fun a7 =>
        (x_put h a7 0 8 (.int v2)).bind fun h8 =>
        some (x6, h8)
  else
    (x_ob h v0 6).bind fun u11 =>
    (f_X6_refuse h v0 (-2 : Int32)).bind fun q12 =>
    some (q12.1, q12.2)
set_option maxRecDepth 100000 in
set_option maxHeartbeats 4000000 in
theorem j_X6_ask_32 {S : Nat × (Nat → Int32)} {h0 : xH} {mc ms cells slots : Nat} {h : xH} {v0 : Nat} {v1 : Int32} {v2 : Int32} {r9 : Int32} {hz : xH} (hE : f_X6_ask_J32 h v0 v1 v2 = some (r9, hz)) (hm : cells ≤ mc ∧ slots ≤ ms) : Y S M_X6_ask h0 (some (.int r9)) hz mc ms 32 [(0, .ref v0), (1, .int v1), (2, .int v2)] [] h cells slots := by
  unfold f_X6_ask_J32 at hE
  refine y_iload_n dX6_ask_32 1 rfl ?_
  refine y_iconst (v := (1 : Int32)) dX6_ask_33 (by decide) ?_
  refine y_icmp_ne (tgt := 65) dX6_ask_34 (by decide) (fun hc13 => ?_) (fun hc13 => ?_)
  · rw [if_pos hc13] at hE
    refine y_iload_n dX6_ask_37 2 rfl ?_
    refine y_if_lt (tgt := 65) dX6_ask_38 (by decide) (fun hc10 => ?_) (fun hc10 => ?_)
    · rw [if_pos hc10] at hE
      refine y_aload_n dX6_ask_65 0 rfl ?_
      refine y_bipush (v := (-2 : Int32)) dX6_ask_66 (by decide) ?_
      obtain ⟨u1, eu1, hE⟩ := Option.bind_eq_some_iff.mp hE
      obtain ⟨q2, eq2, hE⟩ := Option.bind_eq_some_iff.mp hE
      refine y_cVi0 (st := []) (as := [.int (-2 : Int32)]) (c_X6_refuse eq2) lk_X6_58 in_X6_refuse se_X6_refuse rfl eu1 ⟨Nat.le_of_ble_eq_true rfl, Nat.le_of_ble_eq_true rfl⟩ (Nat.le_of_ble_eq_true rfl) dX6_ask_68 hm rfl ?_
      obtain ⟨rfl, rfl⟩ := x_inj2 hE
      exact y_ret dX6_ask_71 hm.1 hm.2 ⟨_, rfl, rfl⟩
    · rw [if_neg hc10] at hE
      refine y_iload_n dX6_ask_41 2 rfl ?_
      refine y_bipush (v := (99 : Int32)) dX6_ask_42 (by decide) ?_
      refine y_icmp_gt (tgt := 65) dX6_ask_44 (by decide) (fun hc9 => ?_) (fun hc9 => ?_)
      · rw [if_pos hc9] at hE
        refine y_aload_n dX6_ask_65 0 rfl ?_
        refine y_bipush (v := (-2 : Int32)) dX6_ask_66 (by decide) ?_
        obtain ⟨u3, eu3, hE⟩ := Option.bind_eq_some_iff.mp hE
        obtain ⟨q4, eq4, hE⟩ := Option.bind_eq_some_iff.mp hE
        refine y_cVi0 (st := []) (as := [.int (-2 : Int32)]) (c_X6_refuse eq4) lk_X6_58 in_X6_refuse se_X6_refuse rfl eu3 ⟨Nat.le_of_ble_eq_true rfl, Nat.le_of_ble_eq_true rfl⟩ (Nat.le_of_ble_eq_true rfl) dX6_ask_68 hm rfl ?_
        obtain ⟨rfl, rfl⟩ := x_inj2 hE
        exact y_ret dX6_ask_71 hm.1 hm.2 ⟨_, rfl, rfl⟩
      · rw [if_neg hc9] at hE
        refine y_aload_n dX6_ask_47 0 rfl ?_
        obtain ⟨a5, ea5, hE⟩ := Option.bind_eq_some_iff.mp hE
        refine y_getR fl_X6_10 ea5 dX6_ask_48 ?_
        obtain ⟨x6, ex6, hE⟩ := Option.bind_eq_some_iff.mp hE
        refine y_getI fl_X6_148 ex6 dX6_ask_51 ?_
        refine y_istore_n (ls' := [(3, .int x6), (0, .ref v0), (1, .int v1), (2, .int v2)]) dX6_ask_54 (by decide) rfl rfl ?_
        refine y_aload_n dX6_ask_55 1 rfl ?_
        obtain ⟨a7, ea7, hE⟩ := Option.bind_eq_some_iff.mp hE
        refine y_getR fl_X6_10 ea7 dX6_ask_56 ?_
        refine y_iload_n dX6_ask_59 3 rfl ?_
        obtain ⟨h8, eh8, hE⟩ := Option.bind_eq_some_iff.mp hE
        refine y_putI fp_X6_148 eh8 dX6_ask_60 ?_
        refine y_iload_n dX6_ask_63 0 rfl ?_
        obtain ⟨rfl, rfl⟩ := x_inj2 hE
        exact y_ret dX6_ask_64 hm.1 hm.2 ⟨_, rfl, rfl⟩
  · rw [if_neg hc13] at hE
    refine y_aload_n dX6_ask_65 0 rfl ?_
    refine y_bipush (v := (-2 : Int32)) dX6_ask_66 (by decide) ?_
    obtain ⟨u11, eu11, hE⟩ := Option.bind_eq_some_iff.mp hE
    obtain ⟨q12, eq12, hE⟩ := Option.bind_eq_some_iff.mp hE
    refine y_cVi0 (st := []) (as := [.int (-2 : Int32)]) (c_X6_refuse eq12) lk_X6_58 in_X6_refuse se_X6_refuse rfl eu11 ⟨Nat.le_of_ble_eq_true rfl, Nat.le_of_ble_eq_true rfl⟩ (Nat.le_of_ble_eq_true rfl) dX6_ask_68 hm rfl ?_
    obtain ⟨rfl, rfl⟩ := x_inj2 hE
    exact y_ret dX6_ask_71 hm.1 hm.2 ⟨_, rfl, rfl⟩
def f_X6_ask (h : xH) (a0 : Nat) (p1 : Int32) (p2 : Int32) : Option (Int32 × xH) :=
  if p1 = 0 then
    if p2 < (1 : Int32) then
      f_X6_ask_J32 h a0 p1 p2
    else
      if (4 : Int32) < p2 then
        f_X6_ask_J32 h a0 p1 p2
      else
        (x_gR h a0 6 0).bind fun a14 =>
        (x_gI h a14 0 7).bind fun x15 =>
        (x_gR h a0 6 0).bind fun a16 =>
        (x_put h a16 0 7 (.int p2)).bind fun h17 =>
        some (x15, h17)
  else
    f_X6_ask_J32 h a0 p1 p2
set_option maxRecDepth 100000 in
set_option maxHeartbeats 4000000 in
theorem c_X6_ask {h : xH} {a0 : Nat} {p1 : Int32} {p2 : Int32} {r9 : Int32} {hz : xH} (hE : f_X6_ask h a0 p1 p2 = some (r9, hz)) : Ctr M_X6_ask [.ref a0, .int p1, .int p2] h (some (.int r9)) hz 0 0 := by
  refine ctr_of (by decide) (fun _ _ => Nat.le_of_ble_eq_true rfl) (fun S => ?_)
  show Y S M_X6_ask h (some (.int r9)) hz 0 0 0 [(0, .ref a0), (1, .int p1), (2, .int p2)] [] h 0 0
  unfold f_X6_ask at hE
  refine y_iload_n dX6_ask_0 1 rfl ?_
  refine y_if_ne (tgt := 32) dX6_ask_1 (by decide) (fun hc20 => ?_) (fun hc20 => ?_)
  · rw [if_pos hc20] at hE
    refine y_iload_n dX6_ask_4 2 rfl ?_
    refine y_iconst (v := (1 : Int32)) dX6_ask_5 (by decide) ?_
    refine y_icmp_lt (tgt := 32) dX6_ask_6 (by decide) (fun hc19 => ?_) (fun hc19 => ?_)
    · rw [if_pos hc19] at hE
      refine y_pick [0, 1, 2] rfl ?_
      exact j_X6_ask_32 hE ⟨Nat.le_refl _, Nat.le_refl _⟩
    · rw [if_neg hc19] at hE
      refine y_iload_n dX6_ask_9 2 rfl ?_
      refine y_iconst (v := (4 : Int32)) dX6_ask_10 (by decide) ?_
      refine y_icmp_gt (tgt := 32) dX6_ask_11 (by decide) (fun hc18 => ?_) (fun hc18 => ?_)
      · rw [if_pos hc18] at hE
        refine y_pick [0, 1, 2] rfl ?_
        exact j_X6_ask_32 hE ⟨Nat.le_refl _, Nat.le_refl _⟩
      · rw [if_neg hc18] at hE
        refine y_aload_n dX6_ask_14 0 rfl ?_
        obtain ⟨a14, ea14, hE⟩ := Option.bind_eq_some_iff.mp hE
        refine y_getR fl_X6_10 ea14 dX6_ask_15 ?_
        obtain ⟨x15, ex15, hE⟩ := Option.bind_eq_some_iff.mp hE
        refine y_getI fl_X6_145 ex15 dX6_ask_18 ?_
        refine y_istore_n (ls' := [(3, .int x15), (0, .ref a0), (1, .int p1), (2, .int p2)]) dX6_ask_21 (by decide) rfl rfl ?_
        refine y_aload_n dX6_ask_22 1 rfl ?_
        obtain ⟨a16, ea16, hE⟩ := Option.bind_eq_some_iff.mp hE
        refine y_getR fl_X6_10 ea16 dX6_ask_23 ?_
        refine y_iload_n dX6_ask_26 3 rfl ?_
        obtain ⟨h17, eh17, hE⟩ := Option.bind_eq_some_iff.mp hE
        refine y_putI fp_X6_145 eh17 dX6_ask_27 ?_
        refine y_iload_n dX6_ask_30 0 rfl ?_
        obtain ⟨rfl, rfl⟩ := x_inj2 hE
        exact y_ret dX6_ask_31 (Nat.le_refl _) (Nat.le_refl _) ⟨_, rfl, rfl⟩
  · rw [if_neg hc20] at hE
    refine y_pick [0, 1, 2] rfl ?_
    exact j_X6_ask_32 hE ⟨Nat.le_refl _, Nat.le_refl _⟩
def f_X6_stand (h : xH) (a0 : Nat) (p1 : Int32) (p2 : Int32) : Option (Int32 × xH) :=
  (x_gR h a0 6 0).bind fun a1 =>
  (x_ob h a1 0).bind fun u2 =>
  (f_X0_hasDoor h a1 p1).bind fun q3 =>
  if q3 = 0 then
    (x_ob h a0 6).bind fun u4 =>
    (f_X6_refuse h a0 (-2 : Int32)).bind fun q5 =>
    some (q5.1, q5.2)
  else
    (x_gR h a0 6 0).bind fun a6 =>
    (x_ob h a6 0).bind fun u7 =>
    (f_X0_isOpen h a6 p1).bind fun q8 =>
    if q8 = p2 then
      some ((0 : Int32), h)
    else
      (x_gR h a0 6 0).bind fun a9 =>
      (x_gI h a9 0 5).bind fun x10 =>
      (x_put h a9 0 5 (.int (x10 ^^^ (i_shl (1 : Int32) p1)))).bind fun h11 =>
      some ((1 : Int32), h11)
set_option maxRecDepth 100000 in
set_option maxHeartbeats 4000000 in
theorem c_X6_stand {h : xH} {a0 : Nat} {p1 : Int32} {p2 : Int32} {r9 : Int32} {hz : xH} (hE : f_X6_stand h a0 p1 p2 = some (r9, hz)) : Ctr M_X6_stand [.ref a0, .int p1, .int p2] h (some (.int r9)) hz 0 0 := by
  refine ctr_of (by decide) (fun _ _ => Nat.le_of_ble_eq_true rfl) (fun S => ?_)
  show Y S M_X6_stand h (some (.int r9)) hz 0 0 0 [(0, .ref a0), (1, .int p1), (2, .int p2)] [] h 0 0
  unfold f_X6_stand at hE
  refine y_aload_n dX6_stand_0 0 rfl ?_
  obtain ⟨a1, ea1, hE⟩ := Option.bind_eq_some_iff.mp hE
  refine y_getR fl_X6_10 ea1 dX6_stand_1 ?_
  refine y_iload_n dX6_stand_4 1 rfl ?_
  obtain ⟨u2, eu2, hE⟩ := Option.bind_eq_some_iff.mp hE
  obtain ⟨q3, eq3, hE⟩ := Option.bind_eq_some_iff.mp hE
  refine y_cVi0 (st := []) (as := [.int p1]) (c_X0_hasDoor eq3) lk_X6_102 in_X0_hasDoor se_X0_hasDoor rfl eu2 ⟨Nat.le_of_ble_eq_true rfl, Nat.le_of_ble_eq_true rfl⟩ (Nat.le_of_ble_eq_true rfl) dX6_stand_5 ⟨Nat.le_refl _, Nat.le_refl _⟩ rfl ?_
  refine y_if_ne (tgt := 18) dX6_stand_8 (by decide) (fun hc13 => ?_) (fun hc13 => ?_)
  · rw [if_pos hc13] at hE
    refine y_aload_n dX6_stand_11 0 rfl ?_
    refine y_bipush (v := (-2 : Int32)) dX6_stand_12 (by decide) ?_
    obtain ⟨u4, eu4, hE⟩ := Option.bind_eq_some_iff.mp hE
    obtain ⟨q5, eq5, hE⟩ := Option.bind_eq_some_iff.mp hE
    refine y_cVi0 (st := []) (as := [.int (-2 : Int32)]) (c_X6_refuse eq5) lk_X6_58 in_X6_refuse se_X6_refuse rfl eu4 ⟨Nat.le_of_ble_eq_true rfl, Nat.le_of_ble_eq_true rfl⟩ (Nat.le_of_ble_eq_true rfl) dX6_stand_14 ⟨Nat.le_refl _, Nat.le_refl _⟩ rfl ?_
    obtain ⟨rfl, rfl⟩ := x_inj2 hE
    exact y_ret dX6_stand_17 (Nat.le_refl _) (Nat.le_refl _) ⟨_, rfl, rfl⟩
  · rw [if_neg hc13] at hE
    refine y_aload_n dX6_stand_18 0 rfl ?_
    obtain ⟨a6, ea6, hE⟩ := Option.bind_eq_some_iff.mp hE
    refine y_getR fl_X6_10 ea6 dX6_stand_19 ?_
    refine y_iload_n dX6_stand_22 1 rfl ?_
    obtain ⟨u7, eu7, hE⟩ := Option.bind_eq_some_iff.mp hE
    obtain ⟨q8, eq8, hE⟩ := Option.bind_eq_some_iff.mp hE
    refine y_cVi0 (st := []) (as := [.int p1]) (c_X0_isOpen eq8) lk_X6_151 in_X0_isOpen se_X0_isOpen rfl eu7 ⟨Nat.le_of_ble_eq_true rfl, Nat.le_of_ble_eq_true rfl⟩ (Nat.le_of_ble_eq_true rfl) dX6_stand_23 ⟨Nat.le_refl _, Nat.le_refl _⟩ rfl ?_
    refine y_iload_n dX6_stand_26 2 rfl ?_
    refine y_icmp_ne (tgt := 32) dX6_stand_27 (by decide) (fun hc12 => ?_) (fun hc12 => ?_)
    · rw [if_pos hc12] at hE
      refine y_iconst (v := (0 : Int32)) dX6_stand_30 (by decide) ?_
      obtain ⟨rfl, rfl⟩ := x_inj2 hE
      exact y_ret dX6_stand_31 (Nat.le_refl _) (Nat.le_refl _) ⟨_, rfl, rfl⟩
    · rw [if_neg hc12] at hE
      refine y_aload_n dX6_stand_32 0 rfl ?_
      obtain ⟨a9, ea9, hE⟩ := Option.bind_eq_some_iff.mp hE
      refine y_getR fl_X6_10 ea9 dX6_stand_33 ?_
      refine y_dup dX6_stand_36 rfl ?_
      obtain ⟨x10, ex10, hE⟩ := Option.bind_eq_some_iff.mp hE
      refine y_getI fl_X6_154 ex10 dX6_stand_37 ?_
      refine y_iconst (v := (1 : Int32)) dX6_stand_40 (by decide) ?_
      refine y_iload_n dX6_stand_41 1 rfl ?_
      refine y_ishl dX6_stand_42 ?_
      refine y_ixor dX6_stand_43 ?_
      obtain ⟨h11, eh11, hE⟩ := Option.bind_eq_some_iff.mp hE
      refine y_putI fp_X6_154 eh11 dX6_stand_44 ?_
      refine y_iconst (v := (1 : Int32)) dX6_stand_47 (by decide) ?_
      obtain ⟨rfl, rfl⟩ := x_inj2 hE
      exact y_ret dX6_stand_48 (Nat.le_refl _) (Nat.le_refl _) ⟨_, rfl, rfl⟩
def f_X6_move (h : xH) (a0 : Nat) (p1 : Int32) (p2 : Int32) : Option (Int32 × xH) :=
  (x_gR h a0 6 0).bind fun a1 =>
  (x_ob h a1 0).bind fun u2 =>
  (f_X0_hasOne h a1 p1).bind fun q3 =>
  if q3 = 0 then
    (x_ob h a0 6).bind fun u4 =>
    (f_X6_refuse h a0 (-2 : Int32)).bind fun q5 =>
    some (q5.1, q5.2)
  else
    (f_X6_isRoom h p2).bind fun q6 =>
    if q6 = 0 then
      (x_ob h a0 6).bind fun u7 =>
      (f_X6_refuse h a0 (-2 : Int32)).bind fun q8 =>
      some (q8.1, q8.2)
    else
      (x_gR h a0 6 0).bind fun a9 =>
      (x_gR h a9 0 3).bind fun a10 =>
      (x_ld h a10 p1).bind fun x11 =>
      (x_gR h a0 6 0).bind fun a12 =>
      (x_gR h a12 0 3).bind fun a13 =>
      (x_st h a13 p1 p2).bind fun h14 =>
      some (x11, h14)
set_option maxRecDepth 100000 in
set_option maxHeartbeats 4000000 in
theorem c_X6_move {h : xH} {a0 : Nat} {p1 : Int32} {p2 : Int32} {r9 : Int32} {hz : xH} (hE : f_X6_move h a0 p1 p2 = some (r9, hz)) : Ctr M_X6_move [.ref a0, .int p1, .int p2] h (some (.int r9)) hz 0 0 := by
  refine ctr_of (by decide) (fun _ _ => Nat.le_of_ble_eq_true rfl) (fun S => ?_)
  show Y S M_X6_move h (some (.int r9)) hz 0 0 0 [(0, .ref a0), (1, .int p1), (2, .int p2)] [] h 0 0
  unfold f_X6_move at hE
  refine y_aload_n dX6_move_0 0 rfl ?_
  obtain ⟨a1, ea1, hE⟩ := Option.bind_eq_some_iff.mp hE
  refine y_getR fl_X6_10 ea1 dX6_move_1 ?_
  refine y_iload_n dX6_move_4 1 rfl ?_
  obtain ⟨u2, eu2, hE⟩ := Option.bind_eq_some_iff.mp hE
  obtain ⟨q3, eq3, hE⟩ := Option.bind_eq_some_iff.mp hE
  refine y_cVi0 (st := []) (as := [.int p1]) (c_X0_hasOne eq3) lk_X6_157 in_X0_hasOne se_X0_hasOne rfl eu2 ⟨Nat.le_of_ble_eq_true rfl, Nat.le_of_ble_eq_true rfl⟩ (Nat.le_of_ble_eq_true rfl) dX6_move_5 ⟨Nat.le_refl _, Nat.le_refl _⟩ rfl ?_
  refine y_if_eq (tgt := 18) dX6_move_8 (by decide) (fun hc16 => ?_) (fun hc16 => ?_)
  · rw [if_pos hc16] at hE
    refine y_aload_n dX6_move_18 0 rfl ?_
    refine y_bipush (v := (-2 : Int32)) dX6_move_19 (by decide) ?_
    obtain ⟨u4, eu4, hE⟩ := Option.bind_eq_some_iff.mp hE
    obtain ⟨q5, eq5, hE⟩ := Option.bind_eq_some_iff.mp hE
    refine y_cVi0 (st := []) (as := [.int (-2 : Int32)]) (c_X6_refuse eq5) lk_X6_58 in_X6_refuse se_X6_refuse rfl eu4 ⟨Nat.le_of_ble_eq_true rfl, Nat.le_of_ble_eq_true rfl⟩ (Nat.le_of_ble_eq_true rfl) dX6_move_21 ⟨Nat.le_refl _, Nat.le_refl _⟩ rfl ?_
    obtain ⟨rfl, rfl⟩ := x_inj2 hE
    exact y_ret dX6_move_24 (Nat.le_refl _) (Nat.le_refl _) ⟨_, rfl, rfl⟩
  · rw [if_neg hc16] at hE
    refine y_iload_n dX6_move_11 2 rfl ?_
    obtain ⟨q6, eq6, hE⟩ := Option.bind_eq_some_iff.mp hE
    refine y_cSi0 (st := []) (as := [.int p2]) (c_X6_isRoom eq6) lk_X6_129 st_X6_isRoom ⟨Nat.le_of_ble_eq_true rfl, Nat.le_of_ble_eq_true rfl⟩ (Nat.le_of_ble_eq_true rfl) dX6_move_12 ⟨Nat.le_refl _, Nat.le_refl _⟩ rfl ?_
    refine y_if_ne (tgt := 25) dX6_move_15 (by decide) (fun hc15 => ?_) (fun hc15 => ?_)
    · rw [if_pos hc15] at hE
      refine y_aload_n dX6_move_18 0 rfl ?_
      refine y_bipush (v := (-2 : Int32)) dX6_move_19 (by decide) ?_
      obtain ⟨u7, eu7, hE⟩ := Option.bind_eq_some_iff.mp hE
      obtain ⟨q8, eq8, hE⟩ := Option.bind_eq_some_iff.mp hE
      refine y_cVi0 (st := []) (as := [.int (-2 : Int32)]) (c_X6_refuse eq8) lk_X6_58 in_X6_refuse se_X6_refuse rfl eu7 ⟨Nat.le_of_ble_eq_true rfl, Nat.le_of_ble_eq_true rfl⟩ (Nat.le_of_ble_eq_true rfl) dX6_move_21 ⟨Nat.le_refl _, Nat.le_refl _⟩ rfl ?_
      obtain ⟨rfl, rfl⟩ := x_inj2 hE
      exact y_ret dX6_move_24 (Nat.le_refl _) (Nat.le_refl _) ⟨_, rfl, rfl⟩
    · rw [if_neg hc15] at hE
      refine y_aload_n dX6_move_25 0 rfl ?_
      obtain ⟨a9, ea9, hE⟩ := Option.bind_eq_some_iff.mp hE
      refine y_getR fl_X6_10 ea9 dX6_move_26 ?_
      obtain ⟨a10, ea10, hE⟩ := Option.bind_eq_some_iff.mp hE
      refine y_getR fl_X6_160 ea10 dX6_move_29 ?_
      refine y_iload_n dX6_move_32 1 rfl ?_
      obtain ⟨x11, ex11, hE⟩ := Option.bind_eq_some_iff.mp hE
      refine y_iald ex11 dX6_move_33 ?_
      refine y_istore_n (ls' := [(3, .int x11), (0, .ref a0), (1, .int p1), (2, .int p2)]) dX6_move_34 (by decide) rfl rfl ?_
      refine y_aload_n dX6_move_35 1 rfl ?_
      obtain ⟨a12, ea12, hE⟩ := Option.bind_eq_some_iff.mp hE
      refine y_getR fl_X6_10 ea12 dX6_move_36 ?_
      obtain ⟨a13, ea13, hE⟩ := Option.bind_eq_some_iff.mp hE
      refine y_getR fl_X6_160 ea13 dX6_move_39 ?_
      refine y_iload_n dX6_move_42 2 rfl ?_
      refine y_iload_n dX6_move_43 3 rfl ?_
      obtain ⟨h14, eh14, hE⟩ := Option.bind_eq_some_iff.mp hE
      refine y_iast eh14 dX6_move_44 ?_
      refine y_iload_n dX6_move_45 0 rfl ?_
      obtain ⟨rfl, rfl⟩ := x_inj2 hE
      exact y_ret dX6_move_46 (Nat.le_refl _) (Nat.le_refl _) ⟨_, rfl, rfl⟩
def f_X6_feed (n : Nat) (h : xH) (a0 : Nat) (p1 : Int32) (p2 : Int32) : Option (Int32 × xH) :=
  if p2 < (1 : Int32) then
    (x_ob h a0 6).bind fun u1 =>
    (f_X6_refuse h a0 (-2 : Int32)).bind fun q2 =>
    some (q2.1, q2.2)
  else
    if p2 ≤ (4 : Int32) then
      (x_gR h a0 6 5).bind fun a3 =>
      (x_gI h a3 5 1).bind fun x4 =>
      if (x4 + p2) ≤ (250 : Int32) then
        (x_gR h a0 6 5).bind fun a5 =>
        (x_ob h a5 5).bind fun u6 =>
        (f_X5_append n h a5 p1 p2).bind fun q7 =>
        (x_gR q7 a0 6 5).bind fun a8 =>
        (x_gI q7 a8 5 1).bind fun x9 =>
        some (x9, q7)
      else
        (x_ob h a0 6).bind fun u10 =>
        (f_X6_refuse h a0 (-6 : Int32)).bind fun q11 =>
        some (q11.1, q11.2)
    else
      (x_ob h a0 6).bind fun u13 =>
      (f_X6_refuse h a0 (-2 : Int32)).bind fun q14 =>
      some (q14.1, q14.2)
set_option maxRecDepth 100000 in
set_option maxHeartbeats 4000000 in
theorem c_X6_feed {n : Nat} {h : xH} {a0 : Nat} {p1 : Int32} {p2 : Int32} {r9 : Int32} {hz : xH} (hE : f_X6_feed n h a0 p1 p2 = some (r9, hz)) : Ctr M_X6_feed [.ref a0, .int p1, .int p2] h (some (.int r9)) hz 0 0 := by
  refine ctr_of (by decide) (fun _ _ => Nat.le_of_ble_eq_true rfl) (fun S => ?_)
  show Y S M_X6_feed h (some (.int r9)) hz 0 0 0 [(0, .ref a0), (1, .int p1), (2, .int p2)] [] h 0 0
  unfold f_X6_feed at hE
  refine y_iload_n dX6_feed_0 2 rfl ?_
  refine y_iconst (v := (1 : Int32)) dX6_feed_1 (by decide) ?_
  refine y_icmp_lt (tgt := 10) dX6_feed_2 (by decide) (fun hc16 => ?_) (fun hc16 => ?_)
  · rw [if_pos hc16] at hE
    refine y_aload_n dX6_feed_10 0 rfl ?_
    refine y_bipush (v := (-2 : Int32)) dX6_feed_11 (by decide) ?_
    obtain ⟨u1, eu1, hE⟩ := Option.bind_eq_some_iff.mp hE
    obtain ⟨q2, eq2, hE⟩ := Option.bind_eq_some_iff.mp hE
    refine y_cVi0 (st := []) (as := [.int (-2 : Int32)]) (c_X6_refuse eq2) lk_X6_58 in_X6_refuse se_X6_refuse rfl eu1 ⟨Nat.le_of_ble_eq_true rfl, Nat.le_of_ble_eq_true rfl⟩ (Nat.le_of_ble_eq_true rfl) dX6_feed_13 ⟨Nat.le_refl _, Nat.le_refl _⟩ rfl ?_
    obtain ⟨rfl, rfl⟩ := x_inj2 hE
    exact y_ret dX6_feed_16 (Nat.le_refl _) (Nat.le_refl _) ⟨_, rfl, rfl⟩
  · rw [if_neg hc16] at hE
    refine y_iload_n dX6_feed_5 2 rfl ?_
    refine y_iconst (v := (4 : Int32)) dX6_feed_6 (by decide) ?_
    refine y_icmp_le (tgt := 17) dX6_feed_7 (by decide) (fun hc15 => ?_) (fun hc15 => ?_)
    · rw [if_pos hc15] at hE
      refine y_aload_n dX6_feed_17 0 rfl ?_
      obtain ⟨a3, ea3, hE⟩ := Option.bind_eq_some_iff.mp hE
      refine y_getR fl_X6_31 ea3 dX6_feed_18 ?_
      obtain ⟨x4, ex4, hE⟩ := Option.bind_eq_some_iff.mp hE
      refine y_getI fl_X6_163 ex4 dX6_feed_21 ?_
      refine y_iload_n dX6_feed_24 2 rfl ?_
      refine y_iadd dX6_feed_25 ?_
      refine y_sipush (v := (250 : Int32)) dX6_feed_26 (by decide) ?_
      refine y_icmp_le (tgt := 39) dX6_feed_29 (by decide) (fun hc12 => ?_) (fun hc12 => ?_)
      · rw [if_pos hc12] at hE
        refine y_aload_n dX6_feed_39 0 rfl ?_
        obtain ⟨a5, ea5, hE⟩ := Option.bind_eq_some_iff.mp hE
        refine y_getR fl_X6_31 ea5 dX6_feed_40 ?_
        refine y_iload_n dX6_feed_43 1 rfl ?_
        refine y_iload_n dX6_feed_44 2 rfl ?_
        obtain ⟨u6, eu6, hE⟩ := Option.bind_eq_some_iff.mp hE
        obtain ⟨q7, eq7, hE⟩ := Option.bind_eq_some_iff.mp hE
        refine y_cVv0 (st := []) (as := [.int p1, .int p2]) (c_X5_append eq7) lk_X6_166 in_X5_append se_X5_append rfl eu6 ⟨Nat.le_of_ble_eq_true rfl, Nat.le_of_ble_eq_true rfl⟩ (Nat.le_of_ble_eq_true rfl) dX6_feed_45 ⟨Nat.le_refl _, Nat.le_refl _⟩ rfl ?_
        refine y_aload_n dX6_feed_48 0 rfl ?_
        obtain ⟨a8, ea8, hE⟩ := Option.bind_eq_some_iff.mp hE
        refine y_getR fl_X6_31 ea8 dX6_feed_49 ?_
        obtain ⟨x9, ex9, hE⟩ := Option.bind_eq_some_iff.mp hE
        refine y_getI fl_X6_163 ex9 dX6_feed_52 ?_
        obtain ⟨rfl, rfl⟩ := x_inj2 hE
        exact y_ret dX6_feed_55 (Nat.le_refl _) (Nat.le_refl _) ⟨_, rfl, rfl⟩
      · rw [if_neg hc12] at hE
        refine y_aload_n dX6_feed_32 0 rfl ?_
        refine y_bipush (v := (-6 : Int32)) dX6_feed_33 (by decide) ?_
        obtain ⟨u10, eu10, hE⟩ := Option.bind_eq_some_iff.mp hE
        obtain ⟨q11, eq11, hE⟩ := Option.bind_eq_some_iff.mp hE
        refine y_cVi0 (st := []) (as := [.int (-6 : Int32)]) (c_X6_refuse eq11) lk_X6_58 in_X6_refuse se_X6_refuse rfl eu10 ⟨Nat.le_of_ble_eq_true rfl, Nat.le_of_ble_eq_true rfl⟩ (Nat.le_of_ble_eq_true rfl) dX6_feed_35 ⟨Nat.le_refl _, Nat.le_refl _⟩ rfl ?_
        obtain ⟨rfl, rfl⟩ := x_inj2 hE
        exact y_ret dX6_feed_38 (Nat.le_refl _) (Nat.le_refl _) ⟨_, rfl, rfl⟩
    · rw [if_neg hc15] at hE
      refine y_aload_n dX6_feed_10 0 rfl ?_
      refine y_bipush (v := (-2 : Int32)) dX6_feed_11 (by decide) ?_
      obtain ⟨u13, eu13, hE⟩ := Option.bind_eq_some_iff.mp hE
      obtain ⟨q14, eq14, hE⟩ := Option.bind_eq_some_iff.mp hE
      refine y_cVi0 (st := []) (as := [.int (-2 : Int32)]) (c_X6_refuse eq14) lk_X6_58 in_X6_refuse se_X6_refuse rfl eu13 ⟨Nat.le_of_ble_eq_true rfl, Nat.le_of_ble_eq_true rfl⟩ (Nat.le_of_ble_eq_true rfl) dX6_feed_13 ⟨Nat.le_refl _, Nat.le_refl _⟩ rfl ?_
      obtain ⟨rfl, rfl⟩ := x_inj2 hE
      exact y_ret dX6_feed_16 (Nat.le_refl _) (Nat.le_refl _) ⟨_, rfl, rfl⟩
def f_X6_wipe (h : xH) (a0 : Nat) : Option (Int32 × xH) :=
  (x_gR h a0 6 5).bind fun a1 =>
  (x_gI h a1 5 1).bind fun x2 =>
  (x_gR h a0 6 5).bind fun a3 =>
  (x_put h a3 5 1 (.int (0 : Int32))).bind fun h4 =>
  some (x2, h4)
set_option maxRecDepth 100000 in
set_option maxHeartbeats 4000000 in
theorem c_X6_wipe {h : xH} {a0 : Nat} {r9 : Int32} {hz : xH} (hE : f_X6_wipe h a0 = some (r9, hz)) : Ctr M_X6_wipe [.ref a0] h (some (.int r9)) hz 0 0 := by
  refine ctr_of (by decide) (fun _ _ => Nat.le_of_ble_eq_true rfl) (fun S => ?_)
  show Y S M_X6_wipe h (some (.int r9)) hz 0 0 0 [(0, .ref a0)] [] h 0 0
  unfold f_X6_wipe at hE
  refine y_aload_n dX6_wipe_0 0 rfl ?_
  obtain ⟨a1, ea1, hE⟩ := Option.bind_eq_some_iff.mp hE
  refine y_getR fl_X6_31 ea1 dX6_wipe_1 ?_
  obtain ⟨x2, ex2, hE⟩ := Option.bind_eq_some_iff.mp hE
  refine y_getI fl_X6_163 ex2 dX6_wipe_4 ?_
  refine y_istore_n (ls' := [(1, .int x2), (0, .ref a0)]) dX6_wipe_7 (by decide) rfl rfl ?_
  refine y_aload_n dX6_wipe_8 1 rfl ?_
  obtain ⟨a3, ea3, hE⟩ := Option.bind_eq_some_iff.mp hE
  refine y_getR fl_X6_31 ea3 dX6_wipe_9 ?_
  refine y_iconst (v := (0 : Int32)) dX6_wipe_12 (by decide) ?_
  obtain ⟨h4, eh4, hE⟩ := Option.bind_eq_some_iff.mp hE
  refine y_putI fp_X6_163 eh4 dX6_wipe_13 ?_
  refine y_iload_n dX6_wipe_16 0 rfl ?_
  obtain ⟨rfl, rfl⟩ := x_inj2 hE
  exact y_ret dX6_wipe_17 (Nat.le_refl _) (Nat.le_refl _) ⟨_, rfl, rfl⟩
def f_X6_house (n : Nat) (h : xH) (a0 : Nat) : Option (Int32 × xH) :=
  (x_gR h a0 6 1).bind fun a1 =>
  (x_gR h a0 6 0).bind fun a2 =>
  (x_ob h a1 0).bind fun u3 =>
  (f_X0_become n h a1 a2).bind fun q4 =>
  (x_gR q4 a0 6 5).bind fun a5 =>
  (x_gR q4 a0 6 1).bind fun a6 =>
  (x_ob q4 a5 5).bind fun u7 =>
  (f_X5_readInto n q4 a5 a6).bind fun q8 =>
  (x_gR q8.2 a0 6 5).bind fun a9 =>
  (x_put q8.2 a9 5 1 (.int (0 : Int32))).bind fun h10 =>
  if 0 ≤ q8.1 then
    (x_gR h10 a0 6 0).bind fun a11 =>
    (x_gR h10 a0 6 1).bind fun a12 =>
    (x_ob h10 a11 0).bind fun u13 =>
    (f_X0_become n h10 a11 a12).bind fun q14 =>
    some (q8.1, q14)
  else
    (x_ob h10 a0 6).bind fun u15 =>
    (f_X6_refuse h10 a0 (-2 : Int32)).bind fun q16 =>
    some (q8.1, q16.2)
set_option maxRecDepth 100000 in
set_option maxHeartbeats 4000000 in
theorem c_X6_house {n : Nat} {h : xH} {a0 : Nat} {r9 : Int32} {hz : xH} (hE : f_X6_house n h a0 = some (r9, hz)) : Ctr M_X6_house [.ref a0] h (some (.int r9)) hz 0 0 := by
  refine ctr_of (by decide) (fun _ _ => Nat.le_of_ble_eq_true rfl) (fun S => ?_)
  show Y S M_X6_house h (some (.int r9)) hz 0 0 0 [(0, .ref a0)] [] h 0 0
  unfold f_X6_house at hE
  refine y_aload_n dX6_house_0 0 rfl ?_
  obtain ⟨a1, ea1, hE⟩ := Option.bind_eq_some_iff.mp hE
  refine y_getR fl_X6_16 ea1 dX6_house_1 ?_
  refine y_aload_n dX6_house_4 0 rfl ?_
  obtain ⟨a2, ea2, hE⟩ := Option.bind_eq_some_iff.mp hE
  refine y_getR fl_X6_10 ea2 dX6_house_5 ?_
  obtain ⟨u3, eu3, hE⟩ := Option.bind_eq_some_iff.mp hE
  obtain ⟨q4, eq4, hE⟩ := Option.bind_eq_some_iff.mp hE
  refine y_cVv0 (st := []) (as := [.ref a2]) (c_X0_become eq4) lk_X6_169 in_X0_become se_X0_become rfl eu3 ⟨Nat.le_of_ble_eq_true rfl, Nat.le_of_ble_eq_true rfl⟩ (Nat.le_of_ble_eq_true rfl) dX6_house_8 ⟨Nat.le_refl _, Nat.le_refl _⟩ rfl ?_
  refine y_aload_n dX6_house_11 0 rfl ?_
  obtain ⟨a5, ea5, hE⟩ := Option.bind_eq_some_iff.mp hE
  refine y_getR fl_X6_31 ea5 dX6_house_12 ?_
  refine y_aload_n dX6_house_15 0 rfl ?_
  obtain ⟨a6, ea6, hE⟩ := Option.bind_eq_some_iff.mp hE
  refine y_getR fl_X6_16 ea6 dX6_house_16 ?_
  obtain ⟨u7, eu7, hE⟩ := Option.bind_eq_some_iff.mp hE
  obtain ⟨q8, eq8, hE⟩ := Option.bind_eq_some_iff.mp hE
  refine y_cVi0 (st := []) (as := [.ref a6]) (c_X5_readInto eq8) lk_X6_173 in_X5_readInto se_X5_readInto rfl eu7 ⟨Nat.le_of_ble_eq_true rfl, Nat.le_of_ble_eq_true rfl⟩ (Nat.le_of_ble_eq_true rfl) dX6_house_19 ⟨Nat.le_refl _, Nat.le_refl _⟩ rfl ?_
  refine y_istore_n (ls' := [(1, .int q8.1), (0, .ref a0)]) dX6_house_22 (by decide) rfl rfl ?_
  refine y_aload_n dX6_house_23 1 rfl ?_
  obtain ⟨a9, ea9, hE⟩ := Option.bind_eq_some_iff.mp hE
  refine y_getR fl_X6_31 ea9 dX6_house_24 ?_
  refine y_iconst (v := (0 : Int32)) dX6_house_27 (by decide) ?_
  obtain ⟨h10, eh10, hE⟩ := Option.bind_eq_some_iff.mp hE
  refine y_putI fp_X6_163 eh10 dX6_house_28 ?_
  refine y_iload_n dX6_house_31 0 rfl ?_
  refine y_if_ge (tgt := 44) dX6_house_32 (by decide) (fun hc17 => ?_) (fun hc17 => ?_)
  · rw [if_pos hc17] at hE
    refine y_aload_n dX6_house_44 1 rfl ?_
    obtain ⟨a11, ea11, hE⟩ := Option.bind_eq_some_iff.mp hE
    refine y_getR fl_X6_10 ea11 dX6_house_45 ?_
    refine y_aload_n dX6_house_48 1 rfl ?_
    obtain ⟨a12, ea12, hE⟩ := Option.bind_eq_some_iff.mp hE
    refine y_getR fl_X6_16 ea12 dX6_house_49 ?_
    obtain ⟨u13, eu13, hE⟩ := Option.bind_eq_some_iff.mp hE
    obtain ⟨q14, eq14, hE⟩ := Option.bind_eq_some_iff.mp hE
    refine y_cVv0 (st := []) (as := [.ref a12]) (c_X0_become eq14) lk_X6_169 in_X0_become se_X0_become rfl eu13 ⟨Nat.le_of_ble_eq_true rfl, Nat.le_of_ble_eq_true rfl⟩ (Nat.le_of_ble_eq_true rfl) dX6_house_52 ⟨Nat.le_refl _, Nat.le_refl _⟩ rfl ?_
    refine y_iload_n dX6_house_55 0 rfl ?_
    obtain ⟨rfl, rfl⟩ := x_inj2 hE
    exact y_ret dX6_house_56 (Nat.le_refl _) (Nat.le_refl _) ⟨_, rfl, rfl⟩
  · rw [if_neg hc17] at hE
    refine y_aload_n dX6_house_35 1 rfl ?_
    refine y_bipush (v := (-2 : Int32)) dX6_house_36 (by decide) ?_
    obtain ⟨u15, eu15, hE⟩ := Option.bind_eq_some_iff.mp hE
    obtain ⟨q16, eq16, hE⟩ := Option.bind_eq_some_iff.mp hE
    refine y_cVi0 (st := []) (as := [.int (-2 : Int32)]) (c_X6_refuse eq16) lk_X6_58 in_X6_refuse se_X6_refuse rfl eu15 ⟨Nat.le_of_ble_eq_true rfl, Nat.le_of_ble_eq_true rfl⟩ (Nat.le_of_ble_eq_true rfl) dX6_house_38 ⟨Nat.le_refl _, Nat.le_refl _⟩ rfl ?_
    refine y_pop dX6_house_41 rfl ?_
    refine y_iload_n dX6_house_42 0 rfl ?_
    obtain ⟨rfl, rfl⟩ := x_inj2 hE
    exact y_ret dX6_house_43 (Nat.le_refl _) (Nat.le_refl _) ⟨_, rfl, rfl⟩
def f_X6_doorOf (h : xH) (a0 : Nat) (p1 : Int32) (p2 : Int32) : Option (Int32 × xH) :=
  (x_gR h a0 6 0).bind fun a1 =>
  (x_ob h a1 0).bind fun u2 =>
  (f_X0_hasDoor h a1 p1).bind fun q3 =>
  if q3 = 0 then
    (x_ob h a0 6).bind fun u4 =>
    (f_X6_refuse h a0 (-2 : Int32)).bind fun q5 =>
    some (q5.1, q5.2)
  else
    if p2 = (0 : Int32) then
      (x_gR h a0 6 0).bind fun a6 =>
      (x_gR h a6 0 0).bind fun a7 =>
      (x_ld h a7 p1).bind fun x8 =>
      some (x8, h)
    else
    if p2 = (1 : Int32) then
      (x_gR h a0 6 0).bind fun a10 =>
      (x_gR h a10 0 1).bind fun a11 =>
      (x_ld h a11 p1).bind fun x12 =>
      some (x12, h)
    else
    if p2 = (2 : Int32) then
      (x_gR h a0 6 0).bind fun a14 =>
      (x_gR h a14 0 2).bind fun a15 =>
      (x_ld h a15 p1).bind fun x16 =>
      some (x16, h)
    else
    if p2 = (3 : Int32) then
      (x_gR h a0 6 0).bind fun a18 =>
      (x_ob h a18 0).bind fun u19 =>
      (f_X0_isOpen h a18 p1).bind fun q20 =>
      if q20 = 0 then
        some ((0 : Int32), h)
      else
        some ((1 : Int32), h)
    else
    if p2 = (4 : Int32) then
      (x_gR h a0 6 0).bind fun a23 =>
      (x_ob h a23 0).bind fun u24 =>
      (f_X0_weightOf h a23 p1).bind fun q25 =>
      some (q25, h)
    else
    (x_ob h a0 6).bind fun u27 =>
    (f_X6_refuse h a0 (-2 : Int32)).bind fun q28 =>
    some (q28.1, q28.2)
set_option maxRecDepth 100000 in
set_option maxHeartbeats 4000000 in
theorem c_X6_doorOf {h : xH} {a0 : Nat} {p1 : Int32} {p2 : Int32} {r9 : Int32} {hz : xH} (hE : f_X6_doorOf h a0 p1 p2 = some (r9, hz)) : Ctr M_X6_doorOf [.ref a0, .int p1, .int p2] h (some (.int r9)) hz 0 0 := by
  refine ctr_of (by decide) (fun _ _ => Nat.le_of_ble_eq_true rfl) (fun S => ?_)
  show Y S M_X6_doorOf h (some (.int r9)) hz 0 0 0 [(0, .ref a0), (1, .int p1), (2, .int p2)] [] h 0 0
  unfold f_X6_doorOf at hE
  refine y_aload_n dX6_doorOf_0 0 rfl ?_
  obtain ⟨a1, ea1, hE⟩ := Option.bind_eq_some_iff.mp hE
  refine y_getR fl_X6_10 ea1 dX6_doorOf_1 ?_
  refine y_iload_n dX6_doorOf_4 1 rfl ?_
  obtain ⟨u2, eu2, hE⟩ := Option.bind_eq_some_iff.mp hE
  obtain ⟨q3, eq3, hE⟩ := Option.bind_eq_some_iff.mp hE
  refine y_cVi0 (st := []) (as := [.int p1]) (c_X0_hasDoor eq3) lk_X6_102 in_X0_hasDoor se_X0_hasDoor rfl eu2 ⟨Nat.le_of_ble_eq_true rfl, Nat.le_of_ble_eq_true rfl⟩ (Nat.le_of_ble_eq_true rfl) dX6_doorOf_5 ⟨Nat.le_refl _, Nat.le_refl _⟩ rfl ?_
  refine y_if_ne (tgt := 18) dX6_doorOf_8 (by decide) (fun hc29 => ?_) (fun hc29 => ?_)
  · rw [if_pos hc29] at hE
    refine y_aload_n dX6_doorOf_11 0 rfl ?_
    refine y_bipush (v := (-2 : Int32)) dX6_doorOf_12 (by decide) ?_
    obtain ⟨u4, eu4, hE⟩ := Option.bind_eq_some_iff.mp hE
    obtain ⟨q5, eq5, hE⟩ := Option.bind_eq_some_iff.mp hE
    refine y_cVi0 (st := []) (as := [.int (-2 : Int32)]) (c_X6_refuse eq5) lk_X6_58 in_X6_refuse se_X6_refuse rfl eu4 ⟨Nat.le_of_ble_eq_true rfl, Nat.le_of_ble_eq_true rfl⟩ (Nat.le_of_ble_eq_true rfl) dX6_doorOf_14 ⟨Nat.le_refl _, Nat.le_refl _⟩ rfl ?_
    obtain ⟨rfl, rfl⟩ := x_inj2 hE
    exact y_ret dX6_doorOf_17 (Nat.le_refl _) (Nat.le_refl _) ⟨_, rfl, rfl⟩
  · rw [if_neg hc29] at hE
    refine y_iload_n dX6_doorOf_18 2 rfl ?_
    by_cases hc9 : p2 = (0 : Int32)
    · rw [if_pos hc9] at hE
      have hk := hc9
      refine y_tabIn (tgt := 52) dX6_doorOf_19 (by rw [hk]; decide) (by rw [hk]; decide) (by rw [hk]; rfl) (by decide) ?_
      refine y_aload_n dX6_doorOf_52 0 rfl ?_
      obtain ⟨a6, ea6, hE⟩ := Option.bind_eq_some_iff.mp hE
      refine y_getR fl_X6_10 ea6 dX6_doorOf_53 ?_
      obtain ⟨a7, ea7, hE⟩ := Option.bind_eq_some_iff.mp hE
      refine y_getR fl_X6_119 ea7 dX6_doorOf_56 ?_
      refine y_iload_n dX6_doorOf_59 1 rfl ?_
      obtain ⟨x8, ex8, hE⟩ := Option.bind_eq_some_iff.mp hE
      refine y_iald ex8 dX6_doorOf_60 ?_
      obtain ⟨rfl, rfl⟩ := x_inj2 hE
      exact y_ret dX6_doorOf_61 (Nat.le_refl _) (Nat.le_refl _) ⟨_, rfl, rfl⟩
    · rw [if_neg hc9] at hE
      by_cases hc13 : p2 = (1 : Int32)
      · rw [if_pos hc13] at hE
        have hk := hc13
        refine y_tabIn (tgt := 62) dX6_doorOf_19 (by rw [hk]; decide) (by rw [hk]; decide) (by rw [hk]; rfl) (by decide) ?_
        refine y_aload_n dX6_doorOf_62 0 rfl ?_
        obtain ⟨a10, ea10, hE⟩ := Option.bind_eq_some_iff.mp hE
        refine y_getR fl_X6_10 ea10 dX6_doorOf_63 ?_
        obtain ⟨a11, ea11, hE⟩ := Option.bind_eq_some_iff.mp hE
        refine y_getR fl_X6_177 ea11 dX6_doorOf_66 ?_
        refine y_iload_n dX6_doorOf_69 1 rfl ?_
        obtain ⟨x12, ex12, hE⟩ := Option.bind_eq_some_iff.mp hE
        refine y_iald ex12 dX6_doorOf_70 ?_
        obtain ⟨rfl, rfl⟩ := x_inj2 hE
        exact y_ret dX6_doorOf_71 (Nat.le_refl _) (Nat.le_refl _) ⟨_, rfl, rfl⟩
      · rw [if_neg hc13] at hE
        by_cases hc17 : p2 = (2 : Int32)
        · rw [if_pos hc17] at hE
          have hk := hc17
          refine y_tabIn (tgt := 72) dX6_doorOf_19 (by rw [hk]; decide) (by rw [hk]; decide) (by rw [hk]; rfl) (by decide) ?_
          refine y_aload_n dX6_doorOf_72 0 rfl ?_
          obtain ⟨a14, ea14, hE⟩ := Option.bind_eq_some_iff.mp hE
          refine y_getR fl_X6_10 ea14 dX6_doorOf_73 ?_
          obtain ⟨a15, ea15, hE⟩ := Option.bind_eq_some_iff.mp hE
          refine y_getR fl_X6_180 ea15 dX6_doorOf_76 ?_
          refine y_iload_n dX6_doorOf_79 1 rfl ?_
          obtain ⟨x16, ex16, hE⟩ := Option.bind_eq_some_iff.mp hE
          refine y_iald ex16 dX6_doorOf_80 ?_
          obtain ⟨rfl, rfl⟩ := x_inj2 hE
          exact y_ret dX6_doorOf_81 (Nat.le_refl _) (Nat.le_refl _) ⟨_, rfl, rfl⟩
        · rw [if_neg hc17] at hE
          by_cases hc22 : p2 = (3 : Int32)
          · rw [if_pos hc22] at hE
            have hk := hc22
            refine y_tabIn (tgt := 82) dX6_doorOf_19 (by rw [hk]; decide) (by rw [hk]; decide) (by rw [hk]; rfl) (by decide) ?_
            refine y_aload_n dX6_doorOf_82 0 rfl ?_
            obtain ⟨a18, ea18, hE⟩ := Option.bind_eq_some_iff.mp hE
            refine y_getR fl_X6_10 ea18 dX6_doorOf_83 ?_
            refine y_iload_n dX6_doorOf_86 1 rfl ?_
            obtain ⟨u19, eu19, hE⟩ := Option.bind_eq_some_iff.mp hE
            obtain ⟨q20, eq20, hE⟩ := Option.bind_eq_some_iff.mp hE
            refine y_cVi0 (st := []) (as := [.int p1]) (c_X0_isOpen eq20) lk_X6_151 in_X0_isOpen se_X0_isOpen rfl eu19 ⟨Nat.le_of_ble_eq_true rfl, Nat.le_of_ble_eq_true rfl⟩ (Nat.le_of_ble_eq_true rfl) dX6_doorOf_87 ⟨Nat.le_refl _, Nat.le_refl _⟩ rfl ?_
            refine y_if_eq (tgt := 97) dX6_doorOf_90 (by decide) (fun hc21 => ?_) (fun hc21 => ?_)
            · rw [if_pos hc21] at hE
              refine y_iconst (v := (0 : Int32)) dX6_doorOf_97 (by decide) ?_
              obtain ⟨rfl, rfl⟩ := x_inj2 hE
              exact y_ret dX6_doorOf_98 (Nat.le_refl _) (Nat.le_refl _) ⟨_, rfl, rfl⟩
            · rw [if_neg hc21] at hE
              refine y_iconst (v := (1 : Int32)) dX6_doorOf_93 (by decide) ?_
              refine y_goto (tgt := 98) dX6_doorOf_94 (by decide) ?_
              obtain ⟨rfl, rfl⟩ := x_inj2 hE
              exact y_ret dX6_doorOf_98 (Nat.le_refl _) (Nat.le_refl _) ⟨_, rfl, rfl⟩
          · rw [if_neg hc22] at hE
            by_cases hc26 : p2 = (4 : Int32)
            · rw [if_pos hc26] at hE
              have hk := hc26
              refine y_tabIn (tgt := 99) dX6_doorOf_19 (by rw [hk]; decide) (by rw [hk]; decide) (by rw [hk]; rfl) (by decide) ?_
              refine y_aload_n dX6_doorOf_99 0 rfl ?_
              obtain ⟨a23, ea23, hE⟩ := Option.bind_eq_some_iff.mp hE
              refine y_getR fl_X6_10 ea23 dX6_doorOf_100 ?_
              refine y_iload_n dX6_doorOf_103 1 rfl ?_
              obtain ⟨u24, eu24, hE⟩ := Option.bind_eq_some_iff.mp hE
              obtain ⟨q25, eq25, hE⟩ := Option.bind_eq_some_iff.mp hE
              refine y_cVi0 (st := []) (as := [.int p1]) (c_X0_weightOf eq25) lk_X6_183 in_X0_weightOf se_X0_weightOf rfl eu24 ⟨Nat.le_of_ble_eq_true rfl, Nat.le_of_ble_eq_true rfl⟩ (Nat.le_of_ble_eq_true rfl) dX6_doorOf_104 ⟨Nat.le_refl _, Nat.le_refl _⟩ rfl ?_
              obtain ⟨rfl, rfl⟩ := x_inj2 hE
              exact y_ret dX6_doorOf_107 (Nat.le_refl _) (Nat.le_refl _) ⟨_, rfl, rfl⟩
            · rw [if_neg hc26] at hE
              have hO : (p2).toInt < 0 ∨ 4 < (p2).toInt := by
                refine x_tabo (by decide) (by decide) (fun j g1 g2 => ?_)
                rcases (show j = 0 ∨ j = 1 ∨ j = 2 ∨ j = 3 ∨ j = 4 by omega) with rfl | rfl | rfl | rfl | rfl
                · exact hc9
                · exact hc13
                · exact hc17
                · exact hc22
                · exact hc26
              refine y_tabOut (tgt := 108) dX6_doorOf_19 hO (by decide) ?_
              refine y_aload_n dX6_doorOf_108 0 rfl ?_
              refine y_bipush (v := (-2 : Int32)) dX6_doorOf_109 (by decide) ?_
              obtain ⟨u27, eu27, hE⟩ := Option.bind_eq_some_iff.mp hE
              obtain ⟨q28, eq28, hE⟩ := Option.bind_eq_some_iff.mp hE
              refine y_cVi0 (st := []) (as := [.int (-2 : Int32)]) (c_X6_refuse eq28) lk_X6_58 in_X6_refuse se_X6_refuse rfl eu27 ⟨Nat.le_of_ble_eq_true rfl, Nat.le_of_ble_eq_true rfl⟩ (Nat.le_of_ble_eq_true rfl) dX6_doorOf_111 ⟨Nat.le_refl _, Nat.le_refl _⟩ rfl ?_
              obtain ⟨rfl, rfl⟩ := x_inj2 hE
              exact y_ret dX6_doorOf_114 (Nat.le_refl _) (Nat.le_refl _) ⟨_, rfl, rfl⟩
def f_X6_where (h : xH) (a0 : Nat) (p1 : Int32) : Option (Int32 × xH) :=
  (x_gR h a0 6 0).bind fun a1 =>
  (x_ob h a1 0).bind fun u2 =>
  (f_X0_hasOne h a1 p1).bind fun q3 =>
  if q3 = 0 then
    (x_ob h a0 6).bind fun u4 =>
    (f_X6_refuse h a0 (-2 : Int32)).bind fun q5 =>
    some (q5.1, q5.2)
  else
    (x_gR h a0 6 0).bind fun a6 =>
    (x_gR h a6 0 3).bind fun a7 =>
    (x_ld h a7 p1).bind fun x8 =>
    some (x8, h)
set_option maxRecDepth 100000 in
set_option maxHeartbeats 4000000 in
theorem c_X6_where {h : xH} {a0 : Nat} {p1 : Int32} {r9 : Int32} {hz : xH} (hE : f_X6_where h a0 p1 = some (r9, hz)) : Ctr M_X6_where [.ref a0, .int p1] h (some (.int r9)) hz 0 0 := by
  refine ctr_of (by decide) (fun _ _ => Nat.le_of_ble_eq_true rfl) (fun S => ?_)
  show Y S M_X6_where h (some (.int r9)) hz 0 0 0 [(0, .ref a0), (1, .int p1)] [] h 0 0
  unfold f_X6_where at hE
  refine y_aload_n dX6_where_0 0 rfl ?_
  obtain ⟨a1, ea1, hE⟩ := Option.bind_eq_some_iff.mp hE
  refine y_getR fl_X6_10 ea1 dX6_where_1 ?_
  refine y_iload_n dX6_where_4 1 rfl ?_
  obtain ⟨u2, eu2, hE⟩ := Option.bind_eq_some_iff.mp hE
  obtain ⟨q3, eq3, hE⟩ := Option.bind_eq_some_iff.mp hE
  refine y_cVi0 (st := []) (as := [.int p1]) (c_X0_hasOne eq3) lk_X6_157 in_X0_hasOne se_X0_hasOne rfl eu2 ⟨Nat.le_of_ble_eq_true rfl, Nat.le_of_ble_eq_true rfl⟩ (Nat.le_of_ble_eq_true rfl) dX6_where_5 ⟨Nat.le_refl _, Nat.le_refl _⟩ rfl ?_
  refine y_if_eq (tgt := 23) dX6_where_8 (by decide) (fun hc9 => ?_) (fun hc9 => ?_)
  · rw [if_pos hc9] at hE
    refine y_aload_n dX6_where_23 0 rfl ?_
    refine y_bipush (v := (-2 : Int32)) dX6_where_24 (by decide) ?_
    obtain ⟨u4, eu4, hE⟩ := Option.bind_eq_some_iff.mp hE
    obtain ⟨q5, eq5, hE⟩ := Option.bind_eq_some_iff.mp hE
    refine y_cVi0 (st := []) (as := [.int (-2 : Int32)]) (c_X6_refuse eq5) lk_X6_58 in_X6_refuse se_X6_refuse rfl eu4 ⟨Nat.le_of_ble_eq_true rfl, Nat.le_of_ble_eq_true rfl⟩ (Nat.le_of_ble_eq_true rfl) dX6_where_26 ⟨Nat.le_refl _, Nat.le_refl _⟩ rfl ?_
    obtain ⟨rfl, rfl⟩ := x_inj2 hE
    exact y_ret dX6_where_29 (Nat.le_refl _) (Nat.le_refl _) ⟨_, rfl, rfl⟩
  · rw [if_neg hc9] at hE
    refine y_aload_n dX6_where_11 0 rfl ?_
    obtain ⟨a6, ea6, hE⟩ := Option.bind_eq_some_iff.mp hE
    refine y_getR fl_X6_10 ea6 dX6_where_12 ?_
    obtain ⟨a7, ea7, hE⟩ := Option.bind_eq_some_iff.mp hE
    refine y_getR fl_X6_160 ea7 dX6_where_15 ?_
    refine y_iload_n dX6_where_18 1 rfl ?_
    obtain ⟨x8, ex8, hE⟩ := Option.bind_eq_some_iff.mp hE
    refine y_iald ex8 dX6_where_19 ?_
    refine y_goto (tgt := 29) dX6_where_20 (by decide) ?_
    obtain ⟨rfl, rfl⟩ := x_inj2 hE
    exact y_ret dX6_where_29 (Nat.le_refl _) (Nat.le_refl _) ⟨_, rfl, rfl⟩
def f_X6_doors_J33 (n : Nat) (h : xH) (v0 : Nat) (v1 : Int32) : Option (Int32 × xH) :=
  if v1 = (2 : Int32) then
    (x_gR h v0 6 0).bind fun a4 =>
    (x_ob h a4 0).bind fun u5 =>
    (f_X0_shuttable n h a4).bind fun q6 =>
    some (q6, h)
  else
    (x_ob h v0 6).bind fun u7 =>
    (f_X6_refuse h v0 (-2 : Int32)).bind fun q8 =>
    some (q8.1, q8.2)
set_option maxRecDepth 100000 in
set_option maxHeartbeats 4000000 in
theorem j_X6_doors_33 {S : Nat × (Nat → Int32)} {h0 : xH} {mc ms cells slots : Nat} {n : Nat} {h : xH} {v0 : Nat} {v1 : Int32} {r9 : Int32} {hz : xH} (hE : f_X6_doors_J33 n h v0 v1 = some (r9, hz)) (hm : cells ≤ mc ∧ slots ≤ ms) : Y S M_X6_doors h0 (some (.int r9)) hz mc ms 33 [(0, .ref v0), (1, .int v1)] [] h cells slots := by
  unfold f_X6_doors_J33 at hE
  refine y_iload_n dX6_doors_33 1 rfl ?_
  refine y_iconst (v := (2 : Int32)) dX6_doors_34 (by decide) ?_
  refine y_icmp_ne (tgt := 46) dX6_doors_35 (by decide) (fun hc9 => ?_) (fun hc9 => ?_)
  · rw [if_pos hc9] at hE
    refine y_aload_n dX6_doors_38 0 rfl ?_
    obtain ⟨a4, ea4, hE⟩ := Option.bind_eq_some_iff.mp hE
    refine y_getR fl_X6_10 ea4 dX6_doors_39 ?_
    obtain ⟨u5, eu5, hE⟩ := Option.bind_eq_some_iff.mp hE
    obtain ⟨q6, eq6, hE⟩ := Option.bind_eq_some_iff.mp hE
    refine y_cVi0 (st := []) (as := []) (c_X0_shuttable eq6) lk_X6_189 in_X0_shuttable se_X0_shuttable rfl eu5 ⟨Nat.le_of_ble_eq_true rfl, Nat.le_of_ble_eq_true rfl⟩ (Nat.le_of_ble_eq_true rfl) dX6_doors_42 hm rfl ?_
    obtain ⟨rfl, rfl⟩ := x_inj2 hE
    exact y_ret dX6_doors_45 hm.1 hm.2 ⟨_, rfl, rfl⟩
  · rw [if_neg hc9] at hE
    refine y_aload_n dX6_doors_46 0 rfl ?_
    refine y_bipush (v := (-2 : Int32)) dX6_doors_47 (by decide) ?_
    obtain ⟨u7, eu7, hE⟩ := Option.bind_eq_some_iff.mp hE
    obtain ⟨q8, eq8, hE⟩ := Option.bind_eq_some_iff.mp hE
    refine y_cVi0 (st := []) (as := [.int (-2 : Int32)]) (c_X6_refuse eq8) lk_X6_58 in_X6_refuse se_X6_refuse rfl eu7 ⟨Nat.le_of_ble_eq_true rfl, Nat.le_of_ble_eq_true rfl⟩ (Nat.le_of_ble_eq_true rfl) dX6_doors_49 hm rfl ?_
    obtain ⟨rfl, rfl⟩ := x_inj2 hE
    exact y_ret dX6_doors_52 hm.1 hm.2 ⟨_, rfl, rfl⟩
def f_X6_doors (n : Nat) (h : xH) (a0 : Nat) (p1 : Int32) (p2 : Int32) : Option (Int32 × xH) :=
  if p1 = 0 then
    (x_gR h a0 6 0).bind fun a1 =>
    (x_gI h a1 0 5).bind fun x2 =>
    some (x2, h)
  else
    if p1 = (1 : Int32) then
      (f_X6_isRoom h p2).bind fun q3 =>
      if q3 = 0 then
        f_X6_doors_J33 n h a0 p1
      else
        (x_gR h a0 6 0).bind fun a10 =>
        (x_ob h a10 0).bind fun u11 =>
        (f_X0_doorsAt n h a10 p2).bind fun q12 =>
        some (q12, h)
    else
      f_X6_doors_J33 n h a0 p1
set_option maxRecDepth 100000 in
set_option maxHeartbeats 4000000 in
theorem c_X6_doors {n : Nat} {h : xH} {a0 : Nat} {p1 : Int32} {p2 : Int32} {r9 : Int32} {hz : xH} (hE : f_X6_doors n h a0 p1 p2 = some (r9, hz)) : Ctr M_X6_doors [.ref a0, .int p1, .int p2] h (some (.int r9)) hz 0 0 := by
  refine ctr_of (by decide) (fun _ _ => Nat.le_of_ble_eq_true rfl) (fun S => ?_)
  show Y S M_X6_doors h (some (.int r9)) hz 0 0 0 [(0, .ref a0), (1, .int p1), (2, .int p2)] [] h 0 0
  unfold f_X6_doors at hE
  refine y_iload_n dX6_doors_0 1 rfl ?_
  refine y_if_ne (tgt := 12) dX6_doors_1 (by decide) (fun hc15 => ?_) (fun hc15 => ?_)
  · rw [if_pos hc15] at hE
    refine y_aload_n dX6_doors_4 0 rfl ?_
    obtain ⟨a1, ea1, hE⟩ := Option.bind_eq_some_iff.mp hE
    refine y_getR fl_X6_10 ea1 dX6_doors_5 ?_
    obtain ⟨x2, ex2, hE⟩ := Option.bind_eq_some_iff.mp hE
    refine y_getI fl_X6_154 ex2 dX6_doors_8 ?_
    obtain ⟨rfl, rfl⟩ := x_inj2 hE
    exact y_ret dX6_doors_11 (Nat.le_refl _) (Nat.le_refl _) ⟨_, rfl, rfl⟩
  · rw [if_neg hc15] at hE
    refine y_iload_n dX6_doors_12 1 rfl ?_
    refine y_iconst (v := (1 : Int32)) dX6_doors_13 (by decide) ?_
    refine y_icmp_ne (tgt := 33) dX6_doors_14 (by decide) (fun hc14 => ?_) (fun hc14 => ?_)
    · rw [if_pos hc14] at hE
      refine y_iload_n dX6_doors_17 2 rfl ?_
      obtain ⟨q3, eq3, hE⟩ := Option.bind_eq_some_iff.mp hE
      refine y_cSi0 (st := []) (as := [.int p2]) (c_X6_isRoom eq3) lk_X6_129 st_X6_isRoom ⟨Nat.le_of_ble_eq_true rfl, Nat.le_of_ble_eq_true rfl⟩ (Nat.le_of_ble_eq_true rfl) dX6_doors_18 ⟨Nat.le_refl _, Nat.le_refl _⟩ rfl ?_
      refine y_if_eq (tgt := 33) dX6_doors_21 (by decide) (fun hc13 => ?_) (fun hc13 => ?_)
      · rw [if_pos hc13] at hE
        refine y_pick [0, 1] rfl ?_
        exact j_X6_doors_33 hE ⟨Nat.le_refl _, Nat.le_refl _⟩
      · rw [if_neg hc13] at hE
        refine y_aload_n dX6_doors_24 0 rfl ?_
        obtain ⟨a10, ea10, hE⟩ := Option.bind_eq_some_iff.mp hE
        refine y_getR fl_X6_10 ea10 dX6_doors_25 ?_
        refine y_iload_n dX6_doors_28 2 rfl ?_
        obtain ⟨u11, eu11, hE⟩ := Option.bind_eq_some_iff.mp hE
        obtain ⟨q12, eq12, hE⟩ := Option.bind_eq_some_iff.mp hE
        refine y_cVi0 (st := []) (as := [.int p2]) (c_X0_doorsAt eq12) lk_X6_186 in_X0_doorsAt se_X0_doorsAt rfl eu11 ⟨Nat.le_of_ble_eq_true rfl, Nat.le_of_ble_eq_true rfl⟩ (Nat.le_of_ble_eq_true rfl) dX6_doors_29 ⟨Nat.le_refl _, Nat.le_refl _⟩ rfl ?_
        obtain ⟨rfl, rfl⟩ := x_inj2 hE
        exact y_ret dX6_doors_32 (Nat.le_refl _) (Nat.le_refl _) ⟨_, rfl, rfl⟩
    · rw [if_neg hc14] at hE
      refine y_pick [0, 1] rfl ?_
      exact j_X6_doors_33 hE ⟨Nat.le_refl _, Nat.le_refl _⟩
def f_X6_may (n : Nat) (h : xH) (a0 : Nat) (p1 : Int32) (p2 : Int32) (p3 : Int32) : Option (Int32 × xH) :=
  (x_gR h a0 6 0).bind fun a1 =>
  (x_ob h a1 0).bind fun u2 =>
  (f_X0_hasOne h a1 p1).bind fun q3 =>
  if q3 = 0 then
    (x_ob h a0 6).bind fun u4 =>
    (f_X6_refuse h a0 (-2 : Int32)).bind fun q5 =>
    some (q5.1, q5.2)
  else
    (x_gR h a0 6 0).bind fun a6 =>
    (x_ob h a6 0).bind fun u7 =>
    (f_X0_hasDoor h a6 p2).bind fun q8 =>
    if q8 = 0 then
      (x_ob h a0 6).bind fun u9 =>
      (f_X6_refuse h a0 (-2 : Int32)).bind fun q10 =>
      some (q10.1, q10.2)
    else
      if p3 = (0 : Int32) then
        (x_gR h a0 6 0).bind fun a11 =>
        (x_ob h a11 0).bind fun u12 =>
        (f_X0_mayWalk h a11 p1 p2).bind fun q13 =>
        if q13 = 0 then
          some ((0 : Int32), h)
        else
          some ((1 : Int32), h)
      else
      if p3 = (1 : Int32) then
        (x_gR h a0 6 0).bind fun a16 =>
        (x_ob h a16 0).bind fun u17 =>
        (f_X0_mayShut h a16 p1 p2).bind fun q18 =>
        if q18 = 0 then
          some ((0 : Int32), h)
        else
          some ((1 : Int32), h)
      else
      if p3 = (2 : Int32) then
        (x_gR h a0 6 0).bind fun a21 =>
        (x_ob h a21 0).bind fun u22 =>
        (f_X0_leastSet n h a21 p1 p2).bind fun q23 =>
        if q23 = (-1 : Int32) then
          some ((0 : Int32), h)
        else
          some ((1 : Int32), h)
      else
      (x_ob h a0 6).bind fun u26 =>
      (f_X6_refuse h a0 (-2 : Int32)).bind fun q27 =>
      some (q27.1, q27.2)
set_option maxRecDepth 100000 in
set_option maxHeartbeats 4000000 in
theorem c_X6_may {n : Nat} {h : xH} {a0 : Nat} {p1 : Int32} {p2 : Int32} {p3 : Int32} {r9 : Int32} {hz : xH} (hE : f_X6_may n h a0 p1 p2 p3 = some (r9, hz)) : Ctr M_X6_may [.ref a0, .int p1, .int p2, .int p3] h (some (.int r9)) hz 0 0 := by
  refine ctr_of (by decide) (fun _ _ => Nat.le_of_ble_eq_true rfl) (fun S => ?_)
  show Y S M_X6_may h (some (.int r9)) hz 0 0 0 [(0, .ref a0), (1, .int p1), (2, .int p2), (3, .int p3)] [] h 0 0
  unfold f_X6_may at hE
  refine y_aload_n dX6_may_0 0 rfl ?_
  obtain ⟨a1, ea1, hE⟩ := Option.bind_eq_some_iff.mp hE
  refine y_getR fl_X6_10 ea1 dX6_may_1 ?_
  refine y_iload_n dX6_may_4 1 rfl ?_
  obtain ⟨u2, eu2, hE⟩ := Option.bind_eq_some_iff.mp hE
  obtain ⟨q3, eq3, hE⟩ := Option.bind_eq_some_iff.mp hE
  refine y_cVi0 (st := []) (as := [.int p1]) (c_X0_hasOne eq3) lk_X6_157 in_X0_hasOne se_X0_hasOne rfl eu2 ⟨Nat.le_of_ble_eq_true rfl, Nat.le_of_ble_eq_true rfl⟩ (Nat.le_of_ble_eq_true rfl) dX6_may_5 ⟨Nat.le_refl _, Nat.le_refl _⟩ rfl ?_
  refine y_if_eq (tgt := 22) dX6_may_8 (by decide) (fun hc29 => ?_) (fun hc29 => ?_)
  · rw [if_pos hc29] at hE
    refine y_aload_n dX6_may_22 0 rfl ?_
    refine y_bipush (v := (-2 : Int32)) dX6_may_23 (by decide) ?_
    obtain ⟨u4, eu4, hE⟩ := Option.bind_eq_some_iff.mp hE
    obtain ⟨q5, eq5, hE⟩ := Option.bind_eq_some_iff.mp hE
    refine y_cVi0 (st := []) (as := [.int (-2 : Int32)]) (c_X6_refuse eq5) lk_X6_58 in_X6_refuse se_X6_refuse rfl eu4 ⟨Nat.le_of_ble_eq_true rfl, Nat.le_of_ble_eq_true rfl⟩ (Nat.le_of_ble_eq_true rfl) dX6_may_25 ⟨Nat.le_refl _, Nat.le_refl _⟩ rfl ?_
    obtain ⟨rfl, rfl⟩ := x_inj2 hE
    exact y_ret dX6_may_28 (Nat.le_refl _) (Nat.le_refl _) ⟨_, rfl, rfl⟩
  · rw [if_neg hc29] at hE
    refine y_aload_n dX6_may_11 0 rfl ?_
    obtain ⟨a6, ea6, hE⟩ := Option.bind_eq_some_iff.mp hE
    refine y_getR fl_X6_10 ea6 dX6_may_12 ?_
    refine y_iload_n dX6_may_15 2 rfl ?_
    obtain ⟨u7, eu7, hE⟩ := Option.bind_eq_some_iff.mp hE
    obtain ⟨q8, eq8, hE⟩ := Option.bind_eq_some_iff.mp hE
    refine y_cVi0 (st := []) (as := [.int p2]) (c_X0_hasDoor eq8) lk_X6_102 in_X0_hasDoor se_X0_hasDoor rfl eu7 ⟨Nat.le_of_ble_eq_true rfl, Nat.le_of_ble_eq_true rfl⟩ (Nat.le_of_ble_eq_true rfl) dX6_may_16 ⟨Nat.le_refl _, Nat.le_refl _⟩ rfl ?_
    refine y_if_ne (tgt := 29) dX6_may_19 (by decide) (fun hc28 => ?_) (fun hc28 => ?_)
    · rw [if_pos hc28] at hE
      refine y_aload_n dX6_may_22 0 rfl ?_
      refine y_bipush (v := (-2 : Int32)) dX6_may_23 (by decide) ?_
      obtain ⟨u9, eu9, hE⟩ := Option.bind_eq_some_iff.mp hE
      obtain ⟨q10, eq10, hE⟩ := Option.bind_eq_some_iff.mp hE
      refine y_cVi0 (st := []) (as := [.int (-2 : Int32)]) (c_X6_refuse eq10) lk_X6_58 in_X6_refuse se_X6_refuse rfl eu9 ⟨Nat.le_of_ble_eq_true rfl, Nat.le_of_ble_eq_true rfl⟩ (Nat.le_of_ble_eq_true rfl) dX6_may_25 ⟨Nat.le_refl _, Nat.le_refl _⟩ rfl ?_
      obtain ⟨rfl, rfl⟩ := x_inj2 hE
      exact y_ret dX6_may_28 (Nat.le_refl _) (Nat.le_refl _) ⟨_, rfl, rfl⟩
    · rw [if_neg hc28] at hE
      refine y_iload_n dX6_may_29 3 rfl ?_
      by_cases hc15 : p3 = (0 : Int32)
      · rw [if_pos hc15] at hE
        have hk := hc15
        refine y_tabIn (tgt := 56) dX6_may_30 (by rw [hk]; decide) (by rw [hk]; decide) (by rw [hk]; rfl) (by decide) ?_
        refine y_aload_n dX6_may_56 0 rfl ?_
        obtain ⟨a11, ea11, hE⟩ := Option.bind_eq_some_iff.mp hE
        refine y_getR fl_X6_10 ea11 dX6_may_57 ?_
        refine y_iload_n dX6_may_60 1 rfl ?_
        refine y_iload_n dX6_may_61 2 rfl ?_
        obtain ⟨u12, eu12, hE⟩ := Option.bind_eq_some_iff.mp hE
        obtain ⟨q13, eq13, hE⟩ := Option.bind_eq_some_iff.mp hE
        refine y_cVi0 (st := []) (as := [.int p1, .int p2]) (c_X0_mayWalk eq13) lk_X6_192 in_X0_mayWalk se_X0_mayWalk rfl eu12 ⟨Nat.le_of_ble_eq_true rfl, Nat.le_of_ble_eq_true rfl⟩ (Nat.le_of_ble_eq_true rfl) dX6_may_62 ⟨Nat.le_refl _, Nat.le_refl _⟩ rfl ?_
        refine y_if_eq (tgt := 72) dX6_may_65 (by decide) (fun hc14 => ?_) (fun hc14 => ?_)
        · rw [if_pos hc14] at hE
          refine y_iconst (v := (0 : Int32)) dX6_may_72 (by decide) ?_
          obtain ⟨rfl, rfl⟩ := x_inj2 hE
          exact y_ret dX6_may_73 (Nat.le_refl _) (Nat.le_refl _) ⟨_, rfl, rfl⟩
        · rw [if_neg hc14] at hE
          refine y_iconst (v := (1 : Int32)) dX6_may_68 (by decide) ?_
          refine y_goto (tgt := 73) dX6_may_69 (by decide) ?_
          obtain ⟨rfl, rfl⟩ := x_inj2 hE
          exact y_ret dX6_may_73 (Nat.le_refl _) (Nat.le_refl _) ⟨_, rfl, rfl⟩
      · rw [if_neg hc15] at hE
        by_cases hc20 : p3 = (1 : Int32)
        · rw [if_pos hc20] at hE
          have hk := hc20
          refine y_tabIn (tgt := 74) dX6_may_30 (by rw [hk]; decide) (by rw [hk]; decide) (by rw [hk]; rfl) (by decide) ?_
          refine y_aload_n dX6_may_74 0 rfl ?_
          obtain ⟨a16, ea16, hE⟩ := Option.bind_eq_some_iff.mp hE
          refine y_getR fl_X6_10 ea16 dX6_may_75 ?_
          refine y_iload_n dX6_may_78 1 rfl ?_
          refine y_iload_n dX6_may_79 2 rfl ?_
          obtain ⟨u17, eu17, hE⟩ := Option.bind_eq_some_iff.mp hE
          obtain ⟨q18, eq18, hE⟩ := Option.bind_eq_some_iff.mp hE
          refine y_cVi0 (st := []) (as := [.int p1, .int p2]) (c_X0_mayShut eq18) lk_X6_195 in_X0_mayShut se_X0_mayShut rfl eu17 ⟨Nat.le_of_ble_eq_true rfl, Nat.le_of_ble_eq_true rfl⟩ (Nat.le_of_ble_eq_true rfl) dX6_may_80 ⟨Nat.le_refl _, Nat.le_refl _⟩ rfl ?_
          refine y_if_eq (tgt := 90) dX6_may_83 (by decide) (fun hc19 => ?_) (fun hc19 => ?_)
          · rw [if_pos hc19] at hE
            refine y_iconst (v := (0 : Int32)) dX6_may_90 (by decide) ?_
            obtain ⟨rfl, rfl⟩ := x_inj2 hE
            exact y_ret dX6_may_91 (Nat.le_refl _) (Nat.le_refl _) ⟨_, rfl, rfl⟩
          · rw [if_neg hc19] at hE
            refine y_iconst (v := (1 : Int32)) dX6_may_86 (by decide) ?_
            refine y_goto (tgt := 91) dX6_may_87 (by decide) ?_
            obtain ⟨rfl, rfl⟩ := x_inj2 hE
            exact y_ret dX6_may_91 (Nat.le_refl _) (Nat.le_refl _) ⟨_, rfl, rfl⟩
        · rw [if_neg hc20] at hE
          by_cases hc25 : p3 = (2 : Int32)
          · rw [if_pos hc25] at hE
            have hk := hc25
            refine y_tabIn (tgt := 92) dX6_may_30 (by rw [hk]; decide) (by rw [hk]; decide) (by rw [hk]; rfl) (by decide) ?_
            refine y_aload_n dX6_may_92 0 rfl ?_
            obtain ⟨a21, ea21, hE⟩ := Option.bind_eq_some_iff.mp hE
            refine y_getR fl_X6_10 ea21 dX6_may_93 ?_
            refine y_iload_n dX6_may_96 1 rfl ?_
            refine y_iload_n dX6_may_97 2 rfl ?_
            obtain ⟨u22, eu22, hE⟩ := Option.bind_eq_some_iff.mp hE
            obtain ⟨q23, eq23, hE⟩ := Option.bind_eq_some_iff.mp hE
            refine y_cVi0 (st := []) (as := [.int p1, .int p2]) (c_X0_leastSet eq23) lk_X6_198 in_X0_leastSet se_X0_leastSet rfl eu22 ⟨Nat.le_of_ble_eq_true rfl, Nat.le_of_ble_eq_true rfl⟩ (Nat.le_of_ble_eq_true rfl) dX6_may_98 ⟨Nat.le_refl _, Nat.le_refl _⟩ rfl ?_
            refine y_iconst (v := (-1 : Int32)) dX6_may_101 (by decide) ?_
            refine y_icmp_eq (tgt := 109) dX6_may_102 (by decide) (fun hc24 => ?_) (fun hc24 => ?_)
            · rw [if_pos hc24] at hE
              refine y_iconst (v := (0 : Int32)) dX6_may_109 (by decide) ?_
              obtain ⟨rfl, rfl⟩ := x_inj2 hE
              exact y_ret dX6_may_110 (Nat.le_refl _) (Nat.le_refl _) ⟨_, rfl, rfl⟩
            · rw [if_neg hc24] at hE
              refine y_iconst (v := (1 : Int32)) dX6_may_105 (by decide) ?_
              refine y_goto (tgt := 110) dX6_may_106 (by decide) ?_
              obtain ⟨rfl, rfl⟩ := x_inj2 hE
              exact y_ret dX6_may_110 (Nat.le_refl _) (Nat.le_refl _) ⟨_, rfl, rfl⟩
          · rw [if_neg hc25] at hE
            have hO : (p3).toInt < 0 ∨ 2 < (p3).toInt := by
              refine x_tabo (by decide) (by decide) (fun j g1 g2 => ?_)
              rcases (show j = 0 ∨ j = 1 ∨ j = 2 by omega) with rfl | rfl | rfl
              · exact hc15
              · exact hc20
              · exact hc25
            refine y_tabOut (tgt := 111) dX6_may_30 hO (by decide) ?_
            refine y_aload_n dX6_may_111 0 rfl ?_
            refine y_bipush (v := (-2 : Int32)) dX6_may_112 (by decide) ?_
            obtain ⟨u26, eu26, hE⟩ := Option.bind_eq_some_iff.mp hE
            obtain ⟨q27, eq27, hE⟩ := Option.bind_eq_some_iff.mp hE
            refine y_cVi0 (st := []) (as := [.int (-2 : Int32)]) (c_X6_refuse eq27) lk_X6_58 in_X6_refuse se_X6_refuse rfl eu26 ⟨Nat.le_of_ble_eq_true rfl, Nat.le_of_ble_eq_true rfl⟩ (Nat.le_of_ble_eq_true rfl) dX6_may_114 ⟨Nat.le_refl _, Nat.le_refl _⟩ rfl ?_
            obtain ⟨rfl, rfl⟩ := x_inj2 hE
            exact y_ret dX6_may_117 (Nat.le_refl _) (Nat.le_refl _) ⟨_, rfl, rfl⟩
def f_X6_by (n : Nat) (h : xH) (a0 : Nat) (p1 : Int32) (p2 : Int32) (p3 : Int32) : Option (Int32 × xH) :=
  (x_gR h a0 6 0).bind fun a1 =>
  (x_ob h a1 0).bind fun u2 =>
  (f_X0_hasOne h a1 p1).bind fun q3 =>
  if q3 = 0 then
    (x_ob h a0 6).bind fun u4 =>
    (f_X6_refuse h a0 (-2 : Int32)).bind fun q5 =>
    some (q5.1, q5.2)
  else
    (x_gR h a0 6 0).bind fun a6 =>
    (x_ob h a6 0).bind fun u7 =>
    (f_X0_hasDoor h a6 p2).bind fun q8 =>
    if q8 = 0 then
      (x_ob h a0 6).bind fun u9 =>
      (f_X6_refuse h a0 (-2 : Int32)).bind fun q10 =>
      some (q10.1, q10.2)
    else
      (x_gR h a0 6 0).bind fun a11 =>
      (x_ob h a11 0).bind fun u12 =>
      (f_X0_hasDoors h a11 p3).bind fun q13 =>
      if q13 = 0 then
        (x_ob h a0 6).bind fun u14 =>
        (f_X6_refuse h a0 (-2 : Int32)).bind fun q15 =>
        some (q15.1, q15.2)
      else
        (x_gR h a0 6 0).bind fun a16 =>
        (x_ob h a16 0).bind fun u17 =>
        (f_X0_opensBy n h a16 p1 p2 p3).bind fun q18 =>
        if q18 = 0 then
          some ((0 : Int32), h)
        else
          some ((1 : Int32), h)
set_option maxRecDepth 100000 in
set_option maxHeartbeats 4000000 in
theorem c_X6_by {n : Nat} {h : xH} {a0 : Nat} {p1 : Int32} {p2 : Int32} {p3 : Int32} {r9 : Int32} {hz : xH} (hE : f_X6_by n h a0 p1 p2 p3 = some (r9, hz)) : Ctr M_X6_by [.ref a0, .int p1, .int p2, .int p3] h (some (.int r9)) hz 0 0 := by
  refine ctr_of (by decide) (fun _ _ => Nat.le_of_ble_eq_true rfl) (fun S => ?_)
  show Y S M_X6_by h (some (.int r9)) hz 0 0 0 [(0, .ref a0), (1, .int p1), (2, .int p2), (3, .int p3)] [] h 0 0
  unfold f_X6_by at hE
  refine y_aload_n dX6_by_0 0 rfl ?_
  obtain ⟨a1, ea1, hE⟩ := Option.bind_eq_some_iff.mp hE
  refine y_getR fl_X6_10 ea1 dX6_by_1 ?_
  refine y_iload_n dX6_by_4 1 rfl ?_
  obtain ⟨u2, eu2, hE⟩ := Option.bind_eq_some_iff.mp hE
  obtain ⟨q3, eq3, hE⟩ := Option.bind_eq_some_iff.mp hE
  refine y_cVi0 (st := []) (as := [.int p1]) (c_X0_hasOne eq3) lk_X6_157 in_X0_hasOne se_X0_hasOne rfl eu2 ⟨Nat.le_of_ble_eq_true rfl, Nat.le_of_ble_eq_true rfl⟩ (Nat.le_of_ble_eq_true rfl) dX6_by_5 ⟨Nat.le_refl _, Nat.le_refl _⟩ rfl ?_
  refine y_if_eq (tgt := 33) dX6_by_8 (by decide) (fun hc22 => ?_) (fun hc22 => ?_)
  · rw [if_pos hc22] at hE
    refine y_aload_n dX6_by_33 0 rfl ?_
    refine y_bipush (v := (-2 : Int32)) dX6_by_34 (by decide) ?_
    obtain ⟨u4, eu4, hE⟩ := Option.bind_eq_some_iff.mp hE
    obtain ⟨q5, eq5, hE⟩ := Option.bind_eq_some_iff.mp hE
    refine y_cVi0 (st := []) (as := [.int (-2 : Int32)]) (c_X6_refuse eq5) lk_X6_58 in_X6_refuse se_X6_refuse rfl eu4 ⟨Nat.le_of_ble_eq_true rfl, Nat.le_of_ble_eq_true rfl⟩ (Nat.le_of_ble_eq_true rfl) dX6_by_36 ⟨Nat.le_refl _, Nat.le_refl _⟩ rfl ?_
    obtain ⟨rfl, rfl⟩ := x_inj2 hE
    exact y_ret dX6_by_39 (Nat.le_refl _) (Nat.le_refl _) ⟨_, rfl, rfl⟩
  · rw [if_neg hc22] at hE
    refine y_aload_n dX6_by_11 0 rfl ?_
    obtain ⟨a6, ea6, hE⟩ := Option.bind_eq_some_iff.mp hE
    refine y_getR fl_X6_10 ea6 dX6_by_12 ?_
    refine y_iload_n dX6_by_15 2 rfl ?_
    obtain ⟨u7, eu7, hE⟩ := Option.bind_eq_some_iff.mp hE
    obtain ⟨q8, eq8, hE⟩ := Option.bind_eq_some_iff.mp hE
    refine y_cVi0 (st := []) (as := [.int p2]) (c_X0_hasDoor eq8) lk_X6_102 in_X0_hasDoor se_X0_hasDoor rfl eu7 ⟨Nat.le_of_ble_eq_true rfl, Nat.le_of_ble_eq_true rfl⟩ (Nat.le_of_ble_eq_true rfl) dX6_by_16 ⟨Nat.le_refl _, Nat.le_refl _⟩ rfl ?_
    refine y_if_eq (tgt := 33) dX6_by_19 (by decide) (fun hc21 => ?_) (fun hc21 => ?_)
    · rw [if_pos hc21] at hE
      refine y_aload_n dX6_by_33 0 rfl ?_
      refine y_bipush (v := (-2 : Int32)) dX6_by_34 (by decide) ?_
      obtain ⟨u9, eu9, hE⟩ := Option.bind_eq_some_iff.mp hE
      obtain ⟨q10, eq10, hE⟩ := Option.bind_eq_some_iff.mp hE
      refine y_cVi0 (st := []) (as := [.int (-2 : Int32)]) (c_X6_refuse eq10) lk_X6_58 in_X6_refuse se_X6_refuse rfl eu9 ⟨Nat.le_of_ble_eq_true rfl, Nat.le_of_ble_eq_true rfl⟩ (Nat.le_of_ble_eq_true rfl) dX6_by_36 ⟨Nat.le_refl _, Nat.le_refl _⟩ rfl ?_
      obtain ⟨rfl, rfl⟩ := x_inj2 hE
      exact y_ret dX6_by_39 (Nat.le_refl _) (Nat.le_refl _) ⟨_, rfl, rfl⟩
    · rw [if_neg hc21] at hE
      refine y_aload_n dX6_by_22 0 rfl ?_
      obtain ⟨a11, ea11, hE⟩ := Option.bind_eq_some_iff.mp hE
      refine y_getR fl_X6_10 ea11 dX6_by_23 ?_
      refine y_iload_n dX6_by_26 3 rfl ?_
      obtain ⟨u12, eu12, hE⟩ := Option.bind_eq_some_iff.mp hE
      obtain ⟨q13, eq13, hE⟩ := Option.bind_eq_some_iff.mp hE
      refine y_cVi0 (st := []) (as := [.int p3]) (c_X0_hasDoors eq13) lk_X6_201 in_X0_hasDoors se_X0_hasDoors rfl eu12 ⟨Nat.le_of_ble_eq_true rfl, Nat.le_of_ble_eq_true rfl⟩ (Nat.le_of_ble_eq_true rfl) dX6_by_27 ⟨Nat.le_refl _, Nat.le_refl _⟩ rfl ?_
      refine y_if_ne (tgt := 40) dX6_by_30 (by decide) (fun hc20 => ?_) (fun hc20 => ?_)
      · rw [if_pos hc20] at hE
        refine y_aload_n dX6_by_33 0 rfl ?_
        refine y_bipush (v := (-2 : Int32)) dX6_by_34 (by decide) ?_
        obtain ⟨u14, eu14, hE⟩ := Option.bind_eq_some_iff.mp hE
        obtain ⟨q15, eq15, hE⟩ := Option.bind_eq_some_iff.mp hE
        refine y_cVi0 (st := []) (as := [.int (-2 : Int32)]) (c_X6_refuse eq15) lk_X6_58 in_X6_refuse se_X6_refuse rfl eu14 ⟨Nat.le_of_ble_eq_true rfl, Nat.le_of_ble_eq_true rfl⟩ (Nat.le_of_ble_eq_true rfl) dX6_by_36 ⟨Nat.le_refl _, Nat.le_refl _⟩ rfl ?_
        obtain ⟨rfl, rfl⟩ := x_inj2 hE
        exact y_ret dX6_by_39 (Nat.le_refl _) (Nat.le_refl _) ⟨_, rfl, rfl⟩
      · rw [if_neg hc20] at hE
        refine y_aload_n dX6_by_40 0 rfl ?_
        obtain ⟨a16, ea16, hE⟩ := Option.bind_eq_some_iff.mp hE
        refine y_getR fl_X6_10 ea16 dX6_by_41 ?_
        refine y_iload_n dX6_by_44 1 rfl ?_
        refine y_iload_n dX6_by_45 2 rfl ?_
        refine y_iload_n dX6_by_46 3 rfl ?_
        obtain ⟨u17, eu17, hE⟩ := Option.bind_eq_some_iff.mp hE
        obtain ⟨q18, eq18, hE⟩ := Option.bind_eq_some_iff.mp hE
        refine y_cVi0 (st := []) (as := [.int p1, .int p2, .int p3]) (c_X0_opensBy eq18) lk_X6_204 in_X0_opensBy se_X0_opensBy rfl eu17 ⟨Nat.le_of_ble_eq_true rfl, Nat.le_of_ble_eq_true rfl⟩ (Nat.le_of_ble_eq_true rfl) dX6_by_47 ⟨Nat.le_refl _, Nat.le_refl _⟩ rfl ?_
        refine y_if_eq (tgt := 57) dX6_by_50 (by decide) (fun hc19 => ?_) (fun hc19 => ?_)
        · rw [if_pos hc19] at hE
          refine y_iconst (v := (0 : Int32)) dX6_by_57 (by decide) ?_
          obtain ⟨rfl, rfl⟩ := x_inj2 hE
          exact y_ret dX6_by_58 (Nat.le_refl _) (Nat.le_refl _) ⟨_, rfl, rfl⟩
        · rw [if_neg hc19] at hE
          refine y_iconst (v := (1 : Int32)) dX6_by_53 (by decide) ?_
          refine y_goto (tgt := 58) dX6_by_54 (by decide) ?_
          obtain ⟨rfl, rfl⟩ := x_inj2 hE
          exact y_ret dX6_by_58 (Nat.le_refl _) (Nat.le_refl _) ⟨_, rfl, rfl⟩
