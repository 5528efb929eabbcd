theorem dX6_ways_0 : decode cX6_ways 0 = .ok (.aload_n 0, 1) := by decide +kernel
theorem dX6_ways_1 : decode cX6_ways 1 = .ok (.getfield 10, 3) := by decide +kernel
theorem dX6_ways_4 : decode cX6_ways 4 = .ok (.iload_n 1, 1) := by decide +kernel
theorem dX6_ways_5 : decode cX6_ways 5 = .ok (.invokevirtual 157, 3) := by decide +kernel
theorem dX6_ways_8 : decode cX6_ways 8 = .ok (.ifCond .eq 23, 3) := by decide +kernel
theorem dX6_ways_11 : decode cX6_ways 11 = .ok (.aload_n 0, 1) := by decide +kernel
theorem dX6_ways_12 : decode cX6_ways 12 = .ok (.getfield 10, 3) := by decide +kernel
theorem dX6_ways_15 : decode cX6_ways 15 = .ok (.iload_n 2, 1) := by decide +kernel
theorem dX6_ways_16 : decode cX6_ways 16 = .ok (.invokevirtual 102, 3) := by decide +kernel
theorem dX6_ways_19 : decode cX6_ways 19 = .ok (.ifCond .eq 12, 3) := by decide +kernel
theorem dX6_ways_22 : decode cX6_ways 22 = .ok (.iload_n 3, 1) := by decide +kernel
theorem dX6_ways_23 : decode cX6_ways 23 = .ok (.ifCond .lt 8, 3) := by decide +kernel
theorem dX6_ways_26 : decode cX6_ways 26 = .ok (.iload_n 3, 1) := by decide +kernel
theorem dX6_ways_27 : decode cX6_ways 27 = .ok (.iconst 1, 1) := by decide +kernel
theorem dX6_ways_28 : decode cX6_ways 28 = .ok (.if_icmp .le 10, 3) := by decide +kernel
theorem dX6_ways_31 : decode cX6_ways 31 = .ok (.aload_n 0, 1) := by decide +kernel
theorem dX6_ways_32 : decode cX6_ways 32 = .ok (.bipush (-2), 2) := by decide +kernel
theorem dX6_ways_34 : decode cX6_ways 34 = .ok (.invokevirtual 58, 3) := by decide +kernel
theorem dX6_ways_37 : decode cX6_ways 37 = .ok (.ireturn, 1) := by decide +kernel
theorem dX6_ways_38 : decode cX6_ways 38 = .ok (.iload_n 3, 1) := by decide +kernel
theorem dX6_ways_39 : decode cX6_ways 39 = .ok (.ifCond .ne 13, 3) := by decide +kernel
theorem dX6_ways_42 : decode cX6_ways 42 = .ok (.aload_n 0, 1) := by decide +kernel
theorem dX6_ways_43 : decode cX6_ways 43 = .ok (.getfield 10, 3) := by decide +kernel
theorem dX6_ways_46 : decode cX6_ways 46 = .ok (.iload_n 1, 1) := by decide +kernel
theorem dX6_ways_47 : decode cX6_ways 47 = .ok (.iload_n 2, 1) := by decide +kernel
theorem dX6_ways_48 : decode cX6_ways 48 = .ok (.invokevirtual 208, 3) := by decide +kernel
theorem dX6_ways_51 : decode cX6_ways 51 = .ok (.ireturn, 1) := by decide +kernel
theorem dX6_ways_52 : decode cX6_ways 52 = .ok (.aload_n 0, 1) := by decide +kernel
theorem dX6_ways_53 : decode cX6_ways 53 = .ok (.getfield 10, 3) := by decide +kernel
theorem dX6_ways_56 : decode cX6_ways 56 = .ok (.iload_n 1, 1) := by decide +kernel
theorem dX6_ways_57 : decode cX6_ways 57 = .ok (.iload_n 2, 1) := by decide +kernel
theorem dX6_ways_58 : decode cX6_ways 58 = .ok (.invokevirtual 198, 3) := by decide +kernel
theorem dX6_ways_61 : decode cX6_ways 61 = .ok (.istore 4, 2) := by decide +kernel
theorem dX6_ways_63 : decode cX6_ways 63 = .ok (.iload 4, 2) := by decide +kernel
theorem dX6_ways_65 : decode cX6_ways 65 = .ok (.iconst (-1), 1) := by decide +kernel
theorem dX6_ways_66 : decode cX6_ways 66 = .ok (.if_icmp .ne 12, 3) := by decide +kernel
theorem dX6_ways_69 : decode cX6_ways 69 = .ok (.aload_n 0, 1) := by decide +kernel
theorem dX6_ways_70 : decode cX6_ways 70 = .ok (.bipush (-5), 2) := by decide +kernel
theorem dX6_ways_72 : decode cX6_ways 72 = .ok (.invokevirtual 58, 3) := by decide +kernel
theorem dX6_ways_75 : decode cX6_ways 75 = .ok (.goto 5, 3) := by decide +kernel
theorem dX6_ways_78 : decode cX6_ways 78 = .ok (.iload 4, 2) := by decide +kernel
theorem dX6_ways_80 : decode cX6_ways 80 = .ok (.ireturn, 1) := by decide +kernel
theorem dX6_walk_0 : decode cX6_walk 0 = .ok (.aload_n 0, 1) := by decide +kernel
theorem dX6_walk_1 : decode cX6_walk 1 = .ok (.getfield 10, 3) := by decide +kernel
theorem dX6_walk_4 : decode cX6_walk 4 = .ok (.iload_n 1, 1) := by decide +kernel
theorem dX6_walk_5 : decode cX6_walk 5 = .ok (.invokevirtual 157, 3) := by decide +kernel
theorem dX6_walk_8 : decode cX6_walk 8 = .ok (.ifCond .eq 14, 3) := by decide +kernel
theorem dX6_walk_11 : decode cX6_walk 11 = .ok (.aload_n 0, 1) := by decide +kernel
theorem dX6_walk_12 : decode cX6_walk 12 = .ok (.getfield 10, 3) := by decide +kernel
theorem dX6_walk_15 : decode cX6_walk 15 = .ok (.iload_n 2, 1) := by decide +kernel
theorem dX6_walk_16 : decode cX6_walk 16 = .ok (.invokevirtual 102, 3) := by decide +kernel
theorem dX6_walk_19 : decode cX6_walk 19 = .ok (.ifCond .ne 10, 3) := by decide +kernel
theorem dX6_walk_22 : decode cX6_walk 22 = .ok (.aload_n 0, 1) := by decide +kernel
theorem dX6_walk_23 : decode cX6_walk 23 = .ok (.bipush (-2), 2) := by decide +kernel
theorem dX6_walk_25 : decode cX6_walk 25 = .ok (.invokevirtual 58, 3) := by decide +kernel
theorem dX6_walk_28 : decode cX6_walk 28 = .ok (.ireturn, 1) := by decide +kernel
theorem dX6_walk_29 : decode cX6_walk 29 = .ok (.aload_n 0, 1) := by decide +kernel
theorem dX6_walk_30 : decode cX6_walk 30 = .ok (.getfield 10, 3) := by decide +kernel
theorem dX6_walk_33 : decode cX6_walk 33 = .ok (.iload_n 1, 1) := by decide +kernel
theorem dX6_walk_34 : decode cX6_walk 34 = .ok (.iload_n 2, 1) := by decide +kernel
theorem dX6_walk_35 : decode cX6_walk 35 = .ok (.invokevirtual 192, 3) := by decide +kernel
theorem dX6_walk_38 : decode cX6_walk 38 = .ok (.ifCond .ne 10, 3) := by decide +kernel
theorem dX6_walk_41 : decode cX6_walk 41 = .ok (.aload_n 0, 1) := by decide +kernel
theorem dX6_walk_42 : decode cX6_walk 42 = .ok (.bipush (-5), 2) := by decide +kernel
theorem dX6_walk_44 : decode cX6_walk 44 = .ok (.invokevirtual 58, 3) := by decide +kernel
theorem dX6_walk_47 : decode cX6_walk 47 = .ok (.ireturn, 1) := by decide +kernel
theorem dX6_walk_48 : decode cX6_walk 48 = .ok (.aload_n 0, 1) := by decide +kernel
theorem dX6_walk_49 : decode cX6_walk 49 = .ok (.getfield 10, 3) := by decide +kernel
theorem dX6_walk_52 : decode cX6_walk 52 = .ok (.iload_n 1, 1) := by decide +kernel
theorem dX6_walk_53 : decode cX6_walk 53 = .ok (.iload_n 2, 1) := by decide +kernel
theorem dX6_walk_54 : decode cX6_walk 54 = .ok (.invokevirtual 211, 3) := by decide +kernel
theorem dX6_walk_57 : decode cX6_walk 57 = .ok (.aload_n 0, 1) := by decide +kernel
theorem dX6_walk_58 : decode cX6_walk 58 = .ok (.getfield 10, 3) := by decide +kernel
theorem dX6_walk_61 : decode cX6_walk 61 = .ok (.getfield 160, 3) := by decide +kernel
theorem dX6_walk_64 : decode cX6_walk 64 = .ok (.iload_n 1, 1) := by decide +kernel
theorem dX6_walk_65 : decode cX6_walk 65 = .ok (.iaload, 1) := by decide +kernel
theorem dX6_walk_66 : decode cX6_walk 66 = .ok (.ireturn, 1) := by decide +kernel
theorem dX6_shut_0 : decode cX6_shut 0 = .ok (.aload_n 0, 1) := by decide +kernel
theorem dX6_shut_1 : decode cX6_shut 1 = .ok (.getfield 10, 3) := by decide +kernel
theorem dX6_shut_4 : decode cX6_shut 4 = .ok (.iload_n 1, 1) := by decide +kernel
theorem dX6_shut_5 : decode cX6_shut 5 = .ok (.invokevirtual 157, 3) := by decide +kernel
theorem dX6_shut_8 : decode cX6_shut 8 = .ok (.ifCond .eq 14, 3) := by decide +kernel
theorem dX6_shut_11 : decode cX6_shut 11 = .ok (.aload_n 0, 1) := by decide +kernel
theorem dX6_shut_12 : decode cX6_shut 12 = .ok (.getfield 10, 3) := by decide +kernel
theorem dX6_shut_15 : decode cX6_shut 15 = .ok (.iload_n 2, 1) := by decide +kernel
theorem dX6_shut_16 : decode cX6_shut 16 = .ok (.invokevirtual 102, 3) := by decide +kernel
theorem dX6_shut_19 : decode cX6_shut 19 = .ok (.ifCond .ne 10, 3) := by decide +kernel
theorem dX6_shut_22 : decode cX6_shut 22 = .ok (.aload_n 0, 1) := by decide +kernel
theorem dX6_shut_23 : decode cX6_shut 23 = .ok (.bipush (-2), 2) := by decide +kernel
theorem dX6_shut_25 : decode cX6_shut 25 = .ok (.invokevirtual 58, 3) := by decide +kernel
theorem dX6_shut_28 : decode cX6_shut 28 = .ok (.ireturn, 1) := by decide +kernel
theorem dX6_shut_29 : decode cX6_shut 29 = .ok (.aload_n 0, 1) := by decide +kernel
theorem dX6_shut_30 : decode cX6_shut 30 = .ok (.getfield 10, 3) := by decide +kernel
theorem dX6_shut_33 : decode cX6_shut 33 = .ok (.iload_n 1, 1) := by decide +kernel
theorem dX6_shut_34 : decode cX6_shut 34 = .ok (.iload_n 2, 1) := by decide +kernel
theorem dX6_shut_35 : decode cX6_shut 35 = .ok (.invokevirtual 195, 3) := by decide +kernel
theorem dX6_shut_38 : decode cX6_shut 38 = .ok (.ifCond .ne 10, 3) := by decide +kernel
theorem dX6_shut_41 : decode cX6_shut 41 = .ok (.aload_n 0, 1) := by decide +kernel
theorem dX6_shut_42 : decode cX6_shut 42 = .ok (.bipush (-5), 2) := by decide +kernel
theorem dX6_shut_44 : decode cX6_shut 44 = .ok (.invokevirtual 58, 3) := by decide +kernel
theorem dX6_shut_47 : decode cX6_shut 47 = .ok (.ireturn, 1) := by decide +kernel
theorem dX6_shut_48 : decode cX6_shut 48 = .ok (.aload_n 0, 1) := by decide +kernel
theorem dX6_shut_49 : decode cX6_shut 49 = .ok (.getfield 10, 3) := by decide +kernel
theorem dX6_shut_52 : decode cX6_shut 52 = .ok (.dup, 1) := by decide +kernel
theorem dX6_shut_53 : decode cX6_shut 53 = .ok (.getfield 154, 3) := by decide +kernel
theorem dX6_shut_56 : decode cX6_shut 56 = .ok (.iconst 1, 1) := by decide +kernel
theorem dX6_shut_57 : decode cX6_shut 57 = .ok (.iload_n 2, 1) := by decide +kernel
theorem dX6_shut_58 : decode cX6_shut 58 = .ok (.ishl, 1) := by decide +kernel
theorem dX6_shut_59 : decode cX6_shut 59 = .ok (.iconst (-1), 1) := by decide +kernel
theorem dX6_shut_60 : decode cX6_shut 60 = .ok (.ixor, 1) := by decide +kernel
theorem dX6_shut_61 : decode cX6_shut 61 = .ok (.iand, 1) := by decide +kernel
theorem dX6_shut_62 : decode cX6_shut 62 = .ok (.putfield 154, 3) := by decide +kernel
theorem dX6_shut_65 : decode cX6_shut 65 = .ok (.aload_n 0, 1) := by decide +kernel
theorem dX6_shut_66 : decode cX6_shut 66 = .ok (.getfield 10, 3) := by decide +kernel
theorem dX6_shut_69 : decode cX6_shut 69 = .ok (.invokevirtual 214, 3) := by decide +kernel
theorem dX6_shut_72 : decode cX6_shut 72 = .ok (.ireturn, 1) := by decide +kernel
theorem dX6_open_0 : decode cX6_open 0 = .ok (.aload_n 0, 1) := by decide +kernel
theorem dX6_open_1 : decode cX6_open 1 = .ok (.getfield 10, 3) := by decide +kernel
theorem dX6_open_4 : decode cX6_open 4 = .ok (.iload_n 1, 1) := by decide +kernel
theorem dX6_open_5 : decode cX6_open 5 = .ok (.invokevirtual 157, 3) := by decide +kernel
theorem dX6_open_8 : decode cX6_open 8 = .ok (.ifCond .eq 25, 3) := by decide +kernel
theorem dX6_open_11 : decode cX6_open 11 = .ok (.aload_n 0, 1) := by decide +kernel
theorem dX6_open_12 : decode cX6_open 12 = .ok (.getfield 10, 3) := by decide +kernel
theorem dX6_open_15 : decode cX6_open 15 = .ok (.iload_n 2, 1) := by decide +kernel
theorem dX6_open_16 : decode cX6_open 16 = .ok (.invokevirtual 102, 3) := by decide +kernel
theorem dX6_open_19 : decode cX6_open 19 = .ok (.ifCond .eq 14, 3) := by decide +kernel
theorem dX6_open_22 : decode cX6_open 22 = .ok (.aload_n 0, 1) := by decide +kernel
theorem dX6_open_23 : decode cX6_open 23 = .ok (.getfield 10, 3) := by decide +kernel
theorem dX6_open_26 : decode cX6_open 26 = .ok (.iload_n 3, 1) := by decide +kernel
theorem dX6_open_27 : decode cX6_open 27 = .ok (.invokevirtual 201, 3) := by decide +kernel
theorem dX6_open_30 : decode cX6_open 30 = .ok (.ifCond .ne 10, 3) := by decide +kernel
theorem dX6_open_33 : decode cX6_open 33 = .ok (.aload_n 0, 1) := by decide +kernel
theorem dX6_open_34 : decode cX6_open 34 = .ok (.bipush (-2), 2) := by decide +kernel
theorem dX6_open_36 : decode cX6_open 36 = .ok (.invokevirtual 58, 3) := by decide +kernel
theorem dX6_open_39 : decode cX6_open 39 = .ok (.ireturn, 1) := by decide +kernel
theorem dX6_open_40 : decode cX6_open 40 = .ok (.aload_n 0, 1) := by decide +kernel
theorem dX6_open_41 : decode cX6_open 41 = .ok (.getfield 10, 3) := by decide +kernel
theorem dX6_open_44 : decode cX6_open 44 = .ok (.iload_n 1, 1) := by decide +kernel
theorem dX6_open_45 : decode cX6_open 45 = .ok (.iload_n 2, 1) := by decide +kernel
theorem dX6_open_46 : decode cX6_open 46 = .ok (.iload_n 3, 1) := by decide +kernel
theorem dX6_open_47 : decode cX6_open 47 = .ok (.invokevirtual 204, 3) := by decide +kernel
theorem dX6_open_50 : decode cX6_open 50 = .ok (.ifCond .ne 10, 3) := by decide +kernel
theorem dX6_open_53 : decode cX6_open 53 = .ok (.aload_n 0, 1) := by decide +kernel
theorem dX6_open_54 : decode cX6_open 54 = .ok (.bipush (-5), 2) := by decide +kernel
theorem dX6_open_56 : decode cX6_open 56 = .ok (.invokevirtual 58, 3) := by decide +kernel
theorem dX6_open_59 : decode cX6_open 59 = .ok (.ireturn, 1) := by decide +kernel
theorem dX6_open_60 : decode cX6_open 60 = .ok (.aload_n 0, 1) := by decide +kernel
theorem dX6_open_61 : decode cX6_open 61 = .ok (.getfield 10, 3) := by decide +kernel
theorem dX6_open_64 : decode cX6_open 64 = .ok (.iload_n 2, 1) := by decide +kernel
theorem dX6_open_65 : decode cX6_open 65 = .ok (.iload_n 3, 1) := by decide +kernel
theorem dX6_open_66 : decode cX6_open 66 = .ok (.invokevirtual 217, 3) := by decide +kernel
theorem dX6_open_69 : decode cX6_open 69 = .ok (.aload_n 0, 1) := by decide +kernel
theorem dX6_open_70 : decode cX6_open 70 = .ok (.getfield 10, 3) := by decide +kernel
theorem dX6_open_73 : decode cX6_open 73 = .ok (.invokevirtual 214, 3) := by decide +kernel
theorem dX6_open_76 : decode cX6_open 76 = .ok (.ireturn, 1) := by decide +kernel
theorem dX6_reach_0 : decode cX6_reach 0 = .ok (.aload_n 0, 1) := by decide +kernel
theorem dX6_reach_1 : decode cX6_reach 1 = .ok (.getfield 10, 3) := by decide +kernel
theorem dX6_reach_4 : decode cX6_reach 4 = .ok (.iload_n 1, 1) := by decide +kernel
theorem dX6_reach_5 : decode cX6_reach 5 = .ok (.invokevirtual 157, 3) := by decide +kernel
theorem dX6_reach_8 : decode cX6_reach 8 = .ok (.ifCond .eq 22, 3) := by decide +kernel
theorem dX6_reach_11 : decode cX6_reach 11 = .ok (.aload_n 0, 1) := by decide +kernel
theorem dX6_reach_12 : decode cX6_reach 12 = .ok (.getfield 10, 3) := by decide +kernel
theorem dX6_reach_15 : decode cX6_reach 15 = .ok (.aload_n 0, 1) := by decide +kernel
theorem dX6_reach_16 : decode cX6_reach 16 = .ok (.getfield 10, 3) := by decide +kernel
theorem dX6_reach_19 : decode cX6_reach 19 = .ok (.getfield 160, 3) := by decide +kernel
theorem dX6_reach_22 : decode cX6_reach 22 = .ok (.iload_n 1, 1) := by decide +kernel
theorem dX6_reach_23 : decode cX6_reach 23 = .ok (.iaload, 1) := by decide +kernel
theorem dX6_reach_24 : decode cX6_reach 24 = .ok (.invokevirtual 220, 3) := by decide +kernel
theorem dX6_reach_27 : decode cX6_reach 27 = .ok (.goto 9, 3) := by decide +kernel
theorem dX6_reach_30 : decode cX6_reach 30 = .ok (.aload_n 0, 1) := by decide +kernel
theorem dX6_reach_31 : decode cX6_reach 31 = .ok (.bipush (-2), 2) := by decide +kernel
theorem dX6_reach_33 : decode cX6_reach 33 = .ok (.invokevirtual 58, 3) := by decide +kernel
theorem dX6_reach_36 : decode cX6_reach 36 = .ok (.ireturn, 1) := by decide +kernel
theorem dX6_shutIn_0 : decode cX6_shutIn 0 = .ok (.aload_n 0, 1) := by decide +kernel
theorem dX6_shutIn_1 : decode cX6_shutIn 1 = .ok (.getfield 10, 3) := by decide +kernel
theorem dX6_shutIn_4 : decode cX6_shutIn 4 = .ok (.invokevirtual 223, 3) := by decide +kernel
theorem dX6_shutIn_7 : decode cX6_shutIn 7 = .ok (.ireturn, 1) := by decide +kernel
theorem dX6_fewestTo_0 : decode cX6_fewestTo 0 = .ok (.aload_n 0, 1) := by decide +kernel
theorem dX6_fewestTo_1 : decode cX6_fewestTo 1 = .ok (.getfield 38, 3) := by decide +kernel
theorem dX6_fewestTo_4 : decode cX6_fewestTo 4 = .ok (.invokevirtual 236, 3) := by decide +kernel
theorem dX6_fewestTo_7 : decode cX6_fewestTo 7 = .ok (.aload_n 0, 1) := by decide +kernel
theorem dX6_fewestTo_8 : decode cX6_fewestTo 8 = .ok (.getfield 38, 3) := by decide +kernel
theorem dX6_fewestTo_11 : decode cX6_fewestTo 11 = .ok (.iload_n 2, 1) := by decide +kernel
theorem dX6_fewestTo_12 : decode cX6_fewestTo 12 = .ok (.invokevirtual 241, 3) := by decide +kernel
theorem dX6_fewestTo_15 : decode cX6_fewestTo 15 = .ok (.aload_n 0, 1) := by decide +kernel
theorem dX6_fewestTo_16 : decode cX6_fewestTo 16 = .ok (.getfield 38, 3) := by decide +kernel
theorem dX6_fewestTo_19 : decode cX6_fewestTo 19 = .ok (.aload_n 0, 1) := by decide +kernel
theorem dX6_fewestTo_20 : decode cX6_fewestTo 20 = .ok (.getfield 10, 3) := by decide +kernel
theorem dX6_fewestTo_23 : decode cX6_fewestTo 23 = .ok (.iload_n 1, 1) := by decide +kernel
theorem dX6_fewestTo_24 : decode cX6_fewestTo 24 = .ok (.invokevirtual 244, 3) := by decide +kernel
theorem dX6_fewestTo_27 : decode cX6_fewestTo 27 = .ok (.ireturn, 1) := by decide +kernel
theorem dX6_coming_0 : decode cX6_coming 0 = .ok (.aload_n 0, 1) := by decide +kernel
theorem dX6_coming_1 : decode cX6_coming 1 = .ok (.getfield 10, 3) := by decide +kernel
theorem dX6_coming_4 : decode cX6_coming 4 = .ok (.iload_n 1, 1) := by decide +kernel
theorem dX6_coming_5 : decode cX6_coming 5 = .ok (.invokevirtual 157, 3) := by decide +kernel
theorem dX6_coming_8 : decode cX6_coming 8 = .ok (.ifCond .eq 10, 3) := by decide +kernel
theorem dX6_coming_11 : decode cX6_coming 11 = .ok (.iload_n 2, 1) := by decide +kernel
theorem dX6_coming_12 : decode cX6_coming 12 = .ok (.invokestatic 129, 3) := by decide +kernel
theorem dX6_coming_15 : decode cX6_coming 15 = .ok (.ifCond .ne 10, 3) := by decide +kernel
theorem dX6_coming_18 : decode cX6_coming 18 = .ok (.aload_n 0, 1) := by decide +kernel
theorem dX6_coming_19 : decode cX6_coming 19 = .ok (.bipush (-2), 2) := by decide +kernel
theorem dX6_coming_21 : decode cX6_coming 21 = .ok (.invokevirtual 58, 3) := by decide +kernel
theorem dX6_coming_24 : decode cX6_coming 24 = .ok (.ireturn, 1) := by decide +kernel
theorem dX6_coming_25 : decode cX6_coming 25 = .ok (.aload_n 0, 1) := by decide +kernel
theorem dX6_coming_26 : decode cX6_coming 26 = .ok (.getfield 10, 3) := by decide +kernel
theorem dX6_coming_29 : decode cX6_coming 29 = .ok (.getfield 132, 3) := by decide +kernel
theorem dX6_coming_32 : decode cX6_coming 32 = .ok (.bipush 9, 2) := by decide +kernel
theorem dX6_coming_34 : decode cX6_coming 34 = .ok (.if_icmp .le 10, 3) := by decide +kernel
theorem dX6_coming_37 : decode cX6_coming 37 = .ok (.aload_n 0, 1) := by decide +kernel
theorem dX6_coming_38 : decode cX6_coming 38 = .ok (.bipush (-5), 2) := by decide +kernel
theorem dX6_coming_40 : decode cX6_coming 40 = .ok (.invokevirtual 58, 3) := by decide +kernel
theorem dX6_coming_43 : decode cX6_coming 43 = .ok (.ireturn, 1) := by decide +kernel
theorem dX6_coming_44 : decode cX6_coming 44 = .ok (.aload_n 0, 1) := by decide +kernel
theorem dX6_coming_45 : decode cX6_coming 45 = .ok (.iload_n 1, 1) := by decide +kernel
theorem dX6_coming_46 : decode cX6_coming 46 = .ok (.iload_n 2, 1) := by decide +kernel
theorem dX6_coming_47 : decode cX6_coming 47 = .ok (.invokevirtual 226, 3) := by decide +kernel
theorem dX6_coming_50 : decode cX6_coming 50 = .ok (.ireturn, 1) := by decide +kernel
theorem dX6_all_0 : decode cX6_all 0 = .ok (.aload_n 0, 1) := by decide +kernel
theorem dX6_all_1 : decode cX6_all 1 = .ok (.getfield 10, 3) := by decide +kernel
theorem dX6_all_4 : decode cX6_all 4 = .ok (.iload_n 1, 1) := by decide +kernel
theorem dX6_all_5 : decode cX6_all 5 = .ok (.invokevirtual 157, 3) := by decide +kernel
theorem dX6_all_8 : decode cX6_all 8 = .ok (.ifCond .ne 10, 3) := by decide +kernel
theorem dX6_all_11 : decode cX6_all 11 = .ok (.aload_n 0, 1) := by decide +kernel
theorem dX6_all_12 : decode cX6_all 12 = .ok (.bipush (-2), 2) := by decide +kernel
theorem dX6_all_14 : decode cX6_all 14 = .ok (.invokevirtual 58, 3) := by decide +kernel
theorem dX6_all_17 : decode cX6_all 17 = .ok (.ireturn, 1) := by decide +kernel
theorem dX6_all_18 : decode cX6_all 18 = .ok (.aload_n 0, 1) := by decide +kernel
theorem dX6_all_19 : decode cX6_all 19 = .ok (.getfield 10, 3) := by decide +kernel
theorem dX6_all_22 : decode cX6_all 22 = .ok (.getfield 132, 3) := by decide +kernel
theorem dX6_all_25 : decode cX6_all 25 = .ok (.bipush 9, 2) := by decide +kernel
theorem dX6_all_27 : decode cX6_all 27 = .ok (.if_icmp .le 10, 3) := by decide +kernel
theorem dX6_all_30 : decode cX6_all 30 = .ok (.aload_n 0, 1) := by decide +kernel
theorem dX6_all_31 : decode cX6_all 31 = .ok (.bipush (-5), 2) := by decide +kernel
theorem dX6_all_33 : decode cX6_all 33 = .ok (.invokevirtual 58, 3) := by decide +kernel
theorem dX6_all_36 : decode cX6_all 36 = .ok (.ireturn, 1) := by decide +kernel
theorem dX6_all_37 : decode cX6_all 37 = .ok (.aload_n 0, 1) := by decide +kernel
theorem dX6_all_38 : decode cX6_all 38 = .ok (.getfield 38, 3) := by decide +kernel
theorem dX6_all_41 : decode cX6_all 41 = .ok (.aload_n 0, 1) := by decide +kernel
theorem dX6_all_42 : decode cX6_all 42 = .ok (.getfield 10, 3) := by decide +kernel
theorem dX6_all_45 : decode cX6_all 45 = .ok (.iload_n 1, 1) := by decide +kernel
theorem dX6_all_46 : decode cX6_all 46 = .ok (.invokevirtual 229, 3) := by decide +kernel
theorem dX6_all_49 : decode cX6_all 49 = .ok (.ireturn, 1) := by decide +kernel
theorem dX6_first_0 : decode cX6_first 0 = .ok (.aload_n 0, 1) := by decide +kernel
theorem dX6_first_1 : decode cX6_first 1 = .ok (.getfield 10, 3) := by decide +kernel
theorem dX6_first_4 : decode cX6_first 4 = .ok (.iload_n 1, 1) := by decide +kernel
theorem dX6_first_5 : decode cX6_first 5 = .ok (.invokevirtual 157, 3) := by decide +kernel
theorem dX6_first_8 : decode cX6_first 8 = .ok (.ifCond .eq 10, 3) := by decide +kernel
theorem dX6_first_11 : decode cX6_first 11 = .ok (.iload_n 2, 1) := by decide +kernel
theorem dX6_first_12 : decode cX6_first 12 = .ok (.invokestatic 129, 3) := by decide +kernel
theorem dX6_first_15 : decode cX6_first 15 = .ok (.ifCond .ne 10, 3) := by decide +kernel
theorem dX6_first_18 : decode cX6_first 18 = .ok (.aload_n 0, 1) := by decide +kernel
theorem dX6_first_19 : decode cX6_first 19 = .ok (.bipush (-2), 2) := by decide +kernel
theorem dX6_first_21 : decode cX6_first 21 = .ok (.invokevirtual 58, 3) := by decide +kernel
theorem dX6_first_24 : decode cX6_first 24 = .ok (.ireturn, 1) := by decide +kernel
theorem dX6_first_25 : decode cX6_first 25 = .ok (.aload_n 0, 1) := by decide +kernel
theorem dX6_first_26 : decode cX6_first 26 = .ok (.getfield 10, 3) := by decide +kernel
theorem dX6_first_29 : decode cX6_first 29 = .ok (.getfield 132, 3) := by decide +kernel
theorem dX6_first_32 : decode cX6_first 32 = .ok (.bipush 9, 2) := by decide +kernel
theorem dX6_first_34 : decode cX6_first 34 = .ok (.if_icmp .le 10, 3) := by decide +kernel
theorem dX6_first_37 : decode cX6_first 37 = .ok (.aload_n 0, 1) := by decide +kernel
theorem dX6_first_38 : decode cX6_first 38 = .ok (.bipush (-5), 2) := by decide +kernel
theorem dX6_first_40 : decode cX6_first 40 = .ok (.invokevirtual 58, 3) := by decide +kernel
theorem dX6_first_43 : decode cX6_first 43 = .ok (.ireturn, 1) := by decide +kernel
theorem dX6_first_44 : decode cX6_first 44 = .ok (.aload_n 0, 1) := by decide +kernel
theorem dX6_first_45 : decode cX6_first 45 = .ok (.iload_n 1, 1) := by decide +kernel
theorem dX6_first_46 : decode cX6_first 46 = .ok (.iload_n 2, 1) := by decide +kernel
theorem dX6_first_47 : decode cX6_first 47 = .ok (.invokevirtual 226, 3) := by decide +kernel
theorem dX6_first_50 : decode cX6_first 50 = .ok (.ifCond .le 13, 3) := by decide +kernel
theorem dX6_first_53 : decode cX6_first 53 = .ok (.aload_n 0, 1) := by decide +kernel
theorem dX6_first_54 : decode cX6_first 54 = .ok (.getfield 38, 3) := by decide +kernel
theorem dX6_first_57 : decode cX6_first 57 = .ok (.invokevirtual 233, 3) := by decide +kernel
theorem dX6_first_60 : decode cX6_first 60 = .ok (.goto 4, 3) := by decide +kernel
theorem dX6_first_63 : decode cX6_first 63 = .ok (.iconst (-1), 1) := by decide +kernel
theorem dX6_first_64 : decode cX6_first 64 = .ok (.ireturn, 1) := by decide +kernel
theorem dX6_errands_0 : decode cX6_errands 0 = .ok (.aload_n 0, 1) := by decide +kernel
theorem dX6_errands_1 : decode cX6_errands 1 = .ok (.getfield 10, 3) := by decide +kernel
theorem dX6_errands_4 : decode cX6_errands 4 = .ok (.iload_n 1, 1) := by decide +kernel
theorem dX6_errands_5 : decode cX6_errands 5 = .ok (.invokevirtual 157, 3) := by decide +kernel
theorem dX6_errands_8 : decode cX6_errands 8 = .ok (.ifCond .eq 19, 3) := by decide +kernel
theorem dX6_errands_11 : decode cX6_errands 11 = .ok (.iload_n 2, 1) := by decide +kernel
theorem dX6_errands_12 : decode cX6_errands 12 = .ok (.invokestatic 54, 3) := by decide +kernel
theorem dX6_errands_15 : decode cX6_errands 15 = .ok (.ifCond .eq 12, 3) := by decide +kernel
theorem dX6_errands_18 : decode cX6_errands 18 = .ok (.iload_n 3, 1) := by decide +kernel
theorem dX6_errands_19 : decode cX6_errands 19 = .ok (.ifCond .lt 8, 3) := by decide +kernel
theorem dX6_errands_22 : decode cX6_errands 22 = .ok (.iload_n 3, 1) := by decide +kernel
theorem dX6_errands_23 : decode cX6_errands 23 = .ok (.iconst 4, 1) := by decide +kernel
theorem dX6_errands_24 : decode cX6_errands 24 = .ok (.if_icmp .le 10, 3) := by decide +kernel
theorem dX6_errands_27 : decode cX6_errands 27 = .ok (.aload_n 0, 1) := by decide +kernel
theorem dX6_errands_28 : decode cX6_errands 28 = .ok (.bipush (-2), 2) := by decide +kernel
theorem dX6_errands_30 : decode cX6_errands 30 = .ok (.invokevirtual 58, 3) := by decide +kernel
theorem dX6_errands_33 : decode cX6_errands 33 = .ok (.ireturn, 1) := by decide +kernel
theorem dX6_errands_34 : decode cX6_errands 34 = .ok (.aload_n 0, 1) := by decide +kernel
theorem dX6_errands_35 : decode cX6_errands 35 = .ok (.getfield 24, 3) := by decide +kernel
theorem dX6_errands_38 : decode cX6_errands 38 = .ok (.iload_n 2, 1) := by decide +kernel
theorem dX6_errands_39 : decode cX6_errands 39 = .ok (.aaload, 1) := by decide +kernel
theorem dX6_errands_40 : decode cX6_errands 40 = .ok (.astore 4, 2) := by decide +kernel
theorem dX6_errands_42 : decode cX6_errands 42 = .ok (.aload 4, 2) := by decide +kernel
theorem dX6_errands_44 : decode cX6_errands 44 = .ok (.iload_n 3, 1) := by decide +kernel
theorem dX6_errands_45 : decode cX6_errands 45 = .ok (.invokestatic 66, 3) := by decide +kernel
theorem dX6_errands_48 : decode cX6_errands 48 = .ok (.istore 5, 2) := by decide +kernel
theorem dX6_errands_50 : decode cX6_errands 50 = .ok (.iload 5, 2) := by decide +kernel
theorem dX6_errands_52 : decode cX6_errands 52 = .ok (.ifCond .eq 10, 3) := by decide +kernel
theorem dX6_errands_55 : decode cX6_errands 55 = .ok (.aload_n 0, 1) := by decide +kernel
theorem dX6_errands_56 : decode cX6_errands 56 = .ok (.iload 5, 2) := by decide +kernel
theorem dX6_errands_58 : decode cX6_errands 58 = .ok (.invokevirtual 58, 3) := by decide +kernel
theorem dX6_errands_61 : decode cX6_errands 61 = .ok (.ireturn, 1) := by decide +kernel
theorem dX6_errands_62 : decode cX6_errands 62 = .ok (.aload_n 0, 1) := by decide +kernel
theorem dX6_errands_63 : decode cX6_errands 63 = .ok (.getfield 10, 3) := by decide +kernel
theorem dX6_errands_66 : decode cX6_errands 66 = .ok (.getfield 132, 3) := by decide +kernel
theorem dX6_errands_69 : decode cX6_errands 69 = .ok (.bipush 9, 2) := by decide +kernel
theorem dX6_errands_71 : decode cX6_errands 71 = .ok (.if_icmp .le 10, 3) := by decide +kernel
theorem dX6_errands_74 : decode cX6_errands 74 = .ok (.aload_n 0, 1) := by decide +kernel
theorem dX6_errands_75 : decode cX6_errands 75 = .ok (.bipush (-5), 2) := by decide +kernel
theorem dX6_errands_77 : decode cX6_errands 77 = .ok (.invokevirtual 58, 3) := by decide +kernel
theorem dX6_errands_80 : decode cX6_errands 80 = .ok (.ireturn, 1) := by decide +kernel
theorem dX6_errands_81 : decode cX6_errands 81 = .ok (.aload_n 0, 1) := by decide +kernel
theorem dX6_errands_82 : decode cX6_errands 82 = .ok (.getfield 38, 3) := by decide +kernel
theorem dX6_errands_85 : decode cX6_errands 85 = .ok (.invokevirtual 236, 3) := by decide +kernel
theorem dX6_errands_88 : decode cX6_errands 88 = .ok (.iconst 0, 1) := by decide +kernel
theorem dX6_errands_89 : decode cX6_errands 89 = .ok (.istore 6, 2) := by decide +kernel
theorem dX6_errands_91 : decode cX6_errands 91 = .ok (.iload 6, 2) := by decide +kernel
theorem dX6_errands_93 : decode cX6_errands 93 = .ok (.iload_n 3, 1) := by decide +kernel
theorem dX6_errands_94 : decode cX6_errands 94 = .ok (.if_icmp .ge 47, 3) := by decide +kernel
theorem dX6_errands_97 : decode cX6_errands 97 = .ok (.aload 4, 2) := by decide +kernel
theorem dX6_errands_99 : decode cX6_errands 99 = .ok (.getfield 92, 3) := by decide +kernel
theorem dX6_errands_102 : decode cX6_errands 102 = .ok (.iload 6, 2) := by decide +kernel
theorem dX6_errands_104 : decode cX6_errands 104 = .ok (.laload, 1) := by decide +kernel
theorem dX6_errands_105 : decode cX6_errands 105 = .ok (.lstore 7, 2) := by decide +kernel
theorem dX6_errands_107 : decode cX6_errands 107 = .ok (.lload 7, 2) := by decide +kernel
theorem dX6_errands_109 : decode cX6_errands 109 = .ok (.lconst 0, 1) := by decide +kernel
theorem dX6_errands_110 : decode cX6_errands 110 = .ok (.lcmp, 1) := by decide +kernel
theorem dX6_errands_111 : decode cX6_errands 111 = .ok (.ifCond .lt 12, 3) := by decide +kernel
theorem dX6_errands_114 : decode cX6_errands 114 = .ok (.lload 7, 2) := by decide +kernel
theorem dX6_errands_116 : decode cX6_errands 116 = .ok (.ldc2_w 239, 3) := by decide +kernel
theorem dX6_errands_119 : decode cX6_errands 119 = .ok (.lcmp, 1) := by decide +kernel
theorem dX6_errands_120 : decode cX6_errands 120 = .ok (.ifCond .lt 5, 3) := by decide +kernel
theorem dX6_errands_123 : decode cX6_errands 123 = .ok (.iconst (-1), 1) := by decide +kernel
theorem dX6_errands_124 : decode cX6_errands 124 = .ok (.ireturn, 1) := by decide +kernel
theorem dX6_errands_125 : decode cX6_errands 125 = .ok (.aload_n 0, 1) := by decide +kernel
theorem dX6_errands_126 : decode cX6_errands 126 = .ok (.getfield 38, 3) := by decide +kernel
theorem dX6_errands_129 : decode cX6_errands 129 = .ok (.lload 7, 2) := by decide +kernel
theorem dX6_errands_131 : decode cX6_errands 131 = .ok (.l2i, 1) := by decide +kernel
theorem dX6_errands_132 : decode cX6_errands 132 = .ok (.invokevirtual 241, 3) := by decide +kernel
theorem dX6_errands_135 : decode cX6_errands 135 = .ok (.iinc 6 1, 3) := by decide +kernel
theorem dX6_errands_138 : decode cX6_errands 138 = .ok (.goto (-47), 3) := by decide +kernel
theorem dX6_errands_141 : decode cX6_errands 141 = .ok (.aload_n 0, 1) := by decide +kernel
theorem dX6_errands_142 : decode cX6_errands 142 = .ok (.getfield 38, 3) := by decide +kernel
theorem dX6_errands_145 : decode cX6_errands 145 = .ok (.aload_n 0, 1) := by decide +kernel
theorem dX6_errands_146 : decode cX6_errands 146 = .ok (.getfield 10, 3) := by decide +kernel
theorem dX6_errands_149 : decode cX6_errands 149 = .ok (.iload_n 1, 1) := by decide +kernel
theorem dX6_errands_150 : decode cX6_errands 150 = .ok (.invokevirtual 244, 3) := by decide +kernel
theorem dX6_errands_153 : decode cX6_errands 153 = .ok (.ireturn, 1) := by decide +kernel
theorem dX6_lost_0 : decode cX6_lost 0 = .ok (.aload_n 0, 1) := by decide +kernel
theorem dX6_lost_1 : decode cX6_lost 1 = .ok (.getfield 10, 3) := by decide +kernel
theorem dX6_lost_4 : decode cX6_lost 4 = .ok (.getfield 132, 3) := by decide +kernel
theorem dX6_lost_7 : decode cX6_lost 7 = .ok (.bipush 9, 2) := by decide +kernel
theorem dX6_lost_9 : decode cX6_lost 9 = .ok (.if_icmp .le 10, 3) := by decide +kernel
theorem dX6_lost_12 : decode cX6_lost 12 = .ok (.aload_n 0, 1) := by decide +kernel
theorem dX6_lost_13 : decode cX6_lost 13 = .ok (.bipush (-5), 2) := by decide +kernel
theorem dX6_lost_15 : decode cX6_lost 15 = .ok (.invokevirtual 58, 3) := by decide +kernel
theorem dX6_lost_18 : decode cX6_lost 18 = .ok (.ireturn, 1) := by decide +kernel
theorem dX6_lost_19 : decode cX6_lost 19 = .ok (.iconst 0, 1) := by decide +kernel
theorem dX6_lost_20 : decode cX6_lost 20 = .ok (.istore_n 1, 1) := by decide +kernel
theorem dX6_lost_21 : decode cX6_lost 21 = .ok (.iconst 0, 1) := by decide +kernel
theorem dX6_lost_22 : decode cX6_lost 22 = .ok (.istore_n 2, 1) := by decide +kernel
theorem dX6_lost_23 : decode cX6_lost 23 = .ok (.iload_n 2, 1) := by decide +kernel
theorem dX6_lost_24 : decode cX6_lost 24 = .ok (.aload_n 0, 1) := by decide +kernel
theorem dX6_lost_25 : decode cX6_lost 25 = .ok (.getfield 10, 3) := by decide +kernel
theorem dX6_lost_28 : decode cX6_lost 28 = .ok (.getfield 139, 3) := by decide +kernel
theorem dX6_lost_31 : decode cX6_lost 31 = .ok (.if_icmp .ge 25, 3) := by decide +kernel
theorem dX6_lost_34 : decode cX6_lost 34 = .ok (.aload_n 0, 1) := by decide +kernel
theorem dX6_lost_35 : decode cX6_lost 35 = .ok (.iload_n 2, 1) := by decide +kernel
theorem dX6_lost_36 : decode cX6_lost 36 = .ok (.iconst 0, 1) := by decide +kernel
theorem dX6_lost_37 : decode cX6_lost 37 = .ok (.invokevirtual 226, 3) := by decide +kernel
theorem dX6_lost_40 : decode cX6_lost 40 = .ok (.iconst (-1), 1) := by decide +kernel
theorem dX6_lost_41 : decode cX6_lost 41 = .ok (.if_icmp .ne 9, 3) := by decide +kernel
theorem dX6_lost_44 : decode cX6_lost 44 = .ok (.iload_n 1, 1) := by decide +kernel
theorem dX6_lost_45 : decode cX6_lost 45 = .ok (.iconst 1, 1) := by decide +kernel
theorem dX6_lost_46 : decode cX6_lost 46 = .ok (.iload_n 2, 1) := by decide +kernel
theorem dX6_lost_47 : decode cX6_lost 47 = .ok (.ishl, 1) := by decide +kernel
theorem dX6_lost_48 : decode cX6_lost 48 = .ok (.ior, 1) := by decide +kernel
theorem dX6_lost_49 : decode cX6_lost 49 = .ok (.istore_n 1, 1) := by decide +kernel
theorem dX6_lost_50 : decode cX6_lost 50 = .ok (.iinc 2 1, 3) := by decide +kernel
theorem dX6_lost_53 : decode cX6_lost 53 = .ok (.goto (-30), 3) := by decide +kernel
theorem dX6_lost_56 : decode cX6_lost 56 = .ok (.iload_n 1, 1) := by decide +kernel
theorem dX6_lost_57 : decode cX6_lost 57 = .ok (.ireturn, 1) := by decide +kernel
theorem dX6_stock_0 : decode cX6_stock 0 = .ok (.aload_n 0, 1) := by decide +kernel
theorem dX6_stock_1 : decode cX6_stock 1 = .ok (.getfield 10, 3) := by decide +kernel
theorem dX6_stock_4 : decode cX6_stock 4 = .ok (.invokevirtual 214, 3) := by decide +kernel
theorem dX6_stock_7 : decode cX6_stock 7 = .ok (.ireturn, 1) := by decide +kernel
theorem dX6_lasts_0 : decode cX6_lasts 0 = .ok (.aload_n 0, 1) := by decide +kernel
theorem dX6_lasts_1 : decode cX6_lasts 1 = .ok (.getfield 45, 3) := by decide +kernel
theorem dX6_lasts_4 : decode cX6_lasts 4 = .ok (.aload_n 0, 1) := by decide +kernel
theorem dX6_lasts_5 : decode cX6_lasts 5 = .ok (.getfield 10, 3) := by decide +kernel
theorem dX6_lasts_8 : decode cX6_lasts 8 = .ok (.aload_n 0, 1) := by decide +kernel
theorem dX6_lasts_9 : decode cX6_lasts 9 = .ok (.getfield 10, 3) := by decide +kernel
theorem dX6_lasts_12 : decode cX6_lasts 12 = .ok (.getfield 145, 3) := by decide +kernel
theorem dX6_lasts_15 : decode cX6_lasts 15 = .ok (.aload_n 0, 1) := by decide +kernel
theorem dX6_lasts_16 : decode cX6_lasts 16 = .ok (.getfield 10, 3) := by decide +kernel
theorem dX6_lasts_19 : decode cX6_lasts 19 = .ok (.getfield 154, 3) := by decide +kernel
theorem dX6_lasts_22 : decode cX6_lasts 22 = .ok (.iconst 0, 1) := by decide +kernel
theorem dX6_lasts_23 : decode cX6_lasts 23 = .ok (.invokevirtual 247, 3) := by decide +kernel
theorem dX6_lasts_26 : decode cX6_lasts 26 = .ok (.ireturn, 1) := by decide +kernel
theorem dX6_worth_0 : decode cX6_worth 0 = .ok (.aload_n 0, 1) := by decide +kernel
theorem dX6_worth_1 : decode cX6_worth 1 = .ok (.getfield 10, 3) := by decide +kernel
theorem dX6_worth_4 : decode cX6_worth 4 = .ok (.iload_n 1, 1) := by decide +kernel
theorem dX6_worth_5 : decode cX6_worth 5 = .ok (.invokevirtual 102, 3) := by decide +kernel
theorem dX6_worth_8 : decode cX6_worth 8 = .ok (.ifCond .ne 13, 3) := by decide +kernel
theorem dX6_worth_11 : decode cX6_worth 11 = .ok (.ldc 251, 2) := by decide +kernel
theorem dX6_worth_13 : decode cX6_worth 13 = .ok (.aload_n 0, 1) := by decide +kernel
theorem dX6_worth_14 : decode cX6_worth 14 = .ok (.bipush (-2), 2) := by decide +kernel
theorem dX6_worth_16 : decode cX6_worth 16 = .ok (.invokevirtual 58, 3) := by decide +kernel
theorem dX6_worth_19 : decode cX6_worth 19 = .ok (.iadd, 1) := by decide +kernel
theorem dX6_worth_20 : decode cX6_worth 20 = .ok (.ireturn, 1) := by decide +kernel
theorem dX6_worth_21 : decode cX6_worth 21 = .ok (.aload_n 0, 1) := by decide +kernel
theorem dX6_worth_22 : decode cX6_worth 22 = .ok (.getfield 10, 3) := by decide +kernel
theorem dX6_worth_25 : decode cX6_worth 25 = .ok (.iload_n 1, 1) := by decide +kernel
theorem dX6_worth_26 : decode cX6_worth 26 = .ok (.invokevirtual 151, 3) := by decide +kernel
theorem dX6_worth_29 : decode cX6_worth 29 = .ok (.ifCond .ne 13, 3) := by decide +kernel
theorem dX6_worth_32 : decode cX6_worth 32 = .ok (.ldc 251, 2) := by decide +kernel
theorem dX6_worth_34 : decode cX6_worth 34 = .ok (.aload_n 0, 1) := by decide +kernel
theorem dX6_worth_35 : decode cX6_worth 35 = .ok (.bipush (-5), 2) := by decide +kernel
theorem dX6_worth_37 : decode cX6_worth 37 = .ok (.invokevirtual 58, 3) := by decide +kernel
theorem dX6_worth_40 : decode cX6_worth 40 = .ok (.iadd, 1) := by decide +kernel
theorem dX6_worth_41 : decode cX6_worth 41 = .ok (.ireturn, 1) := by decide +kernel
theorem dX6_worth_42 : decode cX6_worth 42 = .ok (.aload_n 0, 1) := by decide +kernel
theorem dX6_worth_43 : decode cX6_worth 43 = .ok (.getfield 45, 3) := by decide +kernel
theorem dX6_worth_46 : decode cX6_worth 46 = .ok (.aload_n 0, 1) := by decide +kernel
theorem dX6_worth_47 : decode cX6_worth 47 = .ok (.getfield 10, 3) := by decide +kernel
theorem dX6_worth_50 : decode cX6_worth 50 = .ok (.aload_n 0, 1) := by decide +kernel
theorem dX6_worth_51 : decode cX6_worth 51 = .ok (.getfield 10, 3) := by decide +kernel
theorem dX6_worth_54 : decode cX6_worth 54 = .ok (.getfield 145, 3) := by decide +kernel
theorem dX6_worth_57 : decode cX6_worth 57 = .ok (.aload_n 0, 1) := by decide +kernel
theorem dX6_worth_58 : decode cX6_worth 58 = .ok (.getfield 10, 3) := by decide +kernel
theorem dX6_worth_61 : decode cX6_worth 61 = .ok (.getfield 154, 3) := by decide +kernel
theorem dX6_worth_64 : decode cX6_worth 64 = .ok (.iconst 0, 1) := by decide +kernel
theorem dX6_worth_65 : decode cX6_worth 65 = .ok (.invokevirtual 247, 3) := by decide +kernel
theorem dX6_worth_68 : decode cX6_worth 68 = .ok (.istore_n 2, 1) := by decide +kernel
theorem dX6_worth_69 : decode cX6_worth 69 = .ok (.iload_n 2, 1) := by decide +kernel
theorem dX6_worth_70 : decode cX6_worth 70 = .ok (.aload_n 0, 1) := by decide +kernel
theorem dX6_worth_71 : decode cX6_worth 71 = .ok (.getfield 45, 3) := by decide +kernel
theorem dX6_worth_74 : decode cX6_worth 74 = .ok (.aload_n 0, 1) := by decide +kernel
theorem dX6_worth_75 : decode cX6_worth 75 = .ok (.getfield 10, 3) := by decide +kernel
theorem dX6_worth_78 : decode cX6_worth 78 = .ok (.aload_n 0, 1) := by decide +kernel
theorem dX6_worth_79 : decode cX6_worth 79 = .ok (.getfield 10, 3) := by decide +kernel
theorem dX6_worth_82 : decode cX6_worth 82 = .ok (.getfield 145, 3) := by decide +kernel
theorem dX6_worth_85 : decode cX6_worth 85 = .ok (.aload_n 0, 1) := by decide +kernel
theorem dX6_worth_86 : decode cX6_worth 86 = .ok (.getfield 10, 3) := by decide +kernel
theorem dX6_worth_89 : decode cX6_worth 89 = .ok (.getfield 154, 3) := by decide +kernel
theorem dX6_worth_92 : decode cX6_worth 92 = .ok (.iconst 1, 1) := by decide +kernel
theorem dX6_worth_93 : decode cX6_worth 93 = .ok (.iload_n 1, 1) := by decide +kernel
theorem dX6_worth_94 : decode cX6_worth 94 = .ok (.ishl, 1) := by decide +kernel
theorem dX6_worth_95 : decode cX6_worth 95 = .ok (.iconst (-1), 1) := by decide +kernel
theorem dX6_worth_96 : decode cX6_worth 96 = .ok (.ixor, 1) := by decide +kernel
theorem dX6_worth_97 : decode cX6_worth 97 = .ok (.iand, 1) := by decide +kernel
theorem dX6_worth_98 : decode cX6_worth 98 = .ok (.iconst 0, 1) := by decide +kernel
theorem dX6_worth_99 : decode cX6_worth 99 = .ok (.invokevirtual 247, 3) := by decide +kernel
theorem dX6_worth_102 : decode cX6_worth 102 = .ok (.isub, 1) := by decide +kernel
theorem dX6_worth_103 : decode cX6_worth 103 = .ok (.ireturn, 1) := by decide +kernel
def f_X6_ways (n : Nat) (h : xH) (a0 : Nat) (p1 : Int32) (p2 : Int32) (p3 : Int32) : Option (Int32 × xH) :=
  (x_gR h a0 6 0).bind fun a1 =>
  (x_ob h a1 0).bind fun u2 =>
  (f_X0_hasOne h a1 p1).bind fun q3 =>
  if q3 = 0 then
    (x_ob h a0 6).bind fun u4 =>
    (f_X6_refuse h a0 (-2 : Int32)).bind fun q5 =>
    some (q5.1, q5.2)
  else
    (x_gR h a0 6 0).bind fun a6 =>
    (x_ob h a6 0).bind fun u7 =>
    (f_X0_hasDoor h a6 p2).bind fun q8 =>
    if q8 = 0 then
      (x_ob h a0 6).bind fun u9 =>
      (f_X6_refuse h a0 (-2 : Int32)).bind fun q10 =>
      some (q10.1, q10.2)
    else
      if p3 < 0 then
        (x_ob h a0 6).bind fun u11 =>
        (f_X6_refuse h a0 (-2 : Int32)).bind fun q12 =>
        some (q12.1, q12.2)
      else
        if p3 ≤ (1 : Int32) then
          if p3 = 0 then
            (x_gR h a0 6 0).bind fun a13 =>
            (x_ob h a13 0).bind fun u14 =>
            (f_X0_countSets n h a13 p1 p2).bind fun q15 =>
            some (q15, h)
          else
            (x_gR h a0 6 0).bind fun a16 =>
            (x_ob h a16 0).bind fun u17 =>
            (f_X0_leastSet n h a16 p1 p2).bind fun q18 =>
            if q18 = (-1 : Int32) then
              (x_ob h a0 6).bind fun u19 =>
              (f_X6_refuse h a0 (-5 : Int32)).bind fun q20 =>
              some (q20.1, q20.2)
            else
              some (q18, h)
        else
          (x_ob h a0 6).bind fun u23 =>
          (f_X6_refuse h a0 (-2 : Int32)).bind fun q24 =>
          some (q24.1, q24.2)
set_option maxRecDepth 100000 in
set_option maxHeartbeats 4000000 in
theorem c_X6_ways {n : Nat} {h : xH} {a0 : Nat} {p1 : Int32} {p2 : Int32} {p3 : Int32} {r9 : Int32} {hz : xH} (hE : f_X6_ways n h a0 p1 p2 p3 = some (r9, hz)) : Ctr M_X6_ways [.ref a0, .int p1, .int p2, .int p3] h (some (.int r9)) hz 0 0 := by
  refine ctr_of (by decide) (fun _ _ => Nat.le_of_ble_eq_true rfl) (fun S => ?_)
  show Y S M_X6_ways h (some (.int r9)) hz 0 0 0 [(0, .ref a0), (1, .int p1), (2, .int p2), (3, .int p3)] [] h 0 0
  unfold f_X6_ways at hE
  refine y_aload_n dX6_ways_0 0 rfl ?_
  obtain ⟨a1, ea1, hE⟩ := Option.bind_eq_some_iff.mp hE
  refine y_getR fl_X6_10 ea1 dX6_ways_1 ?_
  refine y_iload_n dX6_ways_4 1 rfl ?_
  obtain ⟨u2, eu2, hE⟩ := Option.bind_eq_some_iff.mp hE
  obtain ⟨q3, eq3, hE⟩ := Option.bind_eq_some_iff.mp hE
  refine y_cVi0 (st := []) (as := [.int p1]) (c_X0_hasOne eq3) lk_X6_157 in_X0_hasOne se_X0_hasOne rfl eu2 ⟨Nat.le_of_ble_eq_true rfl, Nat.le_of_ble_eq_true rfl⟩ (Nat.le_of_ble_eq_true rfl) dX6_ways_5 ⟨Nat.le_refl _, Nat.le_refl _⟩ rfl ?_
  refine y_if_eq (tgt := 31) dX6_ways_8 (by decide) (fun hc28 => ?_) (fun hc28 => ?_)
  · rw [if_pos hc28] at hE
    refine y_aload_n dX6_ways_31 0 rfl ?_
    refine y_bipush (v := (-2 : Int32)) dX6_ways_32 (by decide) ?_
    obtain ⟨u4, eu4, hE⟩ := Option.bind_eq_some_iff.mp hE
    obtain ⟨q5, eq5, hE⟩ := Option.bind_eq_some_iff.mp hE
    refine y_cVi0 (st := []) (as := [.int (-2 : Int32)]) (c_X6_refuse eq5) lk_X6_58 in_X6_refuse se_X6_refuse rfl eu4 ⟨Nat.le_of_ble_eq_true rfl, Nat.le_of_ble_eq_true rfl⟩ (Nat.le_of_ble_eq_true rfl) dX6_ways_34 ⟨Nat.le_refl _, Nat.le_refl _⟩ rfl ?_
    obtain ⟨rfl, rfl⟩ := x_inj2 hE
    exact y_ret dX6_ways_37 (Nat.le_refl _) (Nat.le_refl _) ⟨_, rfl, rfl⟩
  · rw [if_neg hc28] at hE
    refine y_aload_n dX6_ways_11 0 rfl ?_
    obtain ⟨a6, ea6, hE⟩ := Option.bind_eq_some_iff.mp hE
    refine y_getR fl_X6_10 ea6 dX6_ways_12 ?_
    refine y_iload_n dX6_ways_15 2 rfl ?_
    obtain ⟨u7, eu7, hE⟩ := Option.bind_eq_some_iff.mp hE
    obtain ⟨q8, eq8, hE⟩ := Option.bind_eq_some_iff.mp hE
    refine y_cVi0 (st := []) (as := [.int p2]) (c_X0_hasDoor eq8) lk_X6_102 in_X0_hasDoor se_X0_hasDoor rfl eu7 ⟨Nat.le_of_ble_eq_true rfl, Nat.le_of_ble_eq_true rfl⟩ (Nat.le_of_ble_eq_true rfl) dX6_ways_16 ⟨Nat.le_refl _, Nat.le_refl _⟩ rfl ?_
    refine y_if_eq (tgt := 31) dX6_ways_19 (by decide) (fun hc27 => ?_) (fun hc27 => ?_)
    · rw [if_pos hc27] at hE
      refine y_aload_n dX6_ways_31 0 rfl ?_
      refine y_bipush (v := (-2 : Int32)) dX6_ways_32 (by decide) ?_
      obtain ⟨u9, eu9, hE⟩ := Option.bind_eq_some_iff.mp hE
      obtain ⟨q10, eq10, hE⟩ := Option.bind_eq_some_iff.mp hE
      refine y_cVi0 (st := []) (as := [.int (-2 : Int32)]) (c_X6_refuse eq10) lk_X6_58 in_X6_refuse se_X6_refuse rfl eu9 ⟨Nat.le_of_ble_eq_true rfl, Nat.le_of_ble_eq_true rfl⟩ (Nat.le_of_ble_eq_true rfl) dX6_ways_34 ⟨Nat.le_refl _, Nat.le_refl _⟩ rfl ?_
      obtain ⟨rfl, rfl⟩ := x_inj2 hE
      exact y_ret dX6_ways_37 (Nat.le_refl _) (Nat.le_refl _) ⟨_, rfl, rfl⟩
    · rw [if_neg hc27] at hE
      refine y_iload_n dX6_ways_22 3 rfl ?_
      refine y_if_lt (tgt := 31) dX6_ways_23 (by decide) (fun hc26 => ?_) (fun hc26 => ?_)
      · rw [if_pos hc26] at hE
        refine y_aload_n dX6_ways_31 0 rfl ?_
        refine y_bipush (v := (-2 : Int32)) dX6_ways_32 (by decide) ?_
        obtain ⟨u11, eu11, hE⟩ := Option.bind_eq_some_iff.mp hE
        obtain ⟨q12, eq12, hE⟩ := Option.bind_eq_some_iff.mp hE
        refine y_cVi0 (st := []) (as := [.int (-2 : Int32)]) (c_X6_refuse eq12) lk_X6_58 in_X6_refuse se_X6_refuse rfl eu11 ⟨Nat.le_of_ble_eq_true rfl, Nat.le_of_ble_eq_true rfl⟩ (Nat.le_of_ble_eq_true rfl) dX6_ways_34 ⟨Nat.le_refl _, Nat.le_refl _⟩ rfl ?_
        obtain ⟨rfl, rfl⟩ := x_inj2 hE
        exact y_ret dX6_ways_37 (Nat.le_refl _) (Nat.le_refl _) ⟨_, rfl, rfl⟩
      · rw [if_neg hc26] at hE
        refine y_iload_n dX6_ways_26 3 rfl ?_
        refine y_iconst (v := (1 : Int32)) dX6_ways_27 (by decide) ?_
        refine y_icmp_le (tgt := 38) dX6_ways_28 (by decide) (fun hc25 => ?_) (fun hc25 => ?_)
        · rw [if_pos hc25] at hE
          refine y_iload_n dX6_ways_38 3 rfl ?_
          refine y_if_ne (tgt := 52) dX6_ways_39 (by decide) (fun hc22 => ?_) (fun hc22 => ?_)
          · rw [if_pos hc22] at hE
            refine y_aload_n dX6_ways_42 0 rfl ?_
            obtain ⟨a13, ea13, hE⟩ := Option.bind_eq_some_iff.mp hE
            refine y_getR fl_X6_10 ea13 dX6_ways_43 ?_
            refine y_iload_n dX6_ways_46 1 rfl ?_
            refine y_iload_n dX6_ways_47 2 rfl ?_
            obtain ⟨u14, eu14, hE⟩ := Option.bind_eq_some_iff.mp hE
            obtain ⟨q15, eq15, hE⟩ := Option.bind_eq_some_iff.mp hE
            refine y_cVi0 (st := []) (as := [.int p1, .int p2]) (c_X0_countSets eq15) lk_X6_208 in_X0_countSets se_X0_countSets rfl eu14 ⟨Nat.le_of_ble_eq_true rfl, Nat.le_of_ble_eq_true rfl⟩ (Nat.le_of_ble_eq_true rfl) dX6_ways_48 ⟨Nat.le_refl _, Nat.le_refl _⟩ rfl ?_
            obtain ⟨rfl, rfl⟩ := x_inj2 hE
            exact y_ret dX6_ways_51 (Nat.le_refl _) (Nat.le_refl _) ⟨_, rfl, rfl⟩
          · rw [if_neg hc22] at hE
            refine y_aload_n dX6_ways_52 0 rfl ?_
            obtain ⟨a16, ea16, hE⟩ := Option.bind_eq_some_iff.mp hE
            refine y_getR fl_X6_10 ea16 dX6_ways_53 ?_
            refine y_iload_n dX6_ways_56 1 rfl ?_
            refine y_iload_n dX6_ways_57 2 rfl ?_
            obtain ⟨u17, eu17, hE⟩ := Option.bind_eq_some_iff.mp hE
            obtain ⟨q18, eq18, hE⟩ := Option.bind_eq_some_iff.mp hE
            refine y_cVi0 (st := []) (as := [.int p1, .int p2]) (c_X0_leastSet eq18) lk_X6_198 in_X0_leastSet se_X0_leastSet rfl eu17 ⟨Nat.le_of_ble_eq_true rfl, Nat.le_of_ble_eq_true rfl⟩ (Nat.le_of_ble_eq_true rfl) dX6_ways_58 ⟨Nat.le_refl _, Nat.le_refl _⟩ rfl ?_
            refine y_istore (ls' := [(4, .int q18), (0, .ref a0), (1, .int p1), (2, .int p2), (3, .int p3)]) dX6_ways_61 (by decide) rfl rfl ?_
            refine y_iload dX6_ways_63 0 rfl ?_
            refine y_iconst (v := (-1 : Int32)) dX6_ways_65 (by decide) ?_
            refine y_icmp_ne (tgt := 78) dX6_ways_66 (by decide) (fun hc21 => ?_) (fun hc21 => ?_)
            · rw [if_pos hc21] at hE
              refine y_aload_n dX6_ways_69 1 rfl ?_
              refine y_bipush (v := (-5 : Int32)) dX6_ways_70 (by decide) ?_
              obtain ⟨u19, eu19, hE⟩ := Option.bind_eq_some_iff.mp hE
              obtain ⟨q20, eq20, hE⟩ := Option.bind_eq_some_iff.mp hE
              refine y_cVi0 (st := []) (as := [.int (-5 : Int32)]) (c_X6_refuse eq20) lk_X6_58 in_X6_refuse se_X6_refuse rfl eu19 ⟨Nat.le_of_ble_eq_true rfl, Nat.le_of_ble_eq_true rfl⟩ (Nat.le_of_ble_eq_true rfl) dX6_ways_72 ⟨Nat.le_refl _, Nat.le_refl _⟩ rfl ?_
              refine y_goto (tgt := 80) dX6_ways_75 (by decide) ?_
              obtain ⟨rfl, rfl⟩ := x_inj2 hE
              exact y_ret dX6_ways_80 (Nat.le_refl _) (Nat.le_refl _) ⟨_, rfl, rfl⟩
            · rw [if_neg hc21] at hE
              refine y_iload dX6_ways_78 0 rfl ?_
              obtain ⟨rfl, rfl⟩ := x_inj2 hE
              exact y_ret dX6_ways_80 (Nat.le_refl _) (Nat.le_refl _) ⟨_, rfl, rfl⟩
        · rw [if_neg hc25] at hE
          refine y_aload_n dX6_ways_31 0 rfl ?_
          refine y_bipush (v := (-2 : Int32)) dX6_ways_32 (by decide) ?_
          obtain ⟨u23, eu23, hE⟩ := Option.bind_eq_some_iff.mp hE
          obtain ⟨q24, eq24, hE⟩ := Option.bind_eq_some_iff.mp hE
          refine y_cVi0 (st := []) (as := [.int (-2 : Int32)]) (c_X6_refuse eq24) lk_X6_58 in_X6_refuse se_X6_refuse rfl eu23 ⟨Nat.le_of_ble_eq_true rfl, Nat.le_of_ble_eq_true rfl⟩ (Nat.le_of_ble_eq_true rfl) dX6_ways_34 ⟨Nat.le_refl _, Nat.le_refl _⟩ rfl ?_
          obtain ⟨rfl, rfl⟩ := x_inj2 hE
          exact y_ret dX6_ways_37 (Nat.le_refl _) (Nat.le_refl _) ⟨_, rfl, rfl⟩
def f_X6_walk (h : xH) (a0 : Nat) (p1 : Int32) (p2 : Int32) : Option (Int32 × xH) :=
  (x_gR h a0 6 0).bind fun a1 =>
  (x_ob h a1 0).bind fun u2 =>
  (f_X0_hasOne h a1 p1).bind fun q3 =>
  if q3 = 0 then
    (x_ob h a0 6).bind fun u4 =>
    (f_X6_refuse h a0 (-2 : Int32)).bind fun q5 =>
    some (q5.1, q5.2)
  else
    (x_gR h a0 6 0).bind fun a6 =>
    (x_ob h a6 0).bind fun u7 =>
    (f_X0_hasDoor h a6 p2).bind fun q8 =>
    if q8 = 0 then
      (x_ob h a0 6).bind fun u9 =>
      (f_X6_refuse h a0 (-2 : Int32)).bind fun q10 =>
      some (q10.1, q10.2)
    else
      (x_gR h a0 6 0).bind fun a11 =>
      (x_ob h a11 0).bind fun u12 =>
      (f_X0_mayWalk h a11 p1 p2).bind fun q13 =>
      if q13 = 0 then
        (x_ob h a0 6).bind fun u14 =>
        (f_X6_refuse h a0 (-5 : Int32)).bind fun q15 =>
        some (q15.1, q15.2)
      else
        (x_gR h a0 6 0).bind fun a16 =>
        (x_ob h a16 0).bind fun u17 =>
        (f_X0_goThrough h a16 p1 p2).bind fun q18 =>
        (x_gR q18 a0 6 0).bind fun a19 =>
        (x_gR q18 a19 0 3).bind fun a20 =>
        (x_ld q18 a20 p1).bind fun x21 =>
        some (x21, q18)
set_option maxRecDepth 100000 in
set_option maxHeartbeats 4000000 in
theorem c_X6_walk {h : xH} {a0 : Nat} {p1 : Int32} {p2 : Int32} {r9 : Int32} {hz : xH} (hE : f_X6_walk h a0 p1 p2 = some (r9, hz)) : Ctr M_X6_walk [.ref a0, .int p1, .int p2] h (some (.int r9)) hz 0 0 := by
  refine ctr_of (by decide) (fun _ _ => Nat.le_of_ble_eq_true rfl) (fun S => ?_)
  show Y S M_X6_walk h (some (.int r9)) hz 0 0 0 [(0, .ref a0), (1, .int p1), (2, .int p2)] [] h 0 0
  unfold f_X6_walk at hE
  refine y_aload_n dX6_walk_0 0 rfl ?_
  obtain ⟨a1, ea1, hE⟩ := Option.bind_eq_some_iff.mp hE
  refine y_getR fl_X6_10 ea1 dX6_walk_1 ?_
  refine y_iload_n dX6_walk_4 1 rfl ?_
  obtain ⟨u2, eu2, hE⟩ := Option.bind_eq_some_iff.mp hE
  obtain ⟨q3, eq3, hE⟩ := Option.bind_eq_some_iff.mp hE
  refine y_cVi0 (st := []) (as := [.int p1]) (c_X0_hasOne eq3) lk_X6_157 in_X0_hasOne se_X0_hasOne rfl eu2 ⟨Nat.le_of_ble_eq_true rfl, Nat.le_of_ble_eq_true rfl⟩ (Nat.le_of_ble_eq_true rfl) dX6_walk_5 ⟨Nat.le_refl _, Nat.le_refl _⟩ rfl ?_
  refine y_if_eq (tgt := 22) dX6_walk_8 (by decide) (fun hc24 => ?_) (fun hc24 => ?_)
  · rw [if_pos hc24] at hE
    refine y_aload_n dX6_walk_22 0 rfl ?_
    refine y_bipush (v := (-2 : Int32)) dX6_walk_23 (by decide) ?_
    obtain ⟨u4, eu4, hE⟩ := Option.bind_eq_some_iff.mp hE
    obtain ⟨q5, eq5, hE⟩ := Option.bind_eq_some_iff.mp hE
    refine y_cVi0 (st := []) (as := [.int (-2 : Int32)]) (c_X6_refuse eq5) lk_X6_58 in_X6_refuse se_X6_refuse rfl eu4 ⟨Nat.le_of_ble_eq_true rfl, Nat.le_of_ble_eq_true rfl⟩ (Nat.le_of_ble_eq_true rfl) dX6_walk_25 ⟨Nat.le_refl _, Nat.le_refl _⟩ rfl ?_
    obtain ⟨rfl, rfl⟩ := x_inj2 hE
    exact y_ret dX6_walk_28 (Nat.le_refl _) (Nat.le_refl _) ⟨_, rfl, rfl⟩
  · rw [if_neg hc24] at hE
    refine y_aload_n dX6_walk_11 0 rfl ?_
    obtain ⟨a6, ea6, hE⟩ := Option.bind_eq_some_iff.mp hE
    refine y_getR fl_X6_10 ea6 dX6_walk_12 ?_
    refine y_iload_n dX6_walk_15 2 rfl ?_
    obtain ⟨u7, eu7, hE⟩ := Option.bind_eq_some_iff.mp hE
    obtain ⟨q8, eq8, hE⟩ := Option.bind_eq_some_iff.mp hE
    refine y_cVi0 (st := []) (as := [.int p2]) (c_X0_hasDoor eq8) lk_X6_102 in_X0_hasDoor se_X0_hasDoor rfl eu7 ⟨Nat.le_of_ble_eq_true rfl, Nat.le_of_ble_eq_true rfl⟩ (Nat.le_of_ble_eq_true rfl) dX6_walk_16 ⟨Nat.le_refl _, Nat.le_refl _⟩ rfl ?_
    refine y_if_ne (tgt := 29) dX6_walk_19 (by decide) (fun hc23 => ?_) (fun hc23 => ?_)
    · rw [if_pos hc23] at hE
      refine y_aload_n dX6_walk_22 0 rfl ?_
      refine y_bipush (v := (-2 : Int32)) dX6_walk_23 (by decide) ?_
      obtain ⟨u9, eu9, hE⟩ := Option.bind_eq_some_iff.mp hE
      obtain ⟨q10, eq10, hE⟩ := Option.bind_eq_some_iff.mp hE
      refine y_cVi0 (st := []) (as := [.int (-2 : Int32)]) (c_X6_refuse eq10) lk_X6_58 in_X6_refuse se_X6_refuse rfl eu9 ⟨Nat.le_of_ble_eq_true rfl, Nat.le_of_ble_eq_true rfl⟩ (Nat.le_of_ble_eq_true rfl) dX6_walk_25 ⟨Nat.le_refl _, Nat.le_refl _⟩ rfl ?_
      obtain ⟨rfl, rfl⟩ := x_inj2 hE
      exact y_ret dX6_walk_28 (Nat.le_refl _) (Nat.le_refl _) ⟨_, rfl, rfl⟩
    · rw [if_neg hc23] at hE
      refine y_aload_n dX6_walk_29 0 rfl ?_
      obtain ⟨a11, ea11, hE⟩ := Option.bind_eq_some_iff.mp hE
      refine y_getR fl_X6_10 ea11 dX6_walk_30 ?_
      refine y_iload_n dX6_walk_33 1 rfl ?_
      refine y_iload_n dX6_walk_34 2 rfl ?_
      obtain ⟨u12, eu12, hE⟩ := Option.bind_eq_some_iff.mp hE
      obtain ⟨q13, eq13, hE⟩ := Option.bind_eq_some_iff.mp hE
      refine y_cVi0 (st := []) (as := [.int p1, .int p2]) (c_X0_mayWalk eq13) lk_X6_192 in_X0_mayWalk se_X0_mayWalk rfl eu12 ⟨Nat.le_of_ble_eq_true rfl, Nat.le_of_ble_eq_true rfl⟩ (Nat.le_of_ble_eq_true rfl) dX6_walk_35 ⟨Nat.le_refl _, Nat.le_refl _⟩ rfl ?_
      refine y_if_ne (tgt := 48) dX6_walk_38 (by decide) (fun hc22 => ?_) (fun hc22 => ?_)
      · rw [if_pos hc22] at hE
        refine y_aload_n dX6_walk_41 0 rfl ?_
        refine y_bipush (v := (-5 : Int32)) dX6_walk_42 (by decide) ?_
        obtain ⟨u14, eu14, hE⟩ := Option.bind_eq_some_iff.mp hE
        obtain ⟨q15, eq15, hE⟩ := Option.bind_eq_some_iff.mp hE
        refine y_cVi0 (st := []) (as := [.int (-5 : Int32)]) (c_X6_refuse eq15) lk_X6_58 in_X6_refuse se_X6_refuse rfl eu14 ⟨Nat.le_of_ble_eq_true rfl, Nat.le_of_ble_eq_true rfl⟩ (Nat.le_of_ble_eq_true rfl) dX6_walk_44 ⟨Nat.le_refl _, Nat.le_refl _⟩ rfl ?_
        obtain ⟨rfl, rfl⟩ := x_inj2 hE
        exact y_ret dX6_walk_47 (Nat.le_refl _) (Nat.le_refl _) ⟨_, rfl, rfl⟩
      · rw [if_neg hc22] at hE
        refine y_aload_n dX6_walk_48 0 rfl ?_
        obtain ⟨a16, ea16, hE⟩ := Option.bind_eq_some_iff.mp hE
        refine y_getR fl_X6_10 ea16 dX6_walk_49 ?_
        refine y_iload_n dX6_walk_52 1 rfl ?_
        refine y_iload_n dX6_walk_53 2 rfl ?_
        obtain ⟨u17, eu17, hE⟩ := Option.bind_eq_some_iff.mp hE
        obtain ⟨q18, eq18, hE⟩ := Option.bind_eq_some_iff.mp hE
        refine y_cVv0 (st := []) (as := [.int p1, .int p2]) (c_X0_goThrough eq18) lk_X6_211 in_X0_goThrough se_X0_goThrough rfl eu17 ⟨Nat.le_of_ble_eq_true rfl, Nat.le_of_ble_eq_true rfl⟩ (Nat.le_of_ble_eq_true rfl) dX6_walk_54 ⟨Nat.le_refl _, Nat.le_refl _⟩ rfl ?_
        refine y_aload_n dX6_walk_57 0 rfl ?_
        obtain ⟨a19, ea19, hE⟩ := Option.bind_eq_some_iff.mp hE
        refine y_getR fl_X6_10 ea19 dX6_walk_58 ?_
        obtain ⟨a20, ea20, hE⟩ := Option.bind_eq_some_iff.mp hE
        refine y_getR fl_X6_160 ea20 dX6_walk_61 ?_
        refine y_iload_n dX6_walk_64 1 rfl ?_
        obtain ⟨x21, ex21, hE⟩ := Option.bind_eq_some_iff.mp hE
        refine y_iald ex21 dX6_walk_65 ?_
        obtain ⟨rfl, rfl⟩ := x_inj2 hE
        exact y_ret dX6_walk_66 (Nat.le_refl _) (Nat.le_refl _) ⟨_, rfl, rfl⟩
def f_X6_shut (n : Nat) (h : xH) (a0 : Nat) (p1 : Int32) (p2 : Int32) : Option (Int32 × xH) :=
  (x_gR h a0 6 0).bind fun a1 =>
  (x_ob h a1 0).bind fun u2 =>
  (f_X0_hasOne h a1 p1).bind fun q3 =>
  if q3 = 0 then
    (x_ob h a0 6).bind fun u4 =>
    (f_X6_refuse h a0 (-2 : Int32)).bind fun q5 =>
    some (q5.1, q5.2)
  else
    (x_gR h a0 6 0).bind fun a6 =>
    (x_ob h a6 0).bind fun u7 =>
    (f_X0_hasDoor h a6 p2).bind fun q8 =>
    if q8 = 0 then
      (x_ob h a0 6).bind fun u9 =>
      (f_X6_refuse h a0 (-2 : Int32)).bind fun q10 =>
      some (q10.1, q10.2)
    else
      (x_gR h a0 6 0).bind fun a11 =>
      (x_ob h a11 0).bind fun u12 =>
      (f_X0_mayShut h a11 p1 p2).bind fun q13 =>
      if q13 = 0 then
        (x_ob h a0 6).bind fun u14 =>
        (f_X6_refuse h a0 (-5 : Int32)).bind fun q15 =>
        some (q15.1, q15.2)
      else
        (x_gR h a0 6 0).bind fun a16 =>
        (x_gI h a16 0 5).bind fun x17 =>
        (x_put h a16 0 5 (.int (x17 &&& ((i_shl (1 : Int32) p2) ^^^ (-1 : Int32))))).bind fun h18 =>
        (x_gR h18 a0 6 0).bind fun a19 =>
        (x_ob h18 a19 0).bind fun u20 =>
        (f_X0_openStock n h18 a19).bind fun q21 =>
        some (q21, h18)
set_option maxRecDepth 100000 in
set_option maxHeartbeats 4000000 in
theorem c_X6_shut {n : Nat} {h : xH} {a0 : Nat} {p1 : Int32} {p2 : Int32} {r9 : Int32} {hz : xH} (hE : f_X6_shut n h a0 p1 p2 = some (r9, hz)) : Ctr M_X6_shut [.ref a0, .int p1, .int p2] h (some (.int r9)) hz 0 0 := by
  refine ctr_of (by decide) (fun _ _ => Nat.le_of_ble_eq_true rfl) (fun S => ?_)
  show Y S M_X6_shut h (some (.int r9)) hz 0 0 0 [(0, .ref a0), (1, .int p1), (2, .int p2)] [] h 0 0
  unfold f_X6_shut at hE
  refine y_aload_n dX6_shut_0 0 rfl ?_
  obtain ⟨a1, ea1, hE⟩ := Option.bind_eq_some_iff.mp hE
  refine y_getR fl_X6_10 ea1 dX6_shut_1 ?_
  refine y_iload_n dX6_shut_4 1 rfl ?_
  obtain ⟨u2, eu2, hE⟩ := Option.bind_eq_some_iff.mp hE
  obtain ⟨q3, eq3, hE⟩ := Option.bind_eq_some_iff.mp hE
  refine y_cVi0 (st := []) (as := [.int p1]) (c_X0_hasOne eq3) lk_X6_157 in_X0_hasOne se_X0_hasOne rfl eu2 ⟨Nat.le_of_ble_eq_true rfl, Nat.le_of_ble_eq_true rfl⟩ (Nat.le_of_ble_eq_true rfl) dX6_shut_5 ⟨Nat.le_refl _, Nat.le_refl _⟩ rfl ?_
  refine y_if_eq (tgt := 22) dX6_shut_8 (by decide) (fun hc24 => ?_) (fun hc24 => ?_)
  · rw [if_pos hc24] at hE
    refine y_aload_n dX6_shut_22 0 rfl ?_
    refine y_bipush (v := (-2 : Int32)) dX6_shut_23 (by decide) ?_
    obtain ⟨u4, eu4, hE⟩ := Option.bind_eq_some_iff.mp hE
    obtain ⟨q5, eq5, hE⟩ := Option.bind_eq_some_iff.mp hE
    refine y_cVi0 (st := []) (as := [.int (-2 : Int32)]) (c_X6_refuse eq5) lk_X6_58 in_X6_refuse se_X6_refuse rfl eu4 ⟨Nat.le_of_ble_eq_true rfl, Nat.le_of_ble_eq_true rfl⟩ (Nat.le_of_ble_eq_true rfl) dX6_shut_25 ⟨Nat.le_refl _, Nat.le_refl _⟩ rfl ?_
    obtain ⟨rfl, rfl⟩ := x_inj2 hE
    exact y_ret dX6_shut_28 (Nat.le_refl _) (Nat.le_refl _) ⟨_, rfl, rfl⟩
  · rw [if_neg hc24] at hE
    refine y_aload_n dX6_shut_11 0 rfl ?_
    obtain ⟨a6, ea6, hE⟩ := Option.bind_eq_some_iff.mp hE
    refine y_getR fl_X6_10 ea6 dX6_shut_12 ?_
    refine y_iload_n dX6_shut_15 2 rfl ?_
    obtain ⟨u7, eu7, hE⟩ := Option.bind_eq_some_iff.mp hE
    obtain ⟨q8, eq8, hE⟩ := Option.bind_eq_some_iff.mp hE
    refine y_cVi0 (st := []) (as := [.int p2]) (c_X0_hasDoor eq8) lk_X6_102 in_X0_hasDoor se_X0_hasDoor rfl eu7 ⟨Nat.le_of_ble_eq_true rfl, Nat.le_of_ble_eq_true rfl⟩ (Nat.le_of_ble_eq_true rfl) dX6_shut_16 ⟨Nat.le_refl _, Nat.le_refl _⟩ rfl ?_
    refine y_if_ne (tgt := 29) dX6_shut_19 (by decide) (fun hc23 => ?_) (fun hc23 => ?_)
    · rw [if_pos hc23] at hE
      refine y_aload_n dX6_shut_22 0 rfl ?_
      refine y_bipush (v := (-2 : Int32)) dX6_shut_23 (by decide) ?_
      obtain ⟨u9, eu9, hE⟩ := Option.bind_eq_some_iff.mp hE
      obtain ⟨q10, eq10, hE⟩ := Option.bind_eq_some_iff.mp hE
      refine y_cVi0 (st := []) (as := [.int (-2 : Int32)]) (c_X6_refuse eq10) lk_X6_58 in_X6_refuse se_X6_refuse rfl eu9 ⟨Nat.le_of_ble_eq_true rfl, Nat.le_of_ble_eq_true rfl⟩ (Nat.le_of_ble_eq_true rfl) dX6_shut_25 ⟨Nat.le_refl _, Nat.le_refl _⟩ rfl ?_
      obtain ⟨rfl, rfl⟩ := x_inj2 hE
      exact y_ret dX6_shut_28 (Nat.le_refl _) (Nat.le_refl _) ⟨_, rfl, rfl⟩
    · rw [if_neg hc23] at hE
      refine y_aload_n dX6_shut_29 0 rfl ?_
      obtain ⟨a11, ea11, hE⟩ := Option.bind_eq_some_iff.mp hE
      refine y_getR fl_X6_10 ea11 dX6_shut_30 ?_
      refine y_iload_n dX6_shut_33 1 rfl ?_
      refine y_iload_n dX6_shut_34 2 rfl ?_
      obtain ⟨u12, eu12, hE⟩ := Option.bind_eq_some_iff.mp hE
      obtain ⟨q13, eq13, hE⟩ := Option.bind_eq_some_iff.mp hE
      refine y_cVi0 (st := []) (as := [.int p1, .int p2]) (c_X0_mayShut eq13) lk_X6_195 in_X0_mayShut se_X0_mayShut rfl eu12 ⟨Nat.le_of_ble_eq_true rfl, Nat.le_of_ble_eq_true rfl⟩ (Nat.le_of_ble_eq_true rfl) dX6_shut_35 ⟨Nat.le_refl _, Nat.le_refl _⟩ rfl ?_
      refine y_if_ne (tgt := 48) dX6_shut_38 (by decide) (fun hc22 => ?_) (fun hc22 => ?_)
      · rw [if_pos hc22] at hE
        refine y_aload_n dX6_shut_41 0 rfl ?_
        refine y_bipush (v := (-5 : Int32)) dX6_shut_42 (by decide) ?_
        obtain ⟨u14, eu14, hE⟩ := Option.bind_eq_some_iff.mp hE
        obtain ⟨q15, eq15, hE⟩ := Option.bind_eq_some_iff.mp hE
        refine y_cVi0 (st := []) (as := [.int (-5 : Int32)]) (c_X6_refuse eq15) lk_X6_58 in_X6_refuse se_X6_refuse rfl eu14 ⟨Nat.le_of_ble_eq_true rfl, Nat.le_of_ble_eq_true rfl⟩ (Nat.le_of_ble_eq_true rfl) dX6_shut_44 ⟨Nat.le_refl _, Nat.le_refl _⟩ rfl ?_
        obtain ⟨rfl, rfl⟩ := x_inj2 hE
        exact y_ret dX6_shut_47 (Nat.le_refl _) (Nat.le_refl _) ⟨_, rfl, rfl⟩
      · rw [if_neg hc22] at hE
        refine y_aload_n dX6_shut_48 0 rfl ?_
        obtain ⟨a16, ea16, hE⟩ := Option.bind_eq_some_iff.mp hE
        refine y_getR fl_X6_10 ea16 dX6_shut_49 ?_
        refine y_dup dX6_shut_52 rfl ?_
        obtain ⟨x17, ex17, hE⟩ := Option.bind_eq_some_iff.mp hE
        refine y_getI fl_X6_154 ex17 dX6_shut_53 ?_
        refine y_iconst (v := (1 : Int32)) dX6_shut_56 (by decide) ?_
        refine y_iload_n dX6_shut_57 2 rfl ?_
        refine y_ishl dX6_shut_58 ?_
        refine y_iconst (v := (-1 : Int32)) dX6_shut_59 (by decide) ?_
        refine y_ixor dX6_shut_60 ?_
        refine y_iand dX6_shut_61 ?_
        obtain ⟨h18, eh18, hE⟩ := Option.bind_eq_some_iff.mp hE
        refine y_putI fp_X6_154 eh18 dX6_shut_62 ?_
        refine y_aload_n dX6_shut_65 0 rfl ?_
        obtain ⟨a19, ea19, hE⟩ := Option.bind_eq_some_iff.mp hE
        refine y_getR fl_X6_10 ea19 dX6_shut_66 ?_
        obtain ⟨u20, eu20, hE⟩ := Option.bind_eq_some_iff.mp hE
        obtain ⟨q21, eq21, hE⟩ := Option.bind_eq_some_iff.mp hE
        refine y_cVi0 (st := []) (as := []) (c_X0_openStock eq21) lk_X6_214 in_X0_openStock se_X0_openStock rfl eu20 ⟨Nat.le_of_ble_eq_true rfl, Nat.le_of_ble_eq_true rfl⟩ (Nat.le_of_ble_eq_true rfl) dX6_shut_69 ⟨Nat.le_refl _, Nat.le_refl _⟩ rfl ?_
        obtain ⟨rfl, rfl⟩ := x_inj2 hE
        exact y_ret dX6_shut_72 (Nat.le_refl _) (Nat.le_refl _) ⟨_, rfl, rfl⟩
def f_X6_open (n : Nat) (h : xH) (a0 : Nat) (p1 : Int32) (p2 : Int32) (p3 : Int32) : Option (Int32 × xH) :=
  (x_gR h a0 6 0).bind fun a1 =>
  (x_ob h a1 0).bind fun u2 =>
  (f_X0_hasOne h a1 p1).bind fun q3 =>
  if q3 = 0 then
    (x_ob h a0 6).bind fun u4 =>
    (f_X6_refuse h a0 (-2 : Int32)).bind fun q5 =>
    some (q5.1, q5.2)
  else
    (x_gR h a0 6 0).bind fun a6 =>
    (x_ob h a6 0).bind fun u7 =>
    (f_X0_hasDoor h a6 p2).bind fun q8 =>
    if q8 = 0 then
      (x_ob h a0 6).bind fun u9 =>
      (f_X6_refuse h a0 (-2 : Int32)).bind fun q10 =>
      some (q10.1, q10.2)
    else
      (x_gR h a0 6 0).bind fun a11 =>
      (x_ob h a11 0).bind fun u12 =>
      (f_X0_hasDoors h a11 p3).bind fun q13 =>
      if q13 = 0 then
        (x_ob h a0 6).bind fun u14 =>
        (f_X6_refuse h a0 (-2 : Int32)).bind fun q15 =>
        some (q15.1, q15.2)
      else
        (x_gR h a0 6 0).bind fun a16 =>
        (x_ob h a16 0).bind fun u17 =>
        (f_X0_opensBy n h a16 p1 p2 p3).bind fun q18 =>
        if q18 = 0 then
          (x_ob h a0 6).bind fun u19 =>
          (f_X6_refuse h a0 (-5 : Int32)).bind fun q20 =>
          some (q20.1, q20.2)
        else
          (x_gR h a0 6 0).bind fun a21 =>
          (x_ob h a21 0).bind fun u22 =>
          (f_X0_openFor h a21 p2 p3).bind fun q23 =>
          (x_gR q23 a0 6 0).bind fun a24 =>
          (x_ob q23 a24 0).bind fun u25 =>
          (f_X0_openStock n q23 a24).bind fun q26 =>
          some (q26, q23)
set_option maxRecDepth 100000 in
set_option maxHeartbeats 4000000 in
theorem c_X6_open {n : Nat} {h : xH} {a0 : Nat} {p1 : Int32} {p2 : Int32} {p3 : Int32} {r9 : Int32} {hz : xH} (hE : f_X6_open n h a0 p1 p2 p3 = some (r9, hz)) : Ctr M_X6_open [.ref a0, .int p1, .int p2, .int p3] h (some (.int r9)) hz 0 0 := by
  refine ctr_of (by decide) (fun _ _ => Nat.le_of_ble_eq_true rfl) (fun S => ?_)
  show Y S M_X6_open h (some (.int r9)) hz 0 0 0 [(0, .ref a0), (1, .int p1), (2, .int p2), (3, .int p3)] [] h 0 0
  unfold f_X6_open at hE
  refine y_aload_n dX6_open_0 0 rfl ?_
  obtain ⟨a1, ea1, hE⟩ := Option.bind_eq_some_iff.mp hE
  refine y_getR fl_X6_10 ea1 dX6_open_1 ?_
  refine y_iload_n dX6_open_4 1 rfl ?_
  obtain ⟨u2, eu2, hE⟩ := Option.bind_eq_some_iff.mp hE
  obtain ⟨q3, eq3, hE⟩ := Option.bind_eq_some_iff.mp hE
  refine y_cVi0 (st := []) (as := [.int p1]) (c_X0_hasOne eq3) lk_X6_157 in_X0_hasOne se_X0_hasOne rfl eu2 ⟨Nat.le_of_ble_eq_true rfl, Nat.le_of_ble_eq_true rfl⟩ (Nat.le_of_ble_eq_true rfl) dX6_open_5 ⟨Nat.le_refl _, Nat.le_refl _⟩ rfl ?_
  refine y_if_eq (tgt := 33) dX6_open_8 (by decide) (fun hc30 => ?_) (fun hc30 => ?_)
  · rw [if_pos hc30] at hE
    refine y_aload_n dX6_open_33 0 rfl ?_
    refine y_bipush (v := (-2 : Int32)) dX6_open_34 (by decide) ?_
    obtain ⟨u4, eu4, hE⟩ := Option.bind_eq_some_iff.mp hE
    obtain ⟨q5, eq5, hE⟩ := Option.bind_eq_some_iff.mp hE
    refine y_cVi0 (st := []) (as := [.int (-2 : Int32)]) (c_X6_refuse eq5) lk_X6_58 in_X6_refuse se_X6_refuse rfl eu4 ⟨Nat.le_of_ble_eq_true rfl, Nat.le_of_ble_eq_true rfl⟩ (Nat.le_of_ble_eq_true rfl) dX6_open_36 ⟨Nat.le_refl _, Nat.le_refl _⟩ rfl ?_
    obtain ⟨rfl, rfl⟩ := x_inj2 hE
    exact y_ret dX6_open_39 (Nat.le_refl _) (Nat.le_refl _) ⟨_, rfl, rfl⟩
  · rw [if_neg hc30] at hE
    refine y_aload_n dX6_open_11 0 rfl ?_
    obtain ⟨a6, ea6, hE⟩ := Option.bind_eq_some_iff.mp hE
    refine y_getR fl_X6_10 ea6 dX6_open_12 ?_
    refine y_iload_n dX6_open_15 2 rfl ?_
    obtain ⟨u7, eu7, hE⟩ := Option.bind_eq_some_iff.mp hE
    obtain ⟨q8, eq8, hE⟩ := Option.bind_eq_some_iff.mp hE
    refine y_cVi0 (st := []) (as := [.int p2]) (c_X0_hasDoor eq8) lk_X6_102 in_X0_hasDoor se_X0_hasDoor rfl eu7 ⟨Nat.le_of_ble_eq_true rfl, Nat.le_of_ble_eq_true rfl⟩ (Nat.le_of_ble_eq_true rfl) dX6_open_16 ⟨Nat.le_refl _, Nat.le_refl _⟩ rfl ?_
    refine y_if_eq (tgt := 33) dX6_open_19 (by decide) (fun hc29 => ?_) (fun hc29 => ?_)
    · rw [if_pos hc29] at hE
      refine y_aload_n dX6_open_33 0 rfl ?_
      refine y_bipush (v := (-2 : Int32)) dX6_open_34 (by decide) ?_
      obtain ⟨u9, eu9, hE⟩ := Option.bind_eq_some_iff.mp hE
      obtain ⟨q10, eq10, hE⟩ := Option.bind_eq_some_iff.mp hE
      refine y_cVi0 (st := []) (as := [.int (-2 : Int32)]) (c_X6_refuse eq10) lk_X6_58 in_X6_refuse se_X6_refuse rfl eu9 ⟨Nat.le_of_ble_eq_true rfl, Nat.le_of_ble_eq_true rfl⟩ (Nat.le_of_ble_eq_true rfl) dX6_open_36 ⟨Nat.le_refl _, Nat.le_refl _⟩ rfl ?_
      obtain ⟨rfl, rfl⟩ := x_inj2 hE
      exact y_ret dX6_open_39 (Nat.le_refl _) (Nat.le_refl _) ⟨_, rfl, rfl⟩
    · rw [if_neg hc29] at hE
      refine y_aload_n dX6_open_22 0 rfl ?_
      obtain ⟨a11, ea11, hE⟩ := Option.bind_eq_some_iff.mp hE
      refine y_getR fl_X6_10 ea11 dX6_open_23 ?_
      refine y_iload_n dX6_open_26 3 rfl ?_
      obtain ⟨u12, eu12, hE⟩ := Option.bind_eq_some_iff.mp hE
      obtain ⟨q13, eq13, hE⟩ := Option.bind_eq_some_iff.mp hE
      refine y_cVi0 (st := []) (as := [.int p3]) (c_X0_hasDoors eq13) lk_X6_201 in_X0_hasDoors se_X0_hasDoors rfl eu12 ⟨Nat.le_of_ble_eq_true rfl, Nat.le_of_ble_eq_true rfl⟩ (Nat.le_of_ble_eq_true rfl) dX6_open_27 ⟨Nat.le_refl _, Nat.le_refl _⟩ rfl ?_
      refine y_if_ne (tgt := 40) dX6_open_30 (by decide) (fun hc28 => ?_) (fun hc28 => ?_)
      · rw [if_pos hc28] at hE
        refine y_aload_n dX6_open_33 0 rfl ?_
        refine y_bipush (v := (-2 : Int32)) dX6_open_34 (by decide) ?_
        obtain ⟨u14, eu14, hE⟩ := Option.bind_eq_some_iff.mp hE
        obtain ⟨q15, eq15, hE⟩ := Option.bind_eq_some_iff.mp hE
        refine y_cVi0 (st := []) (as := [.int (-2 : Int32)]) (c_X6_refuse eq15) lk_X6_58 in_X6_refuse se_X6_refuse rfl eu14 ⟨Nat.le_of_ble_eq_true rfl, Nat.le_of_ble_eq_true rfl⟩ (Nat.le_of_ble_eq_true rfl) dX6_open_36 ⟨Nat.le_refl _, Nat.le_refl _⟩ rfl ?_
        obtain ⟨rfl, rfl⟩ := x_inj2 hE
        exact y_ret dX6_open_39 (Nat.le_refl _) (Nat.le_refl _) ⟨_, rfl, rfl⟩
      · rw [if_neg hc28] at hE
        refine y_aload_n dX6_open_40 0 rfl ?_
        obtain ⟨a16, ea16, hE⟩ := Option.bind_eq_some_iff.mp hE
        refine y_getR fl_X6_10 ea16 dX6_open_41 ?_
        refine y_iload_n dX6_open_44 1 rfl ?_
        refine y_iload_n dX6_open_45 2 rfl ?_
        refine y_iload_n dX6_open_46 3 rfl ?_
        obtain ⟨u17, eu17, hE⟩ := Option.bind_eq_some_iff.mp hE
        obtain ⟨q18, eq18, hE⟩ := Option.bind_eq_some_iff.mp hE
        refine y_cVi0 (st := []) (as := [.int p1, .int p2, .int p3]) (c_X0_opensBy eq18) lk_X6_204 in_X0_opensBy se_X0_opensBy rfl eu17 ⟨Nat.le_of_ble_eq_true rfl, Nat.le_of_ble_eq_true rfl⟩ (Nat.le_of_ble_eq_true rfl) dX6_open_47 ⟨Nat.le_refl _, Nat.le_refl _⟩ rfl ?_
        refine y_if_ne (tgt := 60) dX6_open_50 (by decide) (fun hc27 => ?_) (fun hc27 => ?_)
        · rw [if_pos hc27] at hE
          refine y_aload_n dX6_open_53 0 rfl ?_
          refine y_bipush (v := (-5 : Int32)) dX6_open_54 (by decide) ?_
          obtain ⟨u19, eu19, hE⟩ := Option.bind_eq_some_iff.mp hE
          obtain ⟨q20, eq20, hE⟩ := Option.bind_eq_some_iff.mp hE
          refine y_cVi0 (st := []) (as := [.int (-5 : Int32)]) (c_X6_refuse eq20) lk_X6_58 in_X6_refuse se_X6_refuse rfl eu19 ⟨Nat.le_of_ble_eq_true rfl, Nat.le_of_ble_eq_true rfl⟩ (Nat.le_of_ble_eq_true rfl) dX6_open_56 ⟨Nat.le_refl _, Nat.le_refl _⟩ rfl ?_
          obtain ⟨rfl, rfl⟩ := x_inj2 hE
          exact y_ret dX6_open_59 (Nat.le_refl _) (Nat.le_refl _) ⟨_, rfl, rfl⟩
        · rw [if_neg hc27] at hE
          refine y_aload_n dX6_open_60 0 rfl ?_
          obtain ⟨a21, ea21, hE⟩ := Option.bind_eq_some_iff.mp hE
          refine y_getR fl_X6_10 ea21 dX6_open_61 ?_
          refine y_iload_n dX6_open_64 2 rfl ?_
          refine y_iload_n dX6_open_65 3 rfl ?_
          obtain ⟨u22, eu22, hE⟩ := Option.bind_eq_some_iff.mp hE
          obtain ⟨q23, eq23, hE⟩ := Option.bind_eq_some_iff.mp hE
          refine y_cVv0 (st := []) (as := [.int p2, .int p3]) (c_X0_openFor eq23) lk_X6_217 in_X0_openFor se_X0_openFor rfl eu22 ⟨Nat.le_of_ble_eq_true rfl, Nat.le_of_ble_eq_true rfl⟩ (Nat.le_of_ble_eq_true rfl) dX6_open_66 ⟨Nat.le_refl _, Nat.le_refl _⟩ rfl ?_
          refine y_aload_n dX6_open_69 0 rfl ?_
          obtain ⟨a24, ea24, hE⟩ := Option.bind_eq_some_iff.mp hE
          refine y_getR fl_X6_10 ea24 dX6_open_70 ?_
          obtain ⟨u25, eu25, hE⟩ := Option.bind_eq_some_iff.mp hE
          obtain ⟨q26, eq26, hE⟩ := Option.bind_eq_some_iff.mp hE
          refine y_cVi0 (st := []) (as := []) (c_X0_openStock eq26) lk_X6_214 in_X0_openStock se_X0_openStock rfl eu25 ⟨Nat.le_of_ble_eq_true rfl, Nat.le_of_ble_eq_true rfl⟩ (Nat.le_of_ble_eq_true rfl) dX6_open_73 ⟨Nat.le_refl _, Nat.le_refl _⟩ rfl ?_
          obtain ⟨rfl, rfl⟩ := x_inj2 hE
          exact y_ret dX6_open_76 (Nat.le_refl _) (Nat.le_refl _) ⟨_, rfl, rfl⟩
def f_X6_reach (n : Nat) (h : xH) (a0 : Nat) (p1 : Int32) : Option (Int32 × xH) :=
  (x_gR h a0 6 0).bind fun a1 =>
  (x_ob h a1 0).bind fun u2 =>
  (f_X0_hasOne h a1 p1).bind fun q3 =>
  if q3 = 0 then
    (x_ob h a0 6).bind fun u4 =>
    (f_X6_refuse h a0 (-2 : Int32)).bind fun q5 =>
    some (q5.1, q5.2)
  else
    (x_gR h a0 6 0).bind fun a6 =>
    (x_gR h a0 6 0).bind fun a7 =>
    (x_gR h a7 0 3).bind fun a8 =>
    (x_ld h a8 p1).bind fun x9 =>
    (x_ob h a6 0).bind fun u10 =>
    (f_X0_reachFrom n h a6 x9).bind fun q11 =>
    some (q11, h)
set_option maxRecDepth 100000 in
set_option maxHeartbeats 4000000 in
theorem c_X6_reach {n : Nat} {h : xH} {a0 : Nat} {p1 : Int32} {r9 : Int32} {hz : xH} (hE : f_X6_reach n h a0 p1 = some (r9, hz)) : Ctr M_X6_reach [.ref a0, .int p1] h (some (.int r9)) hz 0 0 := by
  refine ctr_of (by decide) (fun _ _ => Nat.le_of_ble_eq_true rfl) (fun S => ?_)
  show Y S M_X6_reach h (some (.int r9)) hz 0 0 0 [(0, .ref a0), (1, .int p1)] [] h 0 0
  unfold f_X6_reach at hE
  refine y_aload_n dX6_reach_0 0 rfl ?_
  obtain ⟨a1, ea1, hE⟩ := Option.bind_eq_some_iff.mp hE
  refine y_getR fl_X6_10 ea1 dX6_reach_1 ?_
  refine y_iload_n dX6_reach_4 1 rfl ?_
  obtain ⟨u2, eu2, hE⟩ := Option.bind_eq_some_iff.mp hE
  obtain ⟨q3, eq3, hE⟩ := Option.bind_eq_some_iff.mp hE
  refine y_cVi0 (st := []) (as := [.int p1]) (c_X0_hasOne eq3) lk_X6_157 in_X0_hasOne se_X0_hasOne rfl eu2 ⟨Nat.le_of_ble_eq_true rfl, Nat.le_of_ble_eq_true rfl⟩ (Nat.le_of_ble_eq_true rfl) dX6_reach_5 ⟨Nat.le_refl _, Nat.le_refl _⟩ rfl ?_
  refine y_if_eq (tgt := 30) dX6_reach_8 (by decide) (fun hc12 => ?_) (fun hc12 => ?_)
  · rw [if_pos hc12] at hE
    refine y_aload_n dX6_reach_30 0 rfl ?_
    refine y_bipush (v := (-2 : Int32)) dX6_reach_31 (by decide) ?_
    obtain ⟨u4, eu4, hE⟩ := Option.bind_eq_some_iff.mp hE
    obtain ⟨q5, eq5, hE⟩ := Option.bind_eq_some_iff.mp hE
    refine y_cVi0 (st := []) (as := [.int (-2 : Int32)]) (c_X6_refuse eq5) lk_X6_58 in_X6_refuse se_X6_refuse rfl eu4 ⟨Nat.le_of_ble_eq_true rfl, Nat.le_of_ble_eq_true rfl⟩ (Nat.le_of_ble_eq_true rfl) dX6_reach_33 ⟨Nat.le_refl _, Nat.le_refl _⟩ rfl ?_
    obtain ⟨rfl, rfl⟩ := x_inj2 hE
    exact y_ret dX6_reach_36 (Nat.le_refl _) (Nat.le_refl _) ⟨_, rfl, rfl⟩
  · rw [if_neg hc12] at hE
    refine y_aload_n dX6_reach_11 0 rfl ?_
    obtain ⟨a6, ea6, hE⟩ := Option.bind_eq_some_iff.mp hE
    refine y_getR fl_X6_10 ea6 dX6_reach_12 ?_
    refine y_aload_n dX6_reach_15 0 rfl ?_
    obtain ⟨a7, ea7, hE⟩ := Option.bind_eq_some_iff.mp hE
    refine y_getR fl_X6_10 ea7 dX6_reach_16 ?_
    obtain ⟨a8, ea8, hE⟩ := Option.bind_eq_some_iff.mp hE
    refine y_getR fl_X6_160 ea8 dX6_reach_19 ?_
    refine y_iload_n dX6_reach_22 1 rfl ?_
    obtain ⟨x9, ex9, hE⟩ := Option.bind_eq_some_iff.mp hE
    refine y_iald ex9 dX6_reach_23 ?_
    obtain ⟨u10, eu10, hE⟩ := Option.bind_eq_some_iff.mp hE
    obtain ⟨q11, eq11, hE⟩ := Option.bind_eq_some_iff.mp hE
    refine y_cVi0 (st := []) (as := [.int x9]) (c_X0_reachFrom eq11) lk_X6_220 in_X0_reachFrom se_X0_reachFrom rfl eu10 ⟨Nat.le_of_ble_eq_true rfl, Nat.le_of_ble_eq_true rfl⟩ (Nat.le_of_ble_eq_true rfl) dX6_reach_24 ⟨Nat.le_refl _, Nat.le_refl _⟩ rfl ?_
    refine y_goto (tgt := 36) dX6_reach_27 (by decide) ?_
    obtain ⟨rfl, rfl⟩ := x_inj2 hE
    exact y_ret dX6_reach_36 (Nat.le_refl _) (Nat.le_refl _) ⟨_, rfl, rfl⟩
def f_X6_shutIn (n : Nat) (h : xH) (a0 : Nat) : Option (Int32) :=
  (x_gR h a0 6 0).bind fun a1 =>
  (x_ob h a1 0).bind fun u2 =>
  (f_X0_shutInBits n h a1).bind fun q3 =>
  some q3
set_option maxRecDepth 100000 in
set_option maxHeartbeats 4000000 in
theorem c_X6_shutIn {n : Nat} {h : xH} {a0 : Nat} {r9 : Int32} (hE : f_X6_shutIn n h a0 = some r9) : Ctr M_X6_shutIn [.ref a0] h (some (.int r9)) h 0 0 := by
  refine ctr_of (by decide) (fun _ _ => Nat.le_of_ble_eq_true rfl) (fun S => ?_)
  show Y S M_X6_shutIn h (some (.int r9)) h 0 0 0 [(0, .ref a0)] [] h 0 0
  unfold f_X6_shutIn at hE
  refine y_aload_n dX6_shutIn_0 0 rfl ?_
  obtain ⟨a1, ea1, hE⟩ := Option.bind_eq_some_iff.mp hE
  refine y_getR fl_X6_10 ea1 dX6_shutIn_1 ?_
  obtain ⟨u2, eu2, hE⟩ := Option.bind_eq_some_iff.mp hE
  obtain ⟨q3, eq3, hE⟩ := Option.bind_eq_some_iff.mp hE
  refine y_cVi0 (st := []) (as := []) (c_X0_shutInBits eq3) lk_X6_223 in_X0_shutInBits se_X0_shutInBits rfl eu2 ⟨Nat.le_of_ble_eq_true rfl, Nat.le_of_ble_eq_true rfl⟩ (Nat.le_of_ble_eq_true rfl) dX6_shutIn_4 ⟨Nat.le_refl _, Nat.le_refl _⟩ rfl ?_
  obtain rfl := Option.some.inj hE
  exact y_ret dX6_shutIn_7 (Nat.le_refl _) (Nat.le_refl _) ⟨_, rfl, rfl⟩
def f_X6_fewestTo (n : Nat) (h : xH) (a0 : Nat) (p1 : Int32) (p2 : Int32) : Option ((Int32 × xH) × Nat × Nat) :=
  (x_gR h a0 6 6).bind fun a1 =>
  (x_ob h a1 3).bind fun u2 =>
  (f_X3_forgetGoals h a1).bind fun q3 =>
  (x_gR q3 a0 6 6).bind fun a4 =>
  (x_ob q3 a4 3).bind fun u5 =>
  (f_X3_addGoal q3 a4 p2).bind fun q6 =>
  (x_gR q6 a0 6 6).bind fun a7 =>
  (x_gR q6 a0 6 0).bind fun a8 =>
  (x_ob q6 a7 3).bind fun u9 =>
  (f_X3_fewestFor n q6 a7 a8 p1).bind fun q10 =>
  x_add q10.2.1 q10.2.2 <|
  some ((q10.1.1, q10.1.2), 0, 0)
set_option maxRecDepth 100000 in
set_option maxHeartbeats 4000000 in
theorem c_X6_fewestTo {n : Nat} {h : xH} {a0 : Nat} {p1 : Int32} {p2 : Int32} {r9 : Int32} {hz : xH} {c9 s9 : Nat} (hE : f_X6_fewestTo n h a0 p1 p2 = some ((r9, hz), c9, s9)) : Ctr M_X6_fewestTo [.ref a0, .int p1, .int p2] h (some (.int r9)) hz c9 s9 := by
  refine ctr_of (by decide) (fun _ _ => Nat.le_of_ble_eq_true rfl) (fun S => ?_)
  show Y S M_X6_fewestTo h (some (.int r9)) hz c9 s9 0 [(0, .ref a0), (1, .int p1), (2, .int p2)] [] h 0 0
  unfold f_X6_fewestTo at hE
  refine y_aload_n dX6_fewestTo_0 0 rfl ?_
  obtain ⟨a1, ea1, hE⟩ := Option.bind_eq_some_iff.mp hE
  refine y_getR fl_X6_38 ea1 dX6_fewestTo_1 ?_
  obtain ⟨u2, eu2, hE⟩ := Option.bind_eq_some_iff.mp hE
  obtain ⟨q3, eq3, hE⟩ := Option.bind_eq_some_iff.mp hE
  refine y_cVv0 (st := []) (as := []) (c_X3_forgetGoals eq3) lk_X6_236 in_X3_forgetGoals se_X3_forgetGoals rfl eu2 ⟨Nat.le_of_ble_eq_true rfl, Nat.le_of_ble_eq_true rfl⟩ (Nat.le_of_ble_eq_true rfl) dX6_fewestTo_4 ⟨by omega, by omega⟩ rfl ?_
  refine y_aload_n dX6_fewestTo_7 0 rfl ?_
  obtain ⟨a4, ea4, hE⟩ := Option.bind_eq_some_iff.mp hE
  refine y_getR fl_X6_38 ea4 dX6_fewestTo_8 ?_
  refine y_iload_n dX6_fewestTo_11 2 rfl ?_
  obtain ⟨u5, eu5, hE⟩ := Option.bind_eq_some_iff.mp hE
  obtain ⟨q6, eq6, hE⟩ := Option.bind_eq_some_iff.mp hE
  refine y_cVv0 (st := []) (as := [.int p2]) (c_X3_addGoal eq6) lk_X6_241 in_X3_addGoal se_X3_addGoal rfl eu5 ⟨Nat.le_of_ble_eq_true rfl, Nat.le_of_ble_eq_true rfl⟩ (Nat.le_of_ble_eq_true rfl) dX6_fewestTo_12 ⟨by omega, by omega⟩ rfl ?_
  refine y_aload_n dX6_fewestTo_15 0 rfl ?_
  obtain ⟨a7, ea7, hE⟩ := Option.bind_eq_some_iff.mp hE
  refine y_getR fl_X6_38 ea7 dX6_fewestTo_16 ?_
  refine y_aload_n dX6_fewestTo_19 0 rfl ?_
  obtain ⟨a8, ea8, hE⟩ := Option.bind_eq_some_iff.mp hE
  refine y_getR fl_X6_10 ea8 dX6_fewestTo_20 ?_
  refine y_iload_n dX6_fewestTo_23 1 rfl ?_
  obtain ⟨u9, eu9, hE⟩ := Option.bind_eq_some_iff.mp hE
  obtain ⟨q10, eq10, hE⟩ := Option.bind_eq_some_iff.mp hE
  obtain ⟨c11, s12, hN, ecc11, ess12⟩ := x_add.spec hE
  clear hE; have hE := hN; clear hN
  refine y_cVi1 (st := []) (as := [.ref a8, .int p1]) (c_X3_fewestFor (eq10.trans (show some q10 = some ((q10.1.1, q10.1.2), q10.2.1, q10.2.2) from rfl))) lk_X6_244 in_X3_fewestFor se_X3_fewestFor rfl eu9 ⟨Nat.le_of_ble_eq_true rfl, Nat.le_of_ble_eq_true rfl⟩ (Nat.le_of_ble_eq_true rfl) dX6_fewestTo_24 ⟨by omega, by omega⟩ rfl ?_
  obtain ⟨rfl, rfl, rfl, rfl⟩ := x_inj4 hE
  exact y_ret dX6_fewestTo_27 (by omega) (by omega) ⟨_, rfl, rfl⟩
def f_X6_coming (n : Nat) (h : xH) (a0 : Nat) (p1 : Int32) (p2 : Int32) : Option ((Int32 × xH) × Nat × Nat) :=
  (x_gR h a0 6 0).bind fun a1 =>
  (x_ob h a1 0).bind fun u2 =>
  (f_X0_hasOne h a1 p1).bind fun q3 =>
  if q3 = 0 then
    (x_ob h a0 6).bind fun u4 =>
    (f_X6_refuse h a0 (-2 : Int32)).bind fun q5 =>
    some ((q5.1, q5.2), 0, 0)
  else
    (f_X6_isRoom h p2).bind fun q6 =>
    if q6 = 0 then
      (x_ob h a0 6).bind fun u7 =>
      (f_X6_refuse h a0 (-2 : Int32)).bind fun q8 =>
      some ((q8.1, q8.2), 0, 0)
    else
      (x_gR h a0 6 0).bind fun a9 =>
      (x_gI h a9 0 4).bind fun x10 =>
      if x10 ≤ (9 : Int32) then
        (x_ob h a0 6).bind fun u11 =>
        (f_X6_fewestTo n h a0 p1 p2).bind fun q12 =>
        x_add q12.2.1 q12.2.2 <|
        some ((q12.1.1, q12.1.2), 0, 0)
      else
        (x_ob h a0 6).bind fun u15 =>
        (f_X6_refuse h a0 (-5 : Int32)).bind fun q16 =>
        some ((q16.1, q16.2), 0, 0)
set_option maxRecDepth 100000 in
set_option maxHeartbeats 4000000 in
theorem c_X6_coming {n : Nat} {h : xH} {a0 : Nat} {p1 : Int32} {p2 : Int32} {r9 : Int32} {hz : xH} {c9 s9 : Nat} (hE : f_X6_coming n h a0 p1 p2 = some ((r9, hz), c9, s9)) : Ctr M_X6_coming [.ref a0, .int p1, .int p2] h (some (.int r9)) hz c9 s9 := by
  refine ctr_of (by decide) (fun _ _ => Nat.le_of_ble_eq_true rfl) (fun S => ?_)
  show Y S M_X6_coming h (some (.int r9)) hz c9 s9 0 [(0, .ref a0), (1, .int p1), (2, .int p2)] [] h 0 0
  unfold f_X6_coming at hE
  refine y_aload_n dX6_coming_0 0 rfl ?_
  obtain ⟨a1, ea1, hE⟩ := Option.bind_eq_some_iff.mp hE
  refine y_getR fl_X6_10 ea1 dX6_coming_1 ?_
  refine y_iload_n dX6_coming_4 1 rfl ?_
  obtain ⟨u2, eu2, hE⟩ := Option.bind_eq_some_iff.mp hE
  obtain ⟨q3, eq3, hE⟩ := Option.bind_eq_some_iff.mp hE
  refine y_cVi0 (st := []) (as := [.int p1]) (c_X0_hasOne eq3) lk_X6_157 in_X0_hasOne se_X0_hasOne rfl eu2 ⟨Nat.le_of_ble_eq_true rfl, Nat.le_of_ble_eq_true rfl⟩ (Nat.le_of_ble_eq_true rfl) dX6_coming_5 ⟨by omega, by omega⟩ rfl ?_
  refine y_if_eq (tgt := 18) dX6_coming_8 (by decide) (fun hc19 => ?_) (fun hc19 => ?_)
  · rw [if_pos hc19] at hE
    refine y_aload_n dX6_coming_18 0 rfl ?_
    refine y_bipush (v := (-2 : Int32)) dX6_coming_19 (by decide) ?_
    obtain ⟨u4, eu4, hE⟩ := Option.bind_eq_some_iff.mp hE
    obtain ⟨q5, eq5, hE⟩ := Option.bind_eq_some_iff.mp hE
    refine y_cVi0 (st := []) (as := [.int (-2 : Int32)]) (c_X6_refuse eq5) lk_X6_58 in_X6_refuse se_X6_refuse rfl eu4 ⟨Nat.le_of_ble_eq_true rfl, Nat.le_of_ble_eq_true rfl⟩ (Nat.le_of_ble_eq_true rfl) dX6_coming_21 ⟨by omega, by omega⟩ rfl ?_
    obtain ⟨rfl, rfl, rfl, rfl⟩ := x_inj4 hE
    exact y_ret dX6_coming_24 (by omega) (by omega) ⟨_, rfl, rfl⟩
  · rw [if_neg hc19] at hE
    refine y_iload_n dX6_coming_11 2 rfl ?_
    obtain ⟨q6, eq6, hE⟩ := Option.bind_eq_some_iff.mp hE
    refine y_cSi0 (st := []) (as := [.int p2]) (c_X6_isRoom eq6) lk_X6_129 st_X6_isRoom ⟨Nat.le_of_ble_eq_true rfl, Nat.le_of_ble_eq_true rfl⟩ (Nat.le_of_ble_eq_true rfl) dX6_coming_12 ⟨by omega, by omega⟩ rfl ?_
    refine y_if_ne (tgt := 25) dX6_coming_15 (by decide) (fun hc18 => ?_) (fun hc18 => ?_)
    · rw [if_pos hc18] at hE
      refine y_aload_n dX6_coming_18 0 rfl ?_
      refine y_bipush (v := (-2 : Int32)) dX6_coming_19 (by decide) ?_
      obtain ⟨u7, eu7, hE⟩ := Option.bind_eq_some_iff.mp hE
      obtain ⟨q8, eq8, hE⟩ := Option.bind_eq_some_iff.mp hE
      refine y_cVi0 (st := []) (as := [.int (-2 : Int32)]) (c_X6_refuse eq8) lk_X6_58 in_X6_refuse se_X6_refuse rfl eu7 ⟨Nat.le_of_ble_eq_true rfl, Nat.le_of_ble_eq_true rfl⟩ (Nat.le_of_ble_eq_true rfl) dX6_coming_21 ⟨by omega, by omega⟩ rfl ?_
      obtain ⟨rfl, rfl, rfl, rfl⟩ := x_inj4 hE
      exact y_ret dX6_coming_24 (by omega) (by omega) ⟨_, rfl, rfl⟩
    · rw [if_neg hc18] at hE
      refine y_aload_n dX6_coming_25 0 rfl ?_
      obtain ⟨a9, ea9, hE⟩ := Option.bind_eq_some_iff.mp hE
      refine y_getR fl_X6_10 ea9 dX6_coming_26 ?_
      obtain ⟨x10, ex10, hE⟩ := Option.bind_eq_some_iff.mp hE
      refine y_getI fl_X6_132 ex10 dX6_coming_29 ?_
      refine y_bipush (v := (9 : Int32)) dX6_coming_32 (by decide) ?_
      refine y_icmp_le (tgt := 44) dX6_coming_34 (by decide) (fun hc17 => ?_) (fun hc17 => ?_)
      · rw [if_pos hc17] at hE
        refine y_aload_n dX6_coming_44 0 rfl ?_
        refine y_iload_n dX6_coming_45 1 rfl ?_
        refine y_iload_n dX6_coming_46 2 rfl ?_
        obtain ⟨u11, eu11, hE⟩ := Option.bind_eq_some_iff.mp hE
        obtain ⟨q12, eq12, hE⟩ := Option.bind_eq_some_iff.mp hE
        obtain ⟨c13, s14, hN, ecc13, ess14⟩ := x_add.spec hE
        clear hE; have hE := hN; clear hN
        refine y_cVi1 (st := []) (as := [.int p1, .int p2]) (c_X6_fewestTo (eq12.trans (show some q12 = some ((q12.1.1, q12.1.2), q12.2.1, q12.2.2) from rfl))) lk_X6_226 in_X6_fewestTo se_X6_fewestTo rfl eu11 ⟨Nat.le_of_ble_eq_true rfl, Nat.le_of_ble_eq_true rfl⟩ (Nat.le_of_ble_eq_true rfl) dX6_coming_47 ⟨by omega, by omega⟩ rfl ?_
        obtain ⟨rfl, rfl, rfl, rfl⟩ := x_inj4 hE
        exact y_ret dX6_coming_50 (by omega) (by omega) ⟨_, rfl, rfl⟩
      · rw [if_neg hc17] at hE
        refine y_aload_n dX6_coming_37 0 rfl ?_
        refine y_bipush (v := (-5 : Int32)) dX6_coming_38 (by decide) ?_
        obtain ⟨u15, eu15, hE⟩ := Option.bind_eq_some_iff.mp hE
        obtain ⟨q16, eq16, hE⟩ := Option.bind_eq_some_iff.mp hE
        refine y_cVi0 (st := []) (as := [.int (-5 : Int32)]) (c_X6_refuse eq16) lk_X6_58 in_X6_refuse se_X6_refuse rfl eu15 ⟨Nat.le_of_ble_eq_true rfl, Nat.le_of_ble_eq_true rfl⟩ (Nat.le_of_ble_eq_true rfl) dX6_coming_40 ⟨by omega, by omega⟩ rfl ?_
        obtain ⟨rfl, rfl, rfl, rfl⟩ := x_inj4 hE
        exact y_ret dX6_coming_43 (by omega) (by omega) ⟨_, rfl, rfl⟩
def f_X6_all (n : Nat) (h : xH) (a0 : Nat) (p1 : Int32) : Option ((Int32 × xH) × Nat × Nat) :=
  (x_gR h a0 6 0).bind fun a1 =>
  (x_ob h a1 0).bind fun u2 =>
  (f_X0_hasOne h a1 p1).bind fun q3 =>
  if q3 = 0 then
    (x_ob h a0 6).bind fun u4 =>
    (f_X6_refuse h a0 (-2 : Int32)).bind fun q5 =>
    some ((q5.1, q5.2), 0, 0)
  else
    (x_gR h a0 6 0).bind fun a6 =>
    (x_gI h a6 0 4).bind fun x7 =>
    if x7 ≤ (9 : Int32) then
      (x_gR h a0 6 6).bind fun a8 =>
      (x_gR h a0 6 0).bind fun a9 =>
      (x_ob h a8 3).bind fun u10 =>
      (f_X3_roomsFor n h a8 a9 p1).bind fun q11 =>
      x_add q11.2.1 q11.2.2 <|
      some ((q11.1.1, q11.1.2), 0, 0)
    else
      (x_ob h a0 6).bind fun u14 =>
      (f_X6_refuse h a0 (-5 : Int32)).bind fun q15 =>
      some ((q15.1, q15.2), 0, 0)
set_option maxRecDepth 100000 in
set_option maxHeartbeats 4000000 in
theorem c_X6_all {n : Nat} {h : xH} {a0 : Nat} {p1 : Int32} {r9 : Int32} {hz : xH} {c9 s9 : Nat} (hE : f_X6_all n h a0 p1 = some ((r9, hz), c9, s9)) : Ctr M_X6_all [.ref a0, .int p1] h (some (.int r9)) hz c9 s9 := by
  refine ctr_of (by decide) (fun _ _ => Nat.le_of_ble_eq_true rfl) (fun S => ?_)
  show Y S M_X6_all h (some (.int r9)) hz c9 s9 0 [(0, .ref a0), (1, .int p1)] [] h 0 0
  unfold f_X6_all at hE
  refine y_aload_n dX6_all_0 0 rfl ?_
  obtain ⟨a1, ea1, hE⟩ := Option.bind_eq_some_iff.mp hE
  refine y_getR fl_X6_10 ea1 dX6_all_1 ?_
  refine y_iload_n dX6_all_4 1 rfl ?_
  obtain ⟨u2, eu2, hE⟩ := Option.bind_eq_some_iff.mp hE
  obtain ⟨q3, eq3, hE⟩ := Option.bind_eq_some_iff.mp hE
  refine y_cVi0 (st := []) (as := [.int p1]) (c_X0_hasOne eq3) lk_X6_157 in_X0_hasOne se_X0_hasOne rfl eu2 ⟨Nat.le_of_ble_eq_true rfl, Nat.le_of_ble_eq_true rfl⟩ (Nat.le_of_ble_eq_true rfl) dX6_all_5 ⟨by omega, by omega⟩ rfl ?_
  refine y_if_ne (tgt := 18) dX6_all_8 (by decide) (fun hc17 => ?_) (fun hc17 => ?_)
  · rw [if_pos hc17] at hE
    refine y_aload_n dX6_all_11 0 rfl ?_
    refine y_bipush (v := (-2 : Int32)) dX6_all_12 (by decide) ?_
    obtain ⟨u4, eu4, hE⟩ := Option.bind_eq_some_iff.mp hE
    obtain ⟨q5, eq5, hE⟩ := Option.bind_eq_some_iff.mp hE
    refine y_cVi0 (st := []) (as := [.int (-2 : Int32)]) (c_X6_refuse eq5) lk_X6_58 in_X6_refuse se_X6_refuse rfl eu4 ⟨Nat.le_of_ble_eq_true rfl, Nat.le_of_ble_eq_true rfl⟩ (Nat.le_of_ble_eq_true rfl) dX6_all_14 ⟨by omega, by omega⟩ rfl ?_
    obtain ⟨rfl, rfl, rfl, rfl⟩ := x_inj4 hE
    exact y_ret dX6_all_17 (by omega) (by omega) ⟨_, rfl, rfl⟩
  · rw [if_neg hc17] at hE
    refine y_aload_n dX6_all_18 0 rfl ?_
    obtain ⟨a6, ea6, hE⟩ := Option.bind_eq_some_iff.mp hE
    refine y_getR fl_X6_10 ea6 dX6_all_19 ?_
    obtain ⟨x7, ex7, hE⟩ := Option.bind_eq_some_iff.mp hE
    refine y_getI fl_X6_132 ex7 dX6_all_22 ?_
    refine y_bipush (v := (9 : Int32)) dX6_all_25 (by decide) ?_
    refine y_icmp_le (tgt := 37) dX6_all_27 (by decide) (fun hc16 => ?_) (fun hc16 => ?_)
    · rw [if_pos hc16] at hE
      refine y_aload_n dX6_all_37 0 rfl ?_
      obtain ⟨a8, ea8, hE⟩ := Option.bind_eq_some_iff.mp hE
      refine y_getR fl_X6_38 ea8 dX6_all_38 ?_
      refine y_aload_n dX6_all_41 0 rfl ?_
      obtain ⟨a9, ea9, hE⟩ := Option.bind_eq_some_iff.mp hE
      refine y_getR fl_X6_10 ea9 dX6_all_42 ?_
      refine y_iload_n dX6_all_45 1 rfl ?_
      obtain ⟨u10, eu10, hE⟩ := Option.bind_eq_some_iff.mp hE
      obtain ⟨q11, eq11, hE⟩ := Option.bind_eq_some_iff.mp hE
      obtain ⟨c12, s13, hN, ecc12, ess13⟩ := x_add.spec hE
      clear hE; have hE := hN; clear hN
      refine y_cVi1 (st := []) (as := [.ref a9, .int p1]) (c_X3_roomsFor (eq11.trans (show some q11 = some ((q11.1.1, q11.1.2), q11.2.1, q11.2.2) from rfl))) lk_X6_229 in_X3_roomsFor se_X3_roomsFor rfl eu10 ⟨Nat.le_of_ble_eq_true rfl, Nat.le_of_ble_eq_true rfl⟩ (Nat.le_of_ble_eq_true rfl) dX6_all_46 ⟨by omega, by omega⟩ rfl ?_
      obtain ⟨rfl, rfl, rfl, rfl⟩ := x_inj4 hE
      exact y_ret dX6_all_49 (by omega) (by omega) ⟨_, rfl, rfl⟩
    · rw [if_neg hc16] at hE
      refine y_aload_n dX6_all_30 0 rfl ?_
      refine y_bipush (v := (-5 : Int32)) dX6_all_31 (by decide) ?_
      obtain ⟨u14, eu14, hE⟩ := Option.bind_eq_some_iff.mp hE
      obtain ⟨q15, eq15, hE⟩ := Option.bind_eq_some_iff.mp hE
      refine y_cVi0 (st := []) (as := [.int (-5 : Int32)]) (c_X6_refuse eq15) lk_X6_58 in_X6_refuse se_X6_refuse rfl eu14 ⟨Nat.le_of_ble_eq_true rfl, Nat.le_of_ble_eq_true rfl⟩ (Nat.le_of_ble_eq_true rfl) dX6_all_33 ⟨by omega, by omega⟩ rfl ?_
      obtain ⟨rfl, rfl, rfl, rfl⟩ := x_inj4 hE
      exact y_ret dX6_all_36 (by omega) (by omega) ⟨_, rfl, rfl⟩
def f_X6_first (n : Nat) (h : xH) (a0 : Nat) (p1 : Int32) (p2 : Int32) : Option ((Int32 × xH) × Nat × Nat) :=
  (x_gR h a0 6 0).bind fun a1 =>
  (x_ob h a1 0).bind fun u2 =>
  (f_X0_hasOne h a1 p1).bind fun q3 =>
  if q3 = 0 then
    (x_ob h a0 6).bind fun u4 =>
    (f_X6_refuse h a0 (-2 : Int32)).bind fun q5 =>
    some ((q5.1, q5.2), 0, 0)
  else
    (f_X6_isRoom h p2).bind fun q6 =>
    if q6 = 0 then
      (x_ob h a0 6).bind fun u7 =>
      (f_X6_refuse h a0 (-2 : Int32)).bind fun q8 =>
      some ((q8.1, q8.2), 0, 0)
    else
      (x_gR h a0 6 0).bind fun a9 =>
      (x_gI h a9 0 4).bind fun x10 =>
      if x10 ≤ (9 : Int32) then
        (x_ob h a0 6).bind fun u11 =>
        (f_X6_fewestTo n h a0 p1 p2).bind fun q12 =>
        x_add q12.2.1 q12.2.2 <|
        if q12.1.1 ≤ 0 then
          some (((-1 : Int32), q12.1.2), 0, 0)
        else
          (x_gR q12.1.2 a0 6 6).bind fun a15 =>
          (x_ob q12.1.2 a15 3).bind fun u16 =>
          (f_X3_leastFirst q12.1.2 a15).bind fun q17 =>
          some ((q17, q12.1.2), 0, 0)
      else
        (x_ob h a0 6).bind fun u19 =>
        (f_X6_refuse h a0 (-5 : Int32)).bind fun q20 =>
        some ((q20.1, q20.2), 0, 0)
set_option maxRecDepth 100000 in
set_option maxHeartbeats 4000000 in
theorem c_X6_first {n : Nat} {h : xH} {a0 : Nat} {p1 : Int32} {p2 : Int32} {r9 : Int32} {hz : xH} {c9 s9 : Nat} (hE : f_X6_first n h a0 p1 p2 = some ((r9, hz), c9, s9)) : Ctr M_X6_first [.ref a0, .int p1, .int p2] h (some (.int r9)) hz c9 s9 := by
  refine ctr_of (by decide) (fun _ _ => Nat.le_of_ble_eq_true rfl) (fun S => ?_)
  show Y S M_X6_first h (some (.int r9)) hz c9 s9 0 [(0, .ref a0), (1, .int p1), (2, .int p2)] [] h 0 0
  unfold f_X6_first at hE
  refine y_aload_n dX6_first_0 0 rfl ?_
  obtain ⟨a1, ea1, hE⟩ := Option.bind_eq_some_iff.mp hE
  refine y_getR fl_X6_10 ea1 dX6_first_1 ?_
  refine y_iload_n dX6_first_4 1 rfl ?_
  obtain ⟨u2, eu2, hE⟩ := Option.bind_eq_some_iff.mp hE
  obtain ⟨q3, eq3, hE⟩ := Option.bind_eq_some_iff.mp hE
  refine y_cVi0 (st := []) (as := [.int p1]) (c_X0_hasOne eq3) lk_X6_157 in_X0_hasOne se_X0_hasOne rfl eu2 ⟨Nat.le_of_ble_eq_true rfl, Nat.le_of_ble_eq_true rfl⟩ (Nat.le_of_ble_eq_true rfl) dX6_first_5 ⟨by omega, by omega⟩ rfl ?_
  refine y_if_eq (tgt := 18) dX6_first_8 (by decide) (fun hc23 => ?_) (fun hc23 => ?_)
  · rw [if_pos hc23] at hE
    refine y_aload_n dX6_first_18 0 rfl ?_
    refine y_bipush (v := (-2 : Int32)) dX6_first_19 (by decide) ?_
    obtain ⟨u4, eu4, hE⟩ := Option.bind_eq_some_iff.mp hE
    obtain ⟨q5, eq5, hE⟩ := Option.bind_eq_some_iff.mp hE
    refine y_cVi0 (st := []) (as := [.int (-2 : Int32)]) (c_X6_refuse eq5) lk_X6_58 in_X6_refuse se_X6_refuse rfl eu4 ⟨Nat.le_of_ble_eq_true rfl, Nat.le_of_ble_eq_true rfl⟩ (Nat.le_of_ble_eq_true rfl) dX6_first_21 ⟨by omega, by omega⟩ rfl ?_
    obtain ⟨rfl, rfl, rfl, rfl⟩ := x_inj4 hE
    exact y_ret dX6_first_24 (by omega) (by omega) ⟨_, rfl, rfl⟩
  · rw [if_neg hc23] at hE
    refine y_iload_n dX6_first_11 2 rfl ?_
    obtain ⟨q6, eq6, hE⟩ := Option.bind_eq_some_iff.mp hE
    refine y_cSi0 (st := []) (as := [.int p2]) (c_X6_isRoom eq6) lk_X6_129 st_X6_isRoom ⟨Nat.le_of_ble_eq_true rfl, Nat.le_of_ble_eq_true rfl⟩ (Nat.le_of_ble_eq_true rfl) dX6_first_12 ⟨by omega, by omega⟩ rfl ?_
    refine y_if_ne (tgt := 25) dX6_first_15 (by decide) (fun hc22 => ?_) (fun hc22 => ?_)
    · rw [if_pos hc22] at hE
      refine y_aload_n dX6_first_18 0 rfl ?_
      refine y_bipush (v := (-2 : Int32)) dX6_first_19 (by decide) ?_
      obtain ⟨u7, eu7, hE⟩ := Option.bind_eq_some_iff.mp hE
      obtain ⟨q8, eq8, hE⟩ := Option.bind_eq_some_iff.mp hE
      refine y_cVi0 (st := []) (as := [.int (-2 : Int32)]) (c_X6_refuse eq8) lk_X6_58 in_X6_refuse se_X6_refuse rfl eu7 ⟨Nat.le_of_ble_eq_true rfl, Nat.le_of_ble_eq_true rfl⟩ (Nat.le_of_ble_eq_true rfl) dX6_first_21 ⟨by omega, by omega⟩ rfl ?_
      obtain ⟨rfl, rfl, rfl, rfl⟩ := x_inj4 hE
      exact y_ret dX6_first_24 (by omega) (by omega) ⟨_, rfl, rfl⟩
    · rw [if_neg hc22] at hE
      refine y_aload_n dX6_first_25 0 rfl ?_
      obtain ⟨a9, ea9, hE⟩ := Option.bind_eq_some_iff.mp hE
      refine y_getR fl_X6_10 ea9 dX6_first_26 ?_
      obtain ⟨x10, ex10, hE⟩ := Option.bind_eq_some_iff.mp hE
      refine y_getI fl_X6_132 ex10 dX6_first_29 ?_
      refine y_bipush (v := (9 : Int32)) dX6_first_32 (by decide) ?_
      refine y_icmp_le (tgt := 44) dX6_first_34 (by decide) (fun hc21 => ?_) (fun hc21 => ?_)
      · rw [if_pos hc21] at hE
        refine y_aload_n dX6_first_44 0 rfl ?_
        refine y_iload_n dX6_first_45 1 rfl ?_
        refine y_iload_n dX6_first_46 2 rfl ?_
        obtain ⟨u11, eu11, hE⟩ := Option.bind_eq_some_iff.mp hE
        obtain ⟨q12, eq12, hE⟩ := Option.bind_eq_some_iff.mp hE
        obtain ⟨c13, s14, hN, ecc13, ess14⟩ := x_add.spec hE
        clear hE; have hE := hN; clear hN
        refine y_cVi1 (st := []) (as := [.int p1, .int p2]) (c_X6_fewestTo (eq12.trans (show some q12 = some ((q12.1.1, q12.1.2), q12.2.1, q12.2.2) from rfl))) lk_X6_226 in_X6_fewestTo se_X6_fewestTo rfl eu11 ⟨Nat.le_of_ble_eq_true rfl, Nat.le_of_ble_eq_true rfl⟩ (Nat.le_of_ble_eq_true rfl) dX6_first_47 ⟨by omega, by omega⟩ rfl ?_
        refine y_if_le (tgt := 63) dX6_first_50 (by decide) (fun hc18 => ?_) (fun hc18 => ?_)
        · rw [if_pos hc18] at hE
          refine y_iconst (v := (-1 : Int32)) dX6_first_63 (by decide) ?_
          obtain ⟨rfl, rfl, rfl, rfl⟩ := x_inj4 hE
          exact y_ret dX6_first_64 (by omega) (by omega) ⟨_, rfl, rfl⟩
        · rw [if_neg hc18] at hE
          refine y_aload_n dX6_first_53 0 rfl ?_
          obtain ⟨a15, ea15, hE⟩ := Option.bind_eq_some_iff.mp hE
          refine y_getR fl_X6_38 ea15 dX6_first_54 ?_
          obtain ⟨u16, eu16, hE⟩ := Option.bind_eq_some_iff.mp hE
          obtain ⟨q17, eq17, hE⟩ := Option.bind_eq_some_iff.mp hE
          refine y_cVi0 (st := []) (as := []) (c_X3_leastFirst eq17) lk_X6_233 in_X3_leastFirst se_X3_leastFirst rfl eu16 ⟨Nat.le_of_ble_eq_true rfl, Nat.le_of_ble_eq_true rfl⟩ (Nat.le_of_ble_eq_true rfl) dX6_first_57 ⟨by omega, by omega⟩ rfl ?_
          refine y_goto (tgt := 64) dX6_first_60 (by decide) ?_
          obtain ⟨rfl, rfl, rfl, rfl⟩ := x_inj4 hE
          exact y_ret dX6_first_64 (by omega) (by omega) ⟨_, rfl, rfl⟩
      · rw [if_neg hc21] at hE
        refine y_aload_n dX6_first_37 0 rfl ?_
        refine y_bipush (v := (-5 : Int32)) dX6_first_38 (by decide) ?_
        obtain ⟨u19, eu19, hE⟩ := Option.bind_eq_some_iff.mp hE
        obtain ⟨q20, eq20, hE⟩ := Option.bind_eq_some_iff.mp hE
        refine y_cVi0 (st := []) (as := [.int (-5 : Int32)]) (c_X6_refuse eq20) lk_X6_58 in_X6_refuse se_X6_refuse rfl eu19 ⟨Nat.le_of_ble_eq_true rfl, Nat.le_of_ble_eq_true rfl⟩ (Nat.le_of_ble_eq_true rfl) dX6_first_40 ⟨by omega, by omega⟩ rfl ?_
        obtain ⟨rfl, rfl, rfl, rfl⟩ := x_inj4 hE
        exact y_ret dX6_first_43 (by omega) (by omega) ⟨_, rfl, rfl⟩
def f_X6_errands_L91 (v0 : Nat) (v1 : Int32) (v3 : Int32) (v4 : Nat) : Nat → Int32 → xH → Option (Sum (Int32 × xH) (xH))
  | 0, _, _ => none
  | k + 1, v6, h =>
    if v3 ≤ v6 then
      some (.inr h)
    else
      (x_gR h v4 4 2).bind fun a19 =>
      (x_ldL h a19 v6).bind fun x20 =>
      if (lg_cmp x20 (0 : Int64)) < 0 then
        some (.inl ((-1 : Int32), h))
      else
        if (lg_cmp x20 (8 : Int64)) < 0 then
          (x_gR h v0 6 6).bind fun a21 =>
          (x_ob h a21 3).bind fun u22 =>
          (f_X3_addGoal h a21 x20.toInt32).bind fun q23 =>
          (some (v6 + (1 : Int32))).bind fun x24 =>
          f_X6_errands_L91 v0 v1 v3 v4 k x24 q23
        else
          some (.inl ((-1 : Int32), h))
set_option maxRecDepth 100000 in
set_option maxHeartbeats 4000000 in
theorem l_X6_errands_91 {S : Nat × (Nat → Int32)} {rv : Option Value} {h0 h1 : xH} {mc ms : Nat} {cells slots : Nat} (hm : cells ≤ mc ∧ slots ≤ ms) (v0 : Nat) (v1 : Int32) (v3 : Int32) (v4 : Nat) : ∀ (k : Nat) (v6 : Int32) (h : xH) (res : Sum (Int32 × xH) (xH)), f_X6_errands_L91 v0 v1 v3 v4 k v6 h = some res → (∀ r9, res = .inl r9 → rv = some (.int r9.1) ∧ h1 = r9.2) → (∀ r9, res = .inr r9 → Y S M_X6_errands h0 rv h1 mc ms 141 [(0, .ref v0), (1, .int v1)] [] r9 cells slots) → Y S M_X6_errands h0 rv h1 mc ms 91 [(0, .ref v0), (1, .int v1), (3, .int v3), (4, .ref v4), (6, .int v6)] [] h cells slots := by
  intro k
  induction k with
  | zero =>
    intro _ _ _ hE
    cases hE
  | succ k ih =>
    intro v6 h res hE KR K
    unfold f_X6_errands_L91 at hE
    refine y_iload dX6_errands_91 4 rfl ?_
    refine y_iload_n dX6_errands_93 2 rfl ?_
    refine y_icmp_ge (tgt := 141) dX6_errands_94 (by decide) (fun hc27 => ?_) (fun hc27 => ?_)
    · rw [if_pos hc27] at hE
      obtain rfl := Option.some.inj hE
      exact y_pick [0, 1] rfl (K _ rfl)
    · rw [if_neg hc27] at hE
      refine y_aload dX6_errands_97 3 rfl ?_
      obtain ⟨a19, ea19, hE⟩ := Option.bind_eq_some_iff.mp hE
      refine y_getR fl_X6_92 ea19 dX6_errands_99 ?_
      refine y_iload dX6_errands_102 4 rfl ?_
      obtain ⟨x20, ex20, hE⟩ := Option.bind_eq_some_iff.mp hE
      refine y_lald ex20 dX6_errands_104 ?_
      refine y_lstore (ls' := [(7, .long x20), (0, .ref v0), (1, .int v1), (3, .int v3), (4, .ref v4), (6, .int v6)]) dX6_errands_105 (by decide) rfl rfl ?_
      refine y_lload dX6_errands_107 0 rfl ?_
      refine y_lconst (v := (0 : Int64)) dX6_errands_109 (by decide) ?_
      refine y_lcmp dX6_errands_110 ?_
      refine y_if_lt (tgt := 123) dX6_errands_111 (by decide) (fun hc26 => ?_) (fun hc26 => ?_)
      · rw [if_pos hc26] at hE
        refine y_iconst (v := (-1 : Int32)) dX6_errands_123 (by decide) ?_
        obtain rfl := Option.some.inj hE
        obtain ⟨rfl, rfl⟩ := KR _ rfl
        dsimp only
        exact y_ret dX6_errands_124 hm.1 hm.2 ⟨_, rfl, rfl⟩
      · rw [if_neg hc26] at hE
        refine y_lload dX6_errands_114 0 rfl ?_
        refine y_ldc2 (v := (8 : Int64)) (x_wt (tb 785 (by decide +kernel)) rfl) dX6_errands_116 ?_
        refine y_lcmp dX6_errands_119 ?_
        refine y_if_lt (tgt := 125) dX6_errands_120 (by decide) (fun hc25 => ?_) (fun hc25 => ?_)
        · rw [if_pos hc25] at hE
          refine y_aload_n dX6_errands_125 1 rfl ?_
          obtain ⟨a21, ea21, hE⟩ := Option.bind_eq_some_iff.mp hE
          refine y_getR fl_X6_38 ea21 dX6_errands_126 ?_
          refine y_lload dX6_errands_129 0 rfl ?_
          refine y_l2i dX6_errands_131 ?_
          obtain ⟨u22, eu22, hE⟩ := Option.bind_eq_some_iff.mp hE
          obtain ⟨q23, eq23, hE⟩ := Option.bind_eq_some_iff.mp hE
          refine y_cVv0 (st := []) (as := [.int x20.toInt32]) (c_X3_addGoal eq23) lk_X6_241 in_X3_addGoal se_X3_addGoal rfl eu22 ⟨Nat.le_of_ble_eq_true rfl, Nat.le_of_ble_eq_true rfl⟩ (Nat.le_of_ble_eq_true rfl) dX6_errands_132 hm rfl ?_
          obtain ⟨x24, ex24, hE⟩ := Option.bind_eq_some_iff.mp hE
          refine y_iinc (ls' := [(6, .int x24), (7, .long x20), (0, .ref v0), (1, .int v1), (3, .int v3), (4, .ref v4)]) dX6_errands_135 5 rfl (Option.some.inj ex24) (by decide) rfl ?_
          refine y_goto (tgt := 91) dX6_errands_138 (by decide) ?_
          refine y_pick [2, 3, 4, 5, 0] rfl ?_
          exact ih _ _ _ hE KR K
        · rw [if_neg hc25] at hE
          refine y_iconst (v := (-1 : Int32)) dX6_errands_123 (by decide) ?_
          obtain rfl := Option.some.inj hE
          obtain ⟨rfl, rfl⟩ := KR _ rfl
          dsimp only
          exact y_ret dX6_errands_124 hm.1 hm.2 ⟨_, rfl, rfl⟩
def f_X6_errands (n : Nat) (h : xH) (a0 : Nat) (p1 : Int32) (p2 : Int32) (p3 : Int32) : Option ((Int32 × xH) × Nat × Nat) :=
  (x_gR h a0 6 0).bind fun a1 =>
  (x_ob h a1 0).bind fun u2 =>
  (f_X0_hasOne h a1 p1).bind fun q3 =>
  if q3 = 0 then
    (x_ob h a0 6).bind fun u4 =>
    (f_X6_refuse h a0 (-2 : Int32)).bind fun q5 =>
    some ((q5.1, q5.2), 0, 0)
  else
    (f_X6_isShelf h p2).bind fun q6 =>
    if q6 = 0 then
      (x_ob h a0 6).bind fun u7 =>
      (f_X6_refuse h a0 (-2 : Int32)).bind fun q8 =>
      some ((q8.1, q8.2), 0, 0)
    else
      if p3 < 0 then
        (x_ob h a0 6).bind fun u9 =>
        (f_X6_refuse h a0 (-2 : Int32)).bind fun q10 =>
        some ((q10.1, q10.2), 0, 0)
      else
        if p3 ≤ (4 : Int32) then
          (x_gR h a0 6 4).bind fun a11 =>
          (x_ldQ h a11 p2).bind fun a12 =>
          (f_X6_rowRefusal h a12 p3).bind fun q13 =>
          if q13 = 0 then
            (x_gR h a0 6 0).bind fun a14 =>
            (x_gI h a14 0 4).bind fun x15 =>
            if x15 ≤ (9 : Int32) then
              (x_gR h a0 6 6).bind fun a16 =>
              (x_ob h a16 3).bind fun u17 =>
              (f_X3_forgetGoals h a16).bind fun q18 =>
              (f_X6_errands_L91 a0 p1 p3 a12 n (0 : Int32) q18).bind fun q28 =>
              match q28 with
              | .inl r29 => some (r29, 0, 0)
              | .inr e30 =>
                (x_gR e30 a0 6 6).bind fun a31 =>
                (x_gR e30 a0 6 0).bind fun a32 =>
                (x_ob e30 a31 3).bind fun u33 =>
                (f_X3_fewestFor n e30 a31 a32 p1).bind fun q34 =>
                x_add q34.2.1 q34.2.2 <|
                some ((q34.1.1, q34.1.2), 0, 0)
            else
              (x_ob h a0 6).bind fun u37 =>
              (f_X6_refuse h a0 (-5 : Int32)).bind fun q38 =>
              some ((q38.1, q38.2), 0, 0)
          else
            (x_ob h a0 6).bind fun u40 =>
            (f_X6_refuse h a0 q13).bind fun q41 =>
            some ((q41.1, q41.2), 0, 0)
        else
          (x_ob h a0 6).bind fun u43 =>
          (f_X6_refuse h a0 (-2 : Int32)).bind fun q44 =>
          some ((q44.1, q44.2), 0, 0)
set_option maxRecDepth 100000 in
set_option maxHeartbeats 4000000 in
theorem c_X6_errands {n : Nat} {h : xH} {a0 : Nat} {p1 : Int32} {p2 : Int32} {p3 : Int32} {r9 : Int32} {hz : xH} {c9 s9 : Nat} (hE : f_X6_errands n h a0 p1 p2 p3 = some ((r9, hz), c9, s9)) : Ctr M_X6_errands [.ref a0, .int p1, .int p2, .int p3] h (some (.int r9)) hz c9 s9 := by
  refine ctr_of (by decide) (fun _ _ => Nat.le_of_ble_eq_true rfl) (fun S => ?_)
  show Y S M_X6_errands h (some (.int r9)) hz c9 s9 0 [(0, .ref a0), (1, .int p1), (2, .int p2), (3, .int p3)] [] h 0 0
  unfold f_X6_errands at hE
  refine y_aload_n dX6_errands_0 0 rfl ?_
  obtain ⟨a1, ea1, hE⟩ := Option.bind_eq_some_iff.mp hE
  refine y_getR fl_X6_10 ea1 dX6_errands_1 ?_
  refine y_iload_n dX6_errands_4 1 rfl ?_
  obtain ⟨u2, eu2, hE⟩ := Option.bind_eq_some_iff.mp hE
  obtain ⟨q3, eq3, hE⟩ := Option.bind_eq_some_iff.mp hE
  refine y_cVi0 (st := []) (as := [.int p1]) (c_X0_hasOne eq3) lk_X6_157 in_X0_hasOne se_X0_hasOne rfl eu2 ⟨Nat.le_of_ble_eq_true rfl, Nat.le_of_ble_eq_true rfl⟩ (Nat.le_of_ble_eq_true rfl) dX6_errands_5 ⟨by omega, by omega⟩ rfl ?_
  refine y_if_eq (tgt := 27) dX6_errands_8 (by decide) (fun hc48 => ?_) (fun hc48 => ?_)
  · rw [if_pos hc48] at hE
    refine y_aload_n dX6_errands_27 0 rfl ?_
    refine y_bipush (v := (-2 : Int32)) dX6_errands_28 (by decide) ?_
    obtain ⟨u4, eu4, hE⟩ := Option.bind_eq_some_iff.mp hE
    obtain ⟨q5, eq5, hE⟩ := Option.bind_eq_some_iff.mp hE
    refine y_cVi0 (st := []) (as := [.int (-2 : Int32)]) (c_X6_refuse eq5) lk_X6_58 in_X6_refuse se_X6_refuse rfl eu4 ⟨Nat.le_of_ble_eq_true rfl, Nat.le_of_ble_eq_true rfl⟩ (Nat.le_of_ble_eq_true rfl) dX6_errands_30 ⟨by omega, by omega⟩ rfl ?_
    obtain ⟨rfl, rfl, rfl, rfl⟩ := x_inj4 hE
    exact y_ret dX6_errands_33 (by omega) (by omega) ⟨_, rfl, rfl⟩
  · rw [if_neg hc48] at hE
    refine y_iload_n dX6_errands_11 2 rfl ?_
    obtain ⟨q6, eq6, hE⟩ := Option.bind_eq_some_iff.mp hE
    refine y_cSi0 (st := []) (as := [.int p2]) (c_X6_isShelf eq6) lk_X6_54 st_X6_isShelf ⟨Nat.le_of_ble_eq_true rfl, Nat.le_of_ble_eq_true rfl⟩ (Nat.le_of_ble_eq_true rfl) dX6_errands_12 ⟨by omega, by omega⟩ rfl ?_
    refine y_if_eq (tgt := 27) dX6_errands_15 (by decide) (fun hc47 => ?_) (fun hc47 => ?_)
    · rw [if_pos hc47] at hE
      refine y_aload_n dX6_errands_27 0 rfl ?_
      refine y_bipush (v := (-2 : Int32)) dX6_errands_28 (by decide) ?_
      obtain ⟨u7, eu7, hE⟩ := Option.bind_eq_some_iff.mp hE
      obtain ⟨q8, eq8, hE⟩ := Option.bind_eq_some_iff.mp hE
      refine y_cVi0 (st := []) (as := [.int (-2 : Int32)]) (c_X6_refuse eq8) lk_X6_58 in_X6_refuse se_X6_refuse rfl eu7 ⟨Nat.le_of_ble_eq_true rfl, Nat.le_of_ble_eq_true rfl⟩ (Nat.le_of_ble_eq_true rfl) dX6_errands_30 ⟨by omega, by omega⟩ rfl ?_
      obtain ⟨rfl, rfl, rfl, rfl⟩ := x_inj4 hE
      exact y_ret dX6_errands_33 (by omega) (by omega) ⟨_, rfl, rfl⟩
    · rw [if_neg hc47] at hE
      refine y_iload_n dX6_errands_18 3 rfl ?_
      refine y_if_lt (tgt := 27) dX6_errands_19 (by decide) (fun hc46 => ?_) (fun hc46 => ?_)
      · rw [if_pos hc46] at hE
        refine y_aload_n dX6_errands_27 0 rfl ?_
        refine y_bipush (v := (-2 : Int32)) dX6_errands_28 (by decide) ?_
        obtain ⟨u9, eu9, hE⟩ := Option.bind_eq_some_iff.mp hE
        obtain ⟨q10, eq10, hE⟩ := Option.bind_eq_some_iff.mp hE
        refine y_cVi0 (st := []) (as := [.int (-2 : Int32)]) (c_X6_refuse eq10) lk_X6_58 in_X6_refuse se_X6_refuse rfl eu9 ⟨Nat.le_of_ble_eq_true rfl, Nat.le_of_ble_eq_true rfl⟩ (Nat.le_of_ble_eq_true rfl) dX6_errands_30 ⟨by omega, by omega⟩ rfl ?_
        obtain ⟨rfl, rfl, rfl, rfl⟩ := x_inj4 hE
        exact y_ret dX6_errands_33 (by omega) (by omega) ⟨_, rfl, rfl⟩
      · rw [if_neg hc46] at hE
        refine y_iload_n dX6_errands_22 3 rfl ?_
        refine y_iconst (v := (4 : Int32)) dX6_errands_23 (by decide) ?_
        refine y_icmp_le (tgt := 34) dX6_errands_24 (by decide) (fun hc45 => ?_) (fun hc45 => ?_)
        · rw [if_pos hc45] at hE
          refine y_aload_n dX6_errands_34 0 rfl ?_
          obtain ⟨a11, ea11, hE⟩ := Option.bind_eq_some_iff.mp hE
          refine y_getR fl_X6_24 ea11 dX6_errands_35 ?_
          refine y_iload_n dX6_errands_38 2 rfl ?_
          obtain ⟨a12, ea12, hE⟩ := Option.bind_eq_some_iff.mp hE
          refine y_aald ea12 dX6_errands_39 ?_
          refine y_astore (ls' := [(4, .ref a12), (0, .ref a0), (1, .int p1), (2, .int p2), (3, .int p3)]) dX6_errands_40 (by decide) rfl rfl ?_
          refine y_aload dX6_errands_42 0 rfl ?_
          refine y_iload_n dX6_errands_44 4 rfl ?_
          obtain ⟨q13, eq13, hE⟩ := Option.bind_eq_some_iff.mp hE
          refine y_cSi0 (st := []) (as := [.ref a12, .int p3]) (c_X6_rowRefusal eq13) lk_X6_66 st_X6_rowRefusal ⟨Nat.le_of_ble_eq_true rfl, Nat.le_of_ble_eq_true rfl⟩ (Nat.le_of_ble_eq_true rfl) dX6_errands_45 ⟨by omega, by omega⟩ rfl ?_
          refine y_istore (ls' := [(5, .int q13), (4, .ref a12), (0, .ref a0), (1, .int p1), (2, .int p2), (3, .int p3)]) dX6_errands_48 (by decide) rfl rfl ?_
          refine y_iload dX6_errands_50 0 rfl ?_
          refine y_if_eq (tgt := 62) dX6_errands_52 (by decide) (fun hc42 => ?_) (fun hc42 => ?_)
          · rw [if_pos hc42] at hE
            refine y_aload_n dX6_errands_62 2 rfl ?_
            obtain ⟨a14, ea14, hE⟩ := Option.bind_eq_some_iff.mp hE
            refine y_getR fl_X6_10 ea14 dX6_errands_63 ?_
            obtain ⟨x15, ex15, hE⟩ := Option.bind_eq_some_iff.mp hE
            refine y_getI fl_X6_132 ex15 dX6_errands_66 ?_
            refine y_bipush (v := (9 : Int32)) dX6_errands_69 (by decide) ?_
            refine y_icmp_le (tgt := 81) dX6_errands_71 (by decide) (fun hc39 => ?_) (fun hc39 => ?_)
            · rw [if_pos hc39] at hE
              refine y_aload_n dX6_errands_81 2 rfl ?_
              obtain ⟨a16, ea16, hE⟩ := Option.bind_eq_some_iff.mp hE
              refine y_getR fl_X6_38 ea16 dX6_errands_82 ?_
              obtain ⟨u17, eu17, hE⟩ := Option.bind_eq_some_iff.mp hE
              obtain ⟨q18, eq18, hE⟩ := Option.bind_eq_some_iff.mp hE
              refine y_cVv0 (st := []) (as := []) (c_X3_forgetGoals eq18) lk_X6_236 in_X3_forgetGoals se_X3_forgetGoals rfl eu17 ⟨Nat.le_of_ble_eq_true rfl, Nat.le_of_ble_eq_true rfl⟩ (Nat.le_of_ble_eq_true rfl) dX6_errands_85 ⟨by omega, by omega⟩ rfl ?_
              refine y_iconst (v := (0 : Int32)) dX6_errands_88 (by decide) ?_
              refine y_istore (ls' := [(6, .int (0 : Int32)), (5, .int q13), (4, .ref a12), (0, .ref a0), (1, .int p1), (2, .int p2), (3, .int p3)]) dX6_errands_89 (by decide) rfl rfl ?_
              obtain ⟨q28, eq28, hE⟩ := Option.bind_eq_some_iff.mp hE
              refine y_pick [3, 4, 6, 2, 0] rfl ?_
              cases q28 with
              | inl r29 =>
                dsimp only at hE
                cases hE
                exact l_X6_errands_91 (S := S) ⟨by omega, by omega⟩ a0 p1 p3 a12 n (0 : Int32) q18 _ eq28 (fun r8 hr8 => by cases hr8; exact ⟨rfl, rfl⟩) (fun r8 hr8 => by cases hr8)
              | inr e30 =>
                dsimp only at hE
                refine l_X6_errands_91 (S := S) ⟨by omega, by omega⟩ a0 p1 p3 a12 n (0 : Int32) q18 _ eq28 (fun r8 hr8 => by cases hr8) (fun r8 hr8 => ?_)
                cases hr8
                refine y_aload_n dX6_errands_141 0 rfl ?_
                obtain ⟨a31, ea31, hE⟩ := Option.bind_eq_some_iff.mp hE
                refine y_getR fl_X6_38 ea31 dX6_errands_142 ?_
                refine y_aload_n dX6_errands_145 0 rfl ?_
                obtain ⟨a32, ea32, hE⟩ := Option.bind_eq_some_iff.mp hE
                refine y_getR fl_X6_10 ea32 dX6_errands_146 ?_
                refine y_iload_n dX6_errands_149 1 rfl ?_
                obtain ⟨u33, eu33, hE⟩ := Option.bind_eq_some_iff.mp hE
                obtain ⟨q34, eq34, hE⟩ := Option.bind_eq_some_iff.mp hE
                obtain ⟨c35, s36, hN, ecc35, ess36⟩ := x_add.spec hE
                clear hE; have hE := hN; clear hN
                refine y_cVi1 (st := []) (as := [.ref a32, .int p1]) (c_X3_fewestFor (eq34.trans (show some q34 = some ((q34.1.1, q34.1.2), q34.2.1, q34.2.2) from rfl))) lk_X6_244 in_X3_fewestFor se_X3_fewestFor rfl eu33 ⟨Nat.le_of_ble_eq_true rfl, Nat.le_of_ble_eq_true rfl⟩ (Nat.le_of_ble_eq_true rfl) dX6_errands_150 ⟨by omega, by omega⟩ rfl ?_
                obtain ⟨rfl, rfl, rfl, rfl⟩ := x_inj4 hE
                exact y_ret dX6_errands_153 (by omega) (by omega) ⟨_, rfl, rfl⟩
            · rw [if_neg hc39] at hE
              refine y_aload_n dX6_errands_74 2 rfl ?_
              refine y_bipush (v := (-5 : Int32)) dX6_errands_75 (by decide) ?_
              obtain ⟨u37, eu37, hE⟩ := Option.bind_eq_some_iff.mp hE
              obtain ⟨q38, eq38, hE⟩ := Option.bind_eq_some_iff.mp hE
              refine y_cVi0 (st := []) (as := [.int (-5 : Int32)]) (c_X6_refuse eq38) lk_X6_58 in_X6_refuse se_X6_refuse rfl eu37 ⟨Nat.le_of_ble_eq_true rfl, Nat.le_of_ble_eq_true rfl⟩ (Nat.le_of_ble_eq_true rfl) dX6_errands_77 ⟨by omega, by omega⟩ rfl ?_
              obtain ⟨rfl, rfl, rfl, rfl⟩ := x_inj4 hE
              exact y_ret dX6_errands_80 (by omega) (by omega) ⟨_, rfl, rfl⟩
          · rw [if_neg hc42] at hE
            refine y_aload_n dX6_errands_55 2 rfl ?_
            refine y_iload dX6_errands_56 0 rfl ?_
            obtain ⟨u40, eu40, hE⟩ := Option.bind_eq_some_iff.mp hE
            obtain ⟨q41, eq41, hE⟩ := Option.bind_eq_some_iff.mp hE
            refine y_cVi0 (st := []) (as := [.int q13]) (c_X6_refuse eq41) lk_X6_58 in_X6_refuse se_X6_refuse rfl eu40 ⟨Nat.le_of_ble_eq_true rfl, Nat.le_of_ble_eq_true rfl⟩ (Nat.le_of_ble_eq_true rfl) dX6_errands_58 ⟨by omega, by omega⟩ rfl ?_
            obtain ⟨rfl, rfl, rfl, rfl⟩ := x_inj4 hE
            exact y_ret dX6_errands_61 (by omega) (by omega) ⟨_, rfl, rfl⟩
        · rw [if_neg hc45] at hE
          refine y_aload_n dX6_errands_27 0 rfl ?_
          refine y_bipush (v := (-2 : Int32)) dX6_errands_28 (by decide) ?_
          obtain ⟨u43, eu43, hE⟩ := Option.bind_eq_some_iff.mp hE
          obtain ⟨q44, eq44, hE⟩ := Option.bind_eq_some_iff.mp hE
          refine y_cVi0 (st := []) (as := [.int (-2 : Int32)]) (c_X6_refuse eq44) lk_X6_58 in_X6_refuse se_X6_refuse rfl eu43 ⟨Nat.le_of_ble_eq_true rfl, Nat.le_of_ble_eq_true rfl⟩ (Nat.le_of_ble_eq_true rfl) dX6_errands_30 ⟨by omega, by omega⟩ rfl ?_
          obtain ⟨rfl, rfl, rfl, rfl⟩ := x_inj4 hE
          exact y_ret dX6_errands_33 (by omega) (by omega) ⟨_, rfl, rfl⟩
def f_X6_lost_L23 (n : Nat) (v0 : Nat) : Nat → Int32 → Int32 → xH → Option ((Int32 × xH) × Nat × Nat)
  | 0, _, _, _ => none
  | k + 1, v1, v2, h =>
    (x_gR h v0 6 0).bind fun a3 =>
    (x_gI h a3 0 6).bind fun x4 =>
    if x4 ≤ v2 then
      some ((v1, h), 0, 0)
    else
      (x_ob h v0 6).bind fun u5 =>
      (f_X6_fewestTo n h v0 v2 (0 : Int32)).bind fun q6 =>
      x_add q6.2.1 q6.2.2 <|
      if q6.1.1 = (-1 : Int32) then
        (some (v1 ||| (i_shl (1 : Int32) v2))).bind fun x9 =>
        (some (v2 + (1 : Int32))).bind fun x10 =>
        f_X6_lost_L23 n v0 k x9 x10 q6.1.2
      else
        (some (v2 + (1 : Int32))).bind fun x11 =>
        f_X6_lost_L23 n v0 k v1 x11 q6.1.2
set_option maxRecDepth 100000 in
set_option maxHeartbeats 4000000 in
theorem l_X6_lost_23 {S : Nat × (Nat → Int32)} {rv : Option Value} {h0 h1 : xH} {mc ms : Nat} {tc ts : Nat} (n : Nat) (v0 : Nat) : ∀ (k : Nat) (v1 : Int32) (v2 : Int32) (h : xH) (res : Int32 × xH) (c9 s9 cells slots : Nat), f_X6_lost_L23 n v0 k v1 v2 h = some (res, c9, s9) → cells + c9 = tc → slots + s9 = ts → (tc ≤ mc ∧ ts ≤ ms) → (∀ r9, res = r9 → Y S M_X6_lost h0 rv h1 mc ms 56 [(1, .int r9.1)] [] r9.2 tc ts) → Y S M_X6_lost h0 rv h1 mc ms 23 [(0, .ref v0), (1, .int v1), (2, .int v2)] [] h cells slots := by
  intro k
  induction k with
  | zero =>
    intro _ _ _ _ _ _ _ _ hE
    cases hE
  | succ k ih =>
    intro v1 v2 h res c9 s9 cells slots hE hc9 hs9 hm K
    unfold f_X6_lost_L23 at hE
    refine y_iload_n dX6_lost_23 2 rfl ?_
    refine y_aload_n dX6_lost_24 0 rfl ?_
    obtain ⟨a3, ea3, hE⟩ := Option.bind_eq_some_iff.mp hE
    refine y_getR fl_X6_10 ea3 dX6_lost_25 ?_
    obtain ⟨x4, ex4, hE⟩ := Option.bind_eq_some_iff.mp hE
    refine y_getI fl_X6_139 ex4 dX6_lost_28 ?_
    refine y_icmp_ge (tgt := 56) dX6_lost_31 (by decide) (fun hc13 => ?_) (fun hc13 => ?_)
    · rw [if_pos hc13] at hE
      obtain ⟨rfl, rfl, rfl⟩ := x_inj3 hE
      refine y_cnt (c2 := tc) (s2 := ts) (by omega) (by omega) ?_
      exact y_pick [1] rfl (K _ rfl)
    · rw [if_neg hc13] at hE
      refine y_aload_n dX6_lost_34 0 rfl ?_
      refine y_iload_n dX6_lost_35 2 rfl ?_
      refine y_iconst (v := (0 : Int32)) dX6_lost_36 (by decide) ?_
      obtain ⟨u5, eu5, hE⟩ := Option.bind_eq_some_iff.mp hE
      obtain ⟨q6, eq6, hE⟩ := Option.bind_eq_some_iff.mp hE
      obtain ⟨c7, s8, hN, ecc7, ess8⟩ := x_add.spec hE
      clear hE; have hE := hN; clear hN
      refine y_cVi1 (st := []) (as := [.int v2, .int (0 : Int32)]) (c_X6_fewestTo (eq6.trans (show some q6 = some ((q6.1.1, q6.1.2), q6.2.1, q6.2.2) from rfl))) lk_X6_226 in_X6_fewestTo se_X6_fewestTo rfl eu5 ⟨Nat.le_of_ble_eq_true rfl, Nat.le_of_ble_eq_true rfl⟩ (Nat.le_of_ble_eq_true rfl) dX6_lost_37 ⟨by omega, by omega⟩ rfl ?_
      refine y_iconst (v := (-1 : Int32)) dX6_lost_40 (by decide) ?_
      refine y_icmp_ne (tgt := 50) dX6_lost_41 (by decide) (fun hc12 => ?_) (fun hc12 => ?_)
      · rw [if_pos hc12] at hE
        refine y_iload_n dX6_lost_44 1 rfl ?_
        refine y_iconst (v := (1 : Int32)) dX6_lost_45 (by decide) ?_
        refine y_iload_n dX6_lost_46 2 rfl ?_
        refine y_ishl dX6_lost_47 ?_
        refine y_ior dX6_lost_48 ?_
        obtain ⟨x9, ex9, hE⟩ := Option.bind_eq_some_iff.mp hE
        refine y_istore_n (ls' := [(1, .int x9), (0, .ref v0), (2, .int v2)]) dX6_lost_49 (by decide) (Option.some.inj ex9) rfl ?_
        obtain ⟨x10, ex10, hE⟩ := Option.bind_eq_some_iff.mp hE
        refine y_iinc (ls' := [(2, .int x10), (1, .int x9), (0, .ref v0)]) dX6_lost_50 2 rfl (Option.some.inj ex10) (by decide) rfl ?_
        refine y_goto (tgt := 23) dX6_lost_53 (by decide) ?_
        refine y_pick [2, 1, 0] rfl ?_
        exact ih _ _ _ _ _ _ _ _ hE (by omega) (by omega) hm K
      · rw [if_neg hc12] at hE
        obtain ⟨x11, ex11, hE⟩ := Option.bind_eq_some_iff.mp hE
        refine y_iinc (ls' := [(2, .int x11), (0, .ref v0), (1, .int v1)]) dX6_lost_50 2 rfl (Option.some.inj ex11) (by decide) rfl ?_
        refine y_goto (tgt := 23) dX6_lost_53 (by decide) ?_
        refine y_pick [1, 2, 0] rfl ?_
        exact ih _ _ _ _ _ _ _ _ hE (by omega) (by omega) hm K
def f_X6_lost (n : Nat) (h : xH) (a0 : Nat) : Option ((Int32 × xH) × Nat × Nat) :=
  (x_gR h a0 6 0).bind fun a1 =>
  (x_gI h a1 0 4).bind fun x2 =>
  if x2 ≤ (9 : Int32) then
    (f_X6_lost_L23 n a0 n (0 : Int32) (0 : Int32) h).bind fun q14 =>
    x_add q14.2.1 q14.2.2 <|
    some ((q14.1.1, q14.1.2), 0, 0)
  else
    (x_ob h a0 6).bind fun u17 =>
    (f_X6_refuse h a0 (-5 : Int32)).bind fun q18 =>
    some ((q18.1, q18.2), 0, 0)
set_option maxRecDepth 100000 in
set_option maxHeartbeats 4000000 in
theorem c_X6_lost {n : Nat} {h : xH} {a0 : Nat} {r9 : Int32} {hz : xH} {c9 s9 : Nat} (hE : f_X6_lost n h a0 = some ((r9, hz), c9, s9)) : Ctr M_X6_lost [.ref a0] h (some (.int r9)) hz c9 s9 := by
  refine ctr_of (by decide) (fun _ _ => Nat.le_of_ble_eq_true rfl) (fun S => ?_)
  show Y S M_X6_lost h (some (.int r9)) hz c9 s9 0 [(0, .ref a0)] [] h 0 0
  unfold f_X6_lost at hE
  refine y_aload_n dX6_lost_0 0 rfl ?_
  obtain ⟨a1, ea1, hE⟩ := Option.bind_eq_some_iff.mp hE
  refine y_getR fl_X6_10 ea1 dX6_lost_1 ?_
  obtain ⟨x2, ex2, hE⟩ := Option.bind_eq_some_iff.mp hE
  refine y_getI fl_X6_132 ex2 dX6_lost_4 ?_
  refine y_bipush (v := (9 : Int32)) dX6_lost_7 (by decide) ?_
  refine y_icmp_le (tgt := 19) dX6_lost_9 (by decide) (fun hc19 => ?_) (fun hc19 => ?_)
  · rw [if_pos hc19] at hE
    refine y_iconst (v := (0 : Int32)) dX6_lost_19 (by decide) ?_
    refine y_istore_n (ls' := [(1, .int (0 : Int32)), (0, .ref a0)]) dX6_lost_20 (by decide) rfl rfl ?_
    refine y_iconst (v := (0 : Int32)) dX6_lost_21 (by decide) ?_
    refine y_istore_n (ls' := [(2, .int (0 : Int32)), (1, .int (0 : Int32)), (0, .ref a0)]) dX6_lost_22 (by decide) rfl rfl ?_
    obtain ⟨q14, eq14, hE⟩ := Option.bind_eq_some_iff.mp hE
    obtain ⟨c15, s16, hN, ecc15, ess16⟩ := x_add.spec hE
    clear hE; have hE := hN; clear hN
    refine y_pick [2, 1, 0] rfl ?_
    refine l_X6_lost_23 (S := S) n a0 n (0 : Int32) (0 : Int32) h _ _ _ _ _ (eq14.trans (show some q14 = some (q14.1, q14.2.1, q14.2.2) from rfl)) rfl rfl ⟨by omega, by omega⟩ (fun r8 hr8 => ?_)
    subst hr8
    refine y_iload_n dX6_lost_56 0 rfl ?_
    obtain ⟨rfl, rfl, rfl, rfl⟩ := x_inj4 hE
    exact y_ret dX6_lost_57 (by omega) (by omega) ⟨_, rfl, rfl⟩
  · rw [if_neg hc19] at hE
    refine y_aload_n dX6_lost_12 0 rfl ?_
    refine y_bipush (v := (-5 : Int32)) dX6_lost_13 (by decide) ?_
    obtain ⟨u17, eu17, hE⟩ := Option.bind_eq_some_iff.mp hE
    obtain ⟨q18, eq18, hE⟩ := Option.bind_eq_some_iff.mp hE
    refine y_cVi0 (st := []) (as := [.int (-5 : Int32)]) (c_X6_refuse eq18) lk_X6_58 in_X6_refuse se_X6_refuse rfl eu17 ⟨Nat.le_of_ble_eq_true rfl, Nat.le_of_ble_eq_true rfl⟩ (Nat.le_of_ble_eq_true rfl) dX6_lost_15 ⟨by omega, by omega⟩ rfl ?_
    obtain ⟨rfl, rfl, rfl, rfl⟩ := x_inj4 hE
    exact y_ret dX6_lost_18 (by omega) (by omega) ⟨_, rfl, rfl⟩
def f_X6_stock (n : Nat) (h : xH) (a0 : Nat) : Option (Int32) :=
  (x_gR h a0 6 0).bind fun a1 =>
  (x_ob h a1 0).bind fun u2 =>
  (f_X0_openStock n h a1).bind fun q3 =>
  some q3
set_option maxRecDepth 100000 in
set_option maxHeartbeats 4000000 in
theorem c_X6_stock {n : Nat} {h : xH} {a0 : Nat} {r9 : Int32} (hE : f_X6_stock n h a0 = some r9) : Ctr M_X6_stock [.ref a0] h (some (.int r9)) h 0 0 := by
  refine ctr_of (by decide) (fun _ _ => Nat.le_of_ble_eq_true rfl) (fun S => ?_)
  show Y S M_X6_stock h (some (.int r9)) h 0 0 0 [(0, .ref a0)] [] h 0 0
  unfold f_X6_stock at hE
  refine y_aload_n dX6_stock_0 0 rfl ?_
  obtain ⟨a1, ea1, hE⟩ := Option.bind_eq_some_iff.mp hE
  refine y_getR fl_X6_10 ea1 dX6_stock_1 ?_
  obtain ⟨u2, eu2, hE⟩ := Option.bind_eq_some_iff.mp hE
  obtain ⟨q3, eq3, hE⟩ := Option.bind_eq_some_iff.mp hE
  refine y_cVi0 (st := []) (as := []) (c_X0_openStock eq3) lk_X6_214 in_X0_openStock se_X0_openStock rfl eu2 ⟨Nat.le_of_ble_eq_true rfl, Nat.le_of_ble_eq_true rfl⟩ (Nat.le_of_ble_eq_true rfl) dX6_stock_4 ⟨Nat.le_refl _, Nat.le_refl _⟩ rfl ?_
  obtain rfl := Option.some.inj hE
  exact y_ret dX6_stock_7 (Nat.le_refl _) (Nat.le_refl _) ⟨_, rfl, rfl⟩
def f_X6_lasts (n : Nat) (h : xH) (a0 : Nat) : Option (Int32 × xH) :=
  (x_gR h a0 6 7).bind fun a1 =>
  (x_gR h a0 6 0).bind fun a2 =>
  (x_gR h a0 6 0).bind fun a3 =>
  (x_gI h a3 0 7).bind fun x4 =>
  (x_gR h a0 6 0).bind fun a5 =>
  (x_gI h a5 0 5).bind fun x6 =>
  (x_ob h a1 1).bind fun u7 =>
  (f_X1_most n h a1 a2 x4 x6 (0 : Int32)).bind fun q8 =>
  some (q8.1, q8.2)
set_option maxRecDepth 100000 in
set_option maxHeartbeats 4000000 in
theorem c_X6_lasts {n : Nat} {h : xH} {a0 : Nat} {r9 : Int32} {hz : xH} (hE : f_X6_lasts n h a0 = some (r9, hz)) : Ctr M_X6_lasts [.ref a0] h (some (.int r9)) hz 0 0 := by
  refine ctr_of (by decide) (fun _ _ => Nat.le_of_ble_eq_true rfl) (fun S => ?_)
  show Y S M_X6_lasts h (some (.int r9)) hz 0 0 0 [(0, .ref a0)] [] h 0 0
  unfold f_X6_lasts at hE
  refine y_aload_n dX6_lasts_0 0 rfl ?_
  obtain ⟨a1, ea1, hE⟩ := Option.bind_eq_some_iff.mp hE
  refine y_getR fl_X6_45 ea1 dX6_lasts_1 ?_
  refine y_aload_n dX6_lasts_4 0 rfl ?_
  obtain ⟨a2, ea2, hE⟩ := Option.bind_eq_some_iff.mp hE
  refine y_getR fl_X6_10 ea2 dX6_lasts_5 ?_
  refine y_aload_n dX6_lasts_8 0 rfl ?_
  obtain ⟨a3, ea3, hE⟩ := Option.bind_eq_some_iff.mp hE
  refine y_getR fl_X6_10 ea3 dX6_lasts_9 ?_
  obtain ⟨x4, ex4, hE⟩ := Option.bind_eq_some_iff.mp hE
  refine y_getI fl_X6_145 ex4 dX6_lasts_12 ?_
  refine y_aload_n dX6_lasts_15 0 rfl ?_
  obtain ⟨a5, ea5, hE⟩ := Option.bind_eq_some_iff.mp hE
  refine y_getR fl_X6_10 ea5 dX6_lasts_16 ?_
  obtain ⟨x6, ex6, hE⟩ := Option.bind_eq_some_iff.mp hE
  refine y_getI fl_X6_154 ex6 dX6_lasts_19 ?_
  refine y_iconst (v := (0 : Int32)) dX6_lasts_22 (by decide) ?_
  obtain ⟨u7, eu7, hE⟩ := Option.bind_eq_some_iff.mp hE
  obtain ⟨q8, eq8, hE⟩ := Option.bind_eq_some_iff.mp hE
  refine y_cVi0 (st := []) (as := [.ref a2, .int x4, .int x6, .int (0 : Int32)]) (c_X1_most eq8) lk_X6_247 in_X1_most se_X1_most rfl eu7 ⟨Nat.le_of_ble_eq_true rfl, Nat.le_of_ble_eq_true rfl⟩ (Nat.le_of_ble_eq_true rfl) dX6_lasts_23 ⟨Nat.le_refl _, Nat.le_refl _⟩ rfl ?_
  obtain ⟨rfl, rfl⟩ := x_inj2 hE
  exact y_ret dX6_lasts_26 (Nat.le_refl _) (Nat.le_refl _) ⟨_, rfl, rfl⟩
def f_X6_worth (n : Nat) (h : xH) (a0 : Nat) (p1 : Int32) : Option (Int32 × xH) :=
  (x_gR h a0 6 0).bind fun a1 =>
  (x_ob h a1 0).bind fun u2 =>
  (f_X0_hasDoor h a1 p1).bind fun q3 =>
  if q3 = 0 then
    (x_ob h a0 6).bind fun u4 =>
    (f_X6_refuse h a0 (-2 : Int32)).bind fun q5 =>
    some (((-1000000 : Int32) + q5.1), q5.2)
  else
    (x_gR h a0 6 0).bind fun a6 =>
    (x_ob h a6 0).bind fun u7 =>
    (f_X0_isOpen h a6 p1).bind fun q8 =>
    if q8 = 0 then
      (x_ob h a0 6).bind fun u9 =>
      (f_X6_refuse h a0 (-5 : Int32)).bind fun q10 =>
      some (((-1000000 : Int32) + q10.1), q10.2)
    else
      (x_gR h a0 6 7).bind fun a11 =>
      (x_gR h a0 6 0).bind fun a12 =>
      (x_gR h a0 6 0).bind fun a13 =>
      (x_gI h a13 0 7).bind fun x14 =>
      (x_gR h a0 6 0).bind fun a15 =>
      (x_gI h a15 0 5).bind fun x16 =>
      (x_ob h a11 1).bind fun u17 =>
      (f_X1_most n h a11 a12 x14 x16 (0 : Int32)).bind fun q18 =>
      (x_gR q18.2 a0 6 7).bind fun a19 =>
      (x_gR q18.2 a0 6 0).bind fun a20 =>
      (x_gR q18.2 a0 6 0).bind fun a21 =>
      (x_gI q18.2 a21 0 7).bind fun x22 =>
      (x_gR q18.2 a0 6 0).bind fun a23 =>
      (x_gI q18.2 a23 0 5).bind fun x24 =>
      (x_ob q18.2 a19 1).bind fun u25 =>
      (f_X1_most n q18.2 a19 a20 x22 (x24 &&& ((i_shl (1 : Int32) p1) ^^^ (-1 : Int32))) (0 : Int32)).bind fun q26 =>
      some ((q18.1 - q26.1), q26.2)
set_option maxRecDepth 100000 in
set_option maxHeartbeats 4000000 in
theorem c_X6_worth {n : Nat} {h : xH} {a0 : Nat} {p1 : Int32} {r9 : Int32} {hz : xH} (hE : f_X6_worth n h a0 p1 = some (r9, hz)) : Ctr M_X6_worth [.ref a0, .int p1] h (some (.int r9)) hz 0 0 := by
  refine ctr_of (by decide) (fun _ _ => Nat.le_of_ble_eq_true rfl) (fun S => ?_)
  show Y S M_X6_worth h (some (.int r9)) hz 0 0 0 [(0, .ref a0), (1, .int p1)] [] h 0 0
  unfold f_X6_worth at hE
  refine y_aload_n dX6_worth_0 0 rfl ?_
  obtain ⟨a1, ea1, hE⟩ := Option.bind_eq_some_iff.mp hE
  refine y_getR fl_X6_10 ea1 dX6_worth_1 ?_
  refine y_iload_n dX6_worth_4 1 rfl ?_
  obtain ⟨u2, eu2, hE⟩ := Option.bind_eq_some_iff.mp hE
  obtain ⟨q3, eq3, hE⟩ := Option.bind_eq_some_iff.mp hE
  refine y_cVi0 (st := []) (as := [.int p1]) (c_X0_hasDoor eq3) lk_X6_102 in_X0_hasDoor se_X0_hasDoor rfl eu2 ⟨Nat.le_of_ble_eq_true rfl, Nat.le_of_ble_eq_true rfl⟩ (Nat.le_of_ble_eq_true rfl) dX6_worth_5 ⟨Nat.le_refl _, Nat.le_refl _⟩ rfl ?_
  refine y_if_ne (tgt := 21) dX6_worth_8 (by decide) (fun hc28 => ?_) (fun hc28 => ?_)
  · rw [if_pos hc28] at hE
    refine y_ldc (v := (-1000000 : Int32)) (x_wt (tb 833 (by decide +kernel)) rfl) dX6_worth_11 ?_
    refine y_aload_n dX6_worth_13 0 rfl ?_
    refine y_bipush (v := (-2 : Int32)) dX6_worth_14 (by decide) ?_
    obtain ⟨u4, eu4, hE⟩ := Option.bind_eq_some_iff.mp hE
    obtain ⟨q5, eq5, hE⟩ := Option.bind_eq_some_iff.mp hE
    refine y_cVi0 (st := [.int (-1000000 : Int32)]) (as := [.int (-2 : Int32)]) (c_X6_refuse eq5) lk_X6_58 in_X6_refuse se_X6_refuse rfl eu4 ⟨Nat.le_of_ble_eq_true rfl, Nat.le_of_ble_eq_true rfl⟩ (Nat.le_of_ble_eq_true rfl) dX6_worth_16 ⟨Nat.le_refl _, Nat.le_refl _⟩ rfl ?_
    refine y_iadd dX6_worth_19 ?_
    obtain ⟨rfl, rfl⟩ := x_inj2 hE
    exact y_ret dX6_worth_20 (Nat.le_refl _) (Nat.le_refl _) ⟨_, rfl, rfl⟩
  · rw [if_neg hc28] at hE
    refine y_aload_n dX6_worth_21 0 rfl ?_
    obtain ⟨a6, ea6, hE⟩ := Option.bind_eq_some_iff.mp hE
    refine y_getR fl_X6_10 ea6 dX6_worth_22 ?_
    refine y_iload_n dX6_worth_25 1 rfl ?_
    obtain ⟨u7, eu7, hE⟩ := Option.bind_eq_some_iff.mp hE
    obtain ⟨q8, eq8, hE⟩ := Option.bind_eq_some_iff.mp hE
    refine y_cVi0 (st := []) (as := [.int p1]) (c_X0_isOpen eq8) lk_X6_151 in_X0_isOpen se_X0_isOpen rfl eu7 ⟨Nat.le_of_ble_eq_true rfl, Nat.le_of_ble_eq_true rfl⟩ (Nat.le_of_ble_eq_true rfl) dX6_worth_26 ⟨Nat.le_refl _, Nat.le_refl _⟩ rfl ?_
    refine y_if_ne (tgt := 42) dX6_worth_29 (by decide) (fun hc27 => ?_) (fun hc27 => ?_)
    · rw [if_pos hc27] at hE
      refine y_ldc (v := (-1000000 : Int32)) (x_wt (tb 833 (by decide +kernel)) rfl) dX6_worth_32 ?_
      refine y_aload_n dX6_worth_34 0 rfl ?_
      refine y_bipush (v := (-5 : Int32)) dX6_worth_35 (by decide) ?_
      obtain ⟨u9, eu9, hE⟩ := Option.bind_eq_some_iff.mp hE
      obtain ⟨q10, eq10, hE⟩ := Option.bind_eq_some_iff.mp hE
      refine y_cVi0 (st := [.int (-1000000 : Int32)]) (as := [.int (-5 : Int32)]) (c_X6_refuse eq10) lk_X6_58 in_X6_refuse se_X6_refuse rfl eu9 ⟨Nat.le_of_ble_eq_true rfl, Nat.le_of_ble_eq_true rfl⟩ (Nat.le_of_ble_eq_true rfl) dX6_worth_37 ⟨Nat.le_refl _, Nat.le_refl _⟩ rfl ?_
      refine y_iadd dX6_worth_40 ?_
      obtain ⟨rfl, rfl⟩ := x_inj2 hE
      exact y_ret dX6_worth_41 (Nat.le_refl _) (Nat.le_refl _) ⟨_, rfl, rfl⟩
    · rw [if_neg hc27] at hE
      refine y_aload_n dX6_worth_42 0 rfl ?_
      obtain ⟨a11, ea11, hE⟩ := Option.bind_eq_some_iff.mp hE
      refine y_getR fl_X6_45 ea11 dX6_worth_43 ?_
      refine y_aload_n dX6_worth_46 0 rfl ?_
      obtain ⟨a12, ea12, hE⟩ := Option.bind_eq_some_iff.mp hE
      refine y_getR fl_X6_10 ea12 dX6_worth_47 ?_
      refine y_aload_n dX6_worth_50 0 rfl ?_
      obtain ⟨a13, ea13, hE⟩ := Option.bind_eq_some_iff.mp hE
      refine y_getR fl_X6_10 ea13 dX6_worth_51 ?_
      obtain ⟨x14, ex14, hE⟩ := Option.bind_eq_some_iff.mp hE
      refine y_getI fl_X6_145 ex14 dX6_worth_54 ?_
      refine y_aload_n dX6_worth_57 0 rfl ?_
      obtain ⟨a15, ea15, hE⟩ := Option.bind_eq_some_iff.mp hE
      refine y_getR fl_X6_10 ea15 dX6_worth_58 ?_
      obtain ⟨x16, ex16, hE⟩ := Option.bind_eq_some_iff.mp hE
      refine y_getI fl_X6_154 ex16 dX6_worth_61 ?_
      refine y_iconst (v := (0 : Int32)) dX6_worth_64 (by decide) ?_
      obtain ⟨u17, eu17, hE⟩ := Option.bind_eq_some_iff.mp hE
      obtain ⟨q18, eq18, hE⟩ := Option.bind_eq_some_iff.mp hE
      refine y_cVi0 (st := []) (as := [.ref a12, .int x14, .int x16, .int (0 : Int32)]) (c_X1_most eq18) lk_X6_247 in_X1_most se_X1_most rfl eu17 ⟨Nat.le_of_ble_eq_true rfl, Nat.le_of_ble_eq_true rfl⟩ (Nat.le_of_ble_eq_true rfl) dX6_worth_65 ⟨Nat.le_refl _, Nat.le_refl _⟩ rfl ?_
      refine y_istore_n (ls' := [(2, .int q18.1), (0, .ref a0), (1, .int p1)]) dX6_worth_68 (by decide) rfl rfl ?_
      refine y_iload_n dX6_worth_69 0 rfl ?_
      refine y_aload_n dX6_worth_70 1 rfl ?_
      obtain ⟨a19, ea19, hE⟩ := Option.bind_eq_some_iff.mp hE
      refine y_getR fl_X6_45 ea19 dX6_worth_71 ?_
      refine y_aload_n dX6_worth_74 1 rfl ?_
      obtain ⟨a20, ea20, hE⟩ := Option.bind_eq_some_iff.mp hE
      refine y_getR fl_X6_10 ea20 dX6_worth_75 ?_
      refine y_aload_n dX6_worth_78 1 rfl ?_
      obtain ⟨a21, ea21, hE⟩ := Option.bind_eq_some_iff.mp hE
      refine y_getR fl_X6_10 ea21 dX6_worth_79 ?_
      obtain ⟨x22, ex22, hE⟩ := Option.bind_eq_some_iff.mp hE
      refine y_getI fl_X6_145 ex22 dX6_worth_82 ?_
      refine y_aload_n dX6_worth_85 1 rfl ?_
      obtain ⟨a23, ea23, hE⟩ := Option.bind_eq_some_iff.mp hE
      refine y_getR fl_X6_10 ea23 dX6_worth_86 ?_
      obtain ⟨x24, ex24, hE⟩ := Option.bind_eq_some_iff.mp hE
      refine y_getI fl_X6_154 ex24 dX6_worth_89 ?_
      refine y_iconst (v := (1 : Int32)) dX6_worth_92 (by decide) ?_
      refine y_iload_n dX6_worth_93 2 rfl ?_
      refine y_ishl dX6_worth_94 ?_
      refine y_iconst (v := (-1 : Int32)) dX6_worth_95 (by decide) ?_
      refine y_ixor dX6_worth_96 ?_
      refine y_iand dX6_worth_97 ?_
      refine y_iconst (v := (0 : Int32)) dX6_worth_98 (by decide) ?_
      obtain ⟨u25, eu25, hE⟩ := Option.bind_eq_some_iff.mp hE
      obtain ⟨q26, eq26, hE⟩ := Option.bind_eq_some_iff.mp hE
      refine y_cVi0 (st := [.int q18.1]) (as := [.ref a20, .int x22, .int (x24 &&& ((i_shl (1 : Int32) p1) ^^^ (-1 : Int32))), .int (0 : Int32)]) (c_X1_most eq26) lk_X6_247 in_X1_most se_X1_most rfl eu25 ⟨Nat.le_of_ble_eq_true rfl, Nat.le_of_ble_eq_true rfl⟩ (Nat.le_of_ble_eq_true rfl) dX6_worth_99 ⟨Nat.le_refl _, Nat.le_refl _⟩ rfl ?_
      refine y_isub dX6_worth_102 ?_
      obtain ⟨rfl, rfl⟩ := x_inj2 hE
      exact y_ret dX6_worth_103 (Nat.le_refl _) (Nat.le_refl _) ⟨_, rfl, rfl⟩
