theorem dX6_spare_0 : decode cX6_spare 0 = .ok (.iconst (-1), 1) := by decide +kernel
theorem dX6_spare_1 : decode cX6_spare 1 = .ok (.istore_n 1, 1) := by decide +kernel
theorem dX6_spare_2 : decode cX6_spare 2 = .ok (.iconst (-1), 1) := by decide +kernel
theorem dX6_spare_3 : decode cX6_spare 3 = .ok (.istore_n 2, 1) := by decide +kernel
theorem dX6_spare_4 : decode cX6_spare 4 = .ok (.iconst 0, 1) := by decide +kernel
theorem dX6_spare_5 : decode cX6_spare 5 = .ok (.istore_n 3, 1) := by decide +kernel
theorem dX6_spare_6 : decode cX6_spare 6 = .ok (.iload_n 3, 1) := by decide +kernel
theorem dX6_spare_7 : decode cX6_spare 7 = .ok (.aload_n 0, 1) := by decide +kernel
theorem dX6_spare_8 : decode cX6_spare 8 = .ok (.getfield 10, 3) := by decide +kernel
theorem dX6_spare_11 : decode cX6_spare 11 = .ok (.getfield 132, 3) := by decide +kernel
theorem dX6_spare_14 : decode cX6_spare 14 = .ok (.if_icmp .ge 65, 3) := by decide +kernel
theorem dX6_spare_17 : decode cX6_spare 17 = .ok (.aload_n 0, 1) := by decide +kernel
theorem dX6_spare_18 : decode cX6_spare 18 = .ok (.getfield 10, 3) := by decide +kernel
theorem dX6_spare_21 : decode cX6_spare 21 = .ok (.iload_n 3, 1) := by decide +kernel
theorem dX6_spare_22 : decode cX6_spare 22 = .ok (.invokevirtual 151, 3) := by decide +kernel
theorem dX6_spare_25 : decode cX6_spare 25 = .ok (.ifCond .eq 48, 3) := by decide +kernel
theorem dX6_spare_28 : decode cX6_spare 28 = .ok (.aload_n 0, 1) := by decide +kernel
theorem dX6_spare_29 : decode cX6_spare 29 = .ok (.getfield 45, 3) := by decide +kernel
theorem dX6_spare_32 : decode cX6_spare 32 = .ok (.aload_n 0, 1) := by decide +kernel
theorem dX6_spare_33 : decode cX6_spare 33 = .ok (.getfield 10, 3) := by decide +kernel
theorem dX6_spare_36 : decode cX6_spare 36 = .ok (.aload_n 0, 1) := by decide +kernel
theorem dX6_spare_37 : decode cX6_spare 37 = .ok (.getfield 10, 3) := by decide +kernel
theorem dX6_spare_40 : decode cX6_spare 40 = .ok (.getfield 145, 3) := by decide +kernel
theorem dX6_spare_43 : decode cX6_spare 43 = .ok (.aload_n 0, 1) := by decide +kernel
theorem dX6_spare_44 : decode cX6_spare 44 = .ok (.getfield 10, 3) := by decide +kernel
theorem dX6_spare_47 : decode cX6_spare 47 = .ok (.getfield 154, 3) := by decide +kernel
theorem dX6_spare_50 : decode cX6_spare 50 = .ok (.iconst 1, 1) := by decide +kernel
theorem dX6_spare_51 : decode cX6_spare 51 = .ok (.iload_n 3, 1) := by decide +kernel
theorem dX6_spare_52 : decode cX6_spare 52 = .ok (.ishl, 1) := by decide +kernel
theorem dX6_spare_53 : decode cX6_spare 53 = .ok (.iconst (-1), 1) := by decide +kernel
theorem dX6_spare_54 : decode cX6_spare 54 = .ok (.ixor, 1) := by decide +kernel
theorem dX6_spare_55 : decode cX6_spare 55 = .ok (.iand, 1) := by decide +kernel
theorem dX6_spare_56 : decode cX6_spare 56 = .ok (.iconst 0, 1) := by decide +kernel
theorem dX6_spare_57 : decode cX6_spare 57 = .ok (.invokevirtual 247, 3) := by decide +kernel
theorem dX6_spare_60 : decode cX6_spare 60 = .ok (.istore 4, 2) := by decide +kernel
theorem dX6_spare_62 : decode cX6_spare 62 = .ok (.iload 4, 2) := by decide +kernel
theorem dX6_spare_64 : decode cX6_spare 64 = .ok (.iload_n 2, 1) := by decide +kernel
theorem dX6_spare_65 : decode cX6_spare 65 = .ok (.if_icmp .le 8, 3) := by decide +kernel
theorem dX6_spare_68 : decode cX6_spare 68 = .ok (.iload 4, 2) := by decide +kernel
theorem dX6_spare_70 : decode cX6_spare 70 = .ok (.istore_n 2, 1) := by decide +kernel
theorem dX6_spare_71 : decode cX6_spare 71 = .ok (.iload_n 3, 1) := by decide +kernel
theorem dX6_spare_72 : decode cX6_spare 72 = .ok (.istore_n 1, 1) := by decide +kernel
theorem dX6_spare_73 : decode cX6_spare 73 = .ok (.iinc 3 1, 3) := by decide +kernel
theorem dX6_spare_76 : decode cX6_spare 76 = .ok (.goto (-70), 3) := by decide +kernel
theorem dX6_spare_79 : decode cX6_spare 79 = .ok (.iload_n 1, 1) := by decide +kernel
theorem dX6_spare_80 : decode cX6_spare 80 = .ok (.iconst (-1), 1) := by decide +kernel
theorem dX6_spare_81 : decode cX6_spare 81 = .ok (.if_icmp .ne 12, 3) := by decide +kernel
theorem dX6_spare_84 : decode cX6_spare 84 = .ok (.aload_n 0, 1) := by decide +kernel
theorem dX6_spare_85 : decode cX6_spare 85 = .ok (.bipush (-5), 2) := by decide +kernel
theorem dX6_spare_87 : decode cX6_spare 87 = .ok (.invokevirtual 58, 3) := by decide +kernel
theorem dX6_spare_90 : decode cX6_spare 90 = .ok (.goto 4, 3) := by decide +kernel
theorem dX6_spare_93 : decode cX6_spare 93 = .ok (.iload_n 1, 1) := by decide +kernel
theorem dX6_spare_94 : decode cX6_spare 94 = .ok (.ireturn, 1) := by decide +kernel
theorem dX6_endless_0 : decode cX6_endless 0 = .ok (.iconst 0, 1) := by decide +kernel
theorem dX6_endless_1 : decode cX6_endless 1 = .ok (.istore_n 1, 1) := by decide +kernel
theorem dX6_endless_2 : decode cX6_endless 2 = .ok (.iconst 1, 1) := by decide +kernel
theorem dX6_endless_3 : decode cX6_endless 3 = .ok (.istore_n 2, 1) := by decide +kernel
theorem dX6_endless_4 : decode cX6_endless 4 = .ok (.iload_n 2, 1) := by decide +kernel
theorem dX6_endless_5 : decode cX6_endless 5 = .ok (.iconst 4, 1) := by decide +kernel
theorem dX6_endless_6 : decode cX6_endless 6 = .ok (.if_icmp .gt 40, 3) := by decide +kernel
theorem dX6_endless_9 : decode cX6_endless 9 = .ok (.aload_n 0, 1) := by decide +kernel
theorem dX6_endless_10 : decode cX6_endless 10 = .ok (.getfield 45, 3) := by decide +kernel
theorem dX6_endless_13 : decode cX6_endless 13 = .ok (.aload_n 0, 1) := by decide +kernel
theorem dX6_endless_14 : decode cX6_endless 14 = .ok (.getfield 10, 3) := by decide +kernel
theorem dX6_endless_17 : decode cX6_endless 17 = .ok (.iload_n 2, 1) := by decide +kernel
theorem dX6_endless_18 : decode cX6_endless 18 = .ok (.aload_n 0, 1) := by decide +kernel
theorem dX6_endless_19 : decode cX6_endless 19 = .ok (.getfield 10, 3) := by decide +kernel
theorem dX6_endless_22 : decode cX6_endless 22 = .ok (.getfield 154, 3) := by decide +kernel
theorem dX6_endless_25 : decode cX6_endless 25 = .ok (.iconst 0, 1) := by decide +kernel
theorem dX6_endless_26 : decode cX6_endless 26 = .ok (.invokevirtual 247, 3) := by decide +kernel
theorem dX6_endless_29 : decode cX6_endless 29 = .ok (.bipush 99, 2) := by decide +kernel
theorem dX6_endless_31 : decode cX6_endless 31 = .ok (.if_icmp .ne 9, 3) := by decide +kernel
theorem dX6_endless_34 : decode cX6_endless 34 = .ok (.iload_n 1, 1) := by decide +kernel
theorem dX6_endless_35 : decode cX6_endless 35 = .ok (.iconst 1, 1) := by decide +kernel
theorem dX6_endless_36 : decode cX6_endless 36 = .ok (.iload_n 2, 1) := by decide +kernel
theorem dX6_endless_37 : decode cX6_endless 37 = .ok (.ishl, 1) := by decide +kernel
theorem dX6_endless_38 : decode cX6_endless 38 = .ok (.ior, 1) := by decide +kernel
theorem dX6_endless_39 : decode cX6_endless 39 = .ok (.istore_n 1, 1) := by decide +kernel
theorem dX6_endless_40 : decode cX6_endless 40 = .ok (.iinc 2 1, 3) := by decide +kernel
theorem dX6_endless_43 : decode cX6_endless 43 = .ok (.goto (-39), 3) := by decide +kernel
theorem dX6_endless_46 : decode cX6_endless 46 = .ok (.iload_n 1, 1) := by decide +kernel
theorem dX6_endless_47 : decode cX6_endless 47 = .ok (.ireturn, 1) := by decide +kernel
theorem dX6_boxes_0 : decode cX6_boxes 0 = .ok (.iload_n 1, 1) := by decide +kernel
theorem dX6_boxes_1 : decode cX6_boxes 1 = .ok (.iconst 1, 1) := by decide +kernel
theorem dX6_boxes_2 : decode cX6_boxes 2 = .ok (.if_icmp .lt 9, 3) := by decide +kernel
theorem dX6_boxes_5 : decode cX6_boxes 5 = .ok (.iload_n 1, 1) := by decide +kernel
theorem dX6_boxes_6 : decode cX6_boxes 6 = .ok (.bipush 99, 2) := by decide +kernel
theorem dX6_boxes_8 : decode cX6_boxes 8 = .ok (.if_icmp .lt 10, 3) := by decide +kernel
theorem dX6_boxes_11 : decode cX6_boxes 11 = .ok (.aload_n 0, 1) := by decide +kernel
theorem dX6_boxes_12 : decode cX6_boxes 12 = .ok (.bipush (-2), 2) := by decide +kernel
theorem dX6_boxes_14 : decode cX6_boxes 14 = .ok (.invokevirtual 58, 3) := by decide +kernel
theorem dX6_boxes_17 : decode cX6_boxes 17 = .ok (.ireturn, 1) := by decide +kernel
theorem dX6_boxes_18 : decode cX6_boxes 18 = .ok (.iconst 0, 1) := by decide +kernel
theorem dX6_boxes_19 : decode cX6_boxes 19 = .ok (.istore_n 2, 1) := by decide +kernel
theorem dX6_boxes_20 : decode cX6_boxes 20 = .ok (.iload_n 2, 1) := by decide +kernel
theorem dX6_boxes_21 : decode cX6_boxes 21 = .ok (.bipush 20, 2) := by decide +kernel
theorem dX6_boxes_23 : decode cX6_boxes 23 = .ok (.if_icmp .gt 41, 3) := by decide +kernel
theorem dX6_boxes_26 : decode cX6_boxes 26 = .ok (.aload_n 0, 1) := by decide +kernel
theorem dX6_boxes_27 : decode cX6_boxes 27 = .ok (.getfield 45, 3) := by decide +kernel
theorem dX6_boxes_30 : decode cX6_boxes 30 = .ok (.aload_n 0, 1) := by decide +kernel
theorem dX6_boxes_31 : decode cX6_boxes 31 = .ok (.getfield 10, 3) := by decide +kernel
theorem dX6_boxes_34 : decode cX6_boxes 34 = .ok (.aload_n 0, 1) := by decide +kernel
theorem dX6_boxes_35 : decode cX6_boxes 35 = .ok (.getfield 10, 3) := by decide +kernel
theorem dX6_boxes_38 : decode cX6_boxes 38 = .ok (.getfield 145, 3) := by decide +kernel
theorem dX6_boxes_41 : decode cX6_boxes 41 = .ok (.aload_n 0, 1) := by decide +kernel
theorem dX6_boxes_42 : decode cX6_boxes 42 = .ok (.getfield 10, 3) := by decide +kernel
theorem dX6_boxes_45 : decode cX6_boxes 45 = .ok (.getfield 154, 3) := by decide +kernel
theorem dX6_boxes_48 : decode cX6_boxes 48 = .ok (.iload_n 2, 1) := by decide +kernel
theorem dX6_boxes_49 : decode cX6_boxes 49 = .ok (.invokevirtual 247, 3) := by decide +kernel
theorem dX6_boxes_52 : decode cX6_boxes 52 = .ok (.iload_n 1, 1) := by decide +kernel
theorem dX6_boxes_53 : decode cX6_boxes 53 = .ok (.if_icmp .lt 5, 3) := by decide +kernel
theorem dX6_boxes_56 : decode cX6_boxes 56 = .ok (.iload_n 2, 1) := by decide +kernel
theorem dX6_boxes_57 : decode cX6_boxes 57 = .ok (.ireturn, 1) := by decide +kernel
theorem dX6_boxes_58 : decode cX6_boxes 58 = .ok (.iinc 2 1, 3) := by decide +kernel
theorem dX6_boxes_61 : decode cX6_boxes 61 = .ok (.goto (-41), 3) := by decide +kernel
theorem dX6_boxes_64 : decode cX6_boxes 64 = .ok (.iconst (-1), 1) := by decide +kernel
theorem dX6_boxes_65 : decode cX6_boxes 65 = .ok (.ireturn, 1) := by decide +kernel
theorem dX6_playActs_0 : decode cX6_playActs 0 = .ok (.aload_n 0, 1) := by decide +kernel
theorem dX6_playActs_1 : decode cX6_playActs 1 = .ok (.getfield 16, 3) := by decide +kernel
theorem dX6_playActs_4 : decode cX6_playActs 4 = .ok (.aload_n 0, 1) := by decide +kernel
theorem dX6_playActs_5 : decode cX6_playActs 5 = .ok (.getfield 10, 3) := by decide +kernel
theorem dX6_playActs_8 : decode cX6_playActs 8 = .ok (.invokevirtual 169, 3) := by decide +kernel
theorem dX6_playActs_11 : decode cX6_playActs 11 = .ok (.iconst 0, 1) := by decide +kernel
theorem dX6_playActs_12 : decode cX6_playActs 12 = .ok (.istore_n 3, 1) := by decide +kernel
theorem dX6_playActs_13 : decode cX6_playActs 13 = .ok (.iload_n 3, 1) := by decide +kernel
theorem dX6_playActs_14 : decode cX6_playActs 14 = .ok (.iload_n 2, 1) := by decide +kernel
theorem dX6_playActs_15 : decode cX6_playActs 15 = .ok (.if_icmp .ge 35, 3) := by decide +kernel
theorem dX6_playActs_18 : decode cX6_playActs 18 = .ok (.iload_n 3, 1) := by decide +kernel
theorem dX6_playActs_19 : decode cX6_playActs 19 = .ok (.aload_n 1, 1) := by decide +kernel
theorem dX6_playActs_20 : decode cX6_playActs 20 = .ok (.getfield 285, 3) := by decide +kernel
theorem dX6_playActs_23 : decode cX6_playActs 23 = .ok (.if_icmp .ge 27, 3) := by decide +kernel
theorem dX6_playActs_26 : decode cX6_playActs 26 = .ok (.aload_n 0, 1) := by decide +kernel
theorem dX6_playActs_27 : decode cX6_playActs 27 = .ok (.getfield 16, 3) := by decide +kernel
theorem dX6_playActs_30 : decode cX6_playActs 30 = .ok (.aload_n 1, 1) := by decide +kernel
theorem dX6_playActs_31 : decode cX6_playActs 31 = .ok (.getfield 92, 3) := by decide +kernel
theorem dX6_playActs_34 : decode cX6_playActs 34 = .ok (.iload_n 3, 1) := by decide +kernel
theorem dX6_playActs_35 : decode cX6_playActs 35 = .ok (.laload, 1) := by decide +kernel
theorem dX6_playActs_36 : decode cX6_playActs 36 = .ok (.invokevirtual 289, 3) := by decide +kernel
theorem dX6_playActs_39 : decode cX6_playActs 39 = .ok (.ifCond .ne 5, 3) := by decide +kernel
theorem dX6_playActs_42 : decode cX6_playActs 42 = .ok (.iload_n 3, 1) := by decide +kernel
theorem dX6_playActs_43 : decode cX6_playActs 43 = .ok (.ireturn, 1) := by decide +kernel
theorem dX6_playActs_44 : decode cX6_playActs 44 = .ok (.iinc 3 1, 3) := by decide +kernel
theorem dX6_playActs_47 : decode cX6_playActs 47 = .ok (.goto (-34), 3) := by decide +kernel
theorem dX6_playActs_50 : decode cX6_playActs 50 = .ok (.iconst (-1), 1) := by decide +kernel
theorem dX6_playActs_51 : decode cX6_playActs 51 = .ok (.ireturn, 1) := by decide +kernel
theorem dX6_judge_0 : decode cX6_judge 0 = .ok (.iload_n 1, 1) := by decide +kernel
theorem dX6_judge_1 : decode cX6_judge 1 = .ok (.invokestatic 54, 3) := by decide +kernel
theorem dX6_judge_4 : decode cX6_judge 4 = .ok (.ifCond .eq 13, 3) := by decide +kernel
theorem dX6_judge_7 : decode cX6_judge 7 = .ok (.iload_n 2, 1) := by decide +kernel
theorem dX6_judge_8 : decode cX6_judge 8 = .ok (.ifCond .lt 9, 3) := by decide +kernel
theorem dX6_judge_11 : decode cX6_judge 11 = .ok (.iload_n 2, 1) := by decide +kernel
theorem dX6_judge_12 : decode cX6_judge 12 = .ok (.bipush 20, 2) := by decide +kernel
theorem dX6_judge_14 : decode cX6_judge 14 = .ok (.if_icmp .le 10, 3) := by decide +kernel
theorem dX6_judge_17 : decode cX6_judge 17 = .ok (.aload_n 0, 1) := by decide +kernel
theorem dX6_judge_18 : decode cX6_judge 18 = .ok (.bipush (-2), 2) := by decide +kernel
theorem dX6_judge_20 : decode cX6_judge 20 = .ok (.invokevirtual 58, 3) := by decide +kernel
theorem dX6_judge_23 : decode cX6_judge 23 = .ok (.ireturn, 1) := by decide +kernel
theorem dX6_judge_24 : decode cX6_judge 24 = .ok (.aload_n 0, 1) := by decide +kernel
theorem dX6_judge_25 : decode cX6_judge 25 = .ok (.getfield 24, 3) := by decide +kernel
theorem dX6_judge_28 : decode cX6_judge 28 = .ok (.iload_n 1, 1) := by decide +kernel
theorem dX6_judge_29 : decode cX6_judge 29 = .ok (.aaload, 1) := by decide +kernel
theorem dX6_judge_30 : decode cX6_judge 30 = .ok (.iload_n 2, 1) := by decide +kernel
theorem dX6_judge_31 : decode cX6_judge 31 = .ok (.invokestatic 66, 3) := by decide +kernel
theorem dX6_judge_34 : decode cX6_judge 34 = .ok (.istore_n 3, 1) := by decide +kernel
theorem dX6_judge_35 : decode cX6_judge 35 = .ok (.iload_n 3, 1) := by decide +kernel
theorem dX6_judge_36 : decode cX6_judge 36 = .ok (.ifCond .eq 9, 3) := by decide +kernel
theorem dX6_judge_39 : decode cX6_judge 39 = .ok (.aload_n 0, 1) := by decide +kernel
theorem dX6_judge_40 : decode cX6_judge 40 = .ok (.iload_n 3, 1) := by decide +kernel
theorem dX6_judge_41 : decode cX6_judge 41 = .ok (.invokevirtual 58, 3) := by decide +kernel
theorem dX6_judge_44 : decode cX6_judge 44 = .ok (.ireturn, 1) := by decide +kernel
theorem dX6_judge_45 : decode cX6_judge 45 = .ok (.aload_n 0, 1) := by decide +kernel
theorem dX6_judge_46 : decode cX6_judge 46 = .ok (.aload_n 0, 1) := by decide +kernel
theorem dX6_judge_47 : decode cX6_judge 47 = .ok (.getfield 24, 3) := by decide +kernel
theorem dX6_judge_50 : decode cX6_judge 50 = .ok (.iload_n 1, 1) := by decide +kernel
theorem dX6_judge_51 : decode cX6_judge 51 = .ok (.aaload, 1) := by decide +kernel
theorem dX6_judge_52 : decode cX6_judge 52 = .ok (.iload_n 2, 1) := by decide +kernel
theorem dX6_judge_53 : decode cX6_judge 53 = .ok (.invokevirtual 252, 3) := by decide +kernel
theorem dX6_judge_56 : decode cX6_judge 56 = .ok (.ireturn, 1) := by decide +kernel
theorem dX6_told_0 : decode cX6_told 0 = .ok (.iload_n 3, 1) := by decide +kernel
theorem dX6_told_1 : decode cX6_told 1 = .ok (.bipush 10, 2) := by decide +kernel
theorem dX6_told_3 : decode cX6_told 3 = .ok (.if_icmp .lt 21, 3) := by decide +kernel
theorem dX6_told_6 : decode cX6_told 6 = .ok (.iload_n 3, 1) := by decide +kernel
theorem dX6_told_7 : decode cX6_told 7 = .ok (.bipush 10, 2) := by decide +kernel
theorem dX6_told_9 : decode cX6_told 9 = .ok (.aload_n 0, 1) := by decide +kernel
theorem dX6_told_10 : decode cX6_told 10 = .ok (.getfield 10, 3) := by decide +kernel
theorem dX6_told_13 : decode cX6_told 13 = .ok (.getfield 139, 3) := by decide +kernel
theorem dX6_told_16 : decode cX6_told 16 = .ok (.iadd, 1) := by decide +kernel
theorem dX6_told_17 : decode cX6_told 17 = .ok (.if_icmp .ge 7, 3) := by decide +kernel
theorem dX6_told_20 : decode cX6_told 20 = .ok (.iconst 1, 1) := by decide +kernel
theorem dX6_told_21 : decode cX6_told 21 = .ok (.goto 4, 3) := by decide +kernel
theorem dX6_told_24 : decode cX6_told 24 = .ok (.iconst 0, 1) := by decide +kernel
theorem dX6_told_25 : decode cX6_told 25 = .ok (.istore 4, 2) := by decide +kernel
theorem dX6_told_27 : decode cX6_told 27 = .ok (.iload_n 1, 1) := by decide +kernel
theorem dX6_told_28 : decode cX6_told 28 = .ok (.invokestatic 54, 3) := by decide +kernel
theorem dX6_told_31 : decode cX6_told 31 = .ok (.ifCond .eq 27, 3) := by decide +kernel
theorem dX6_told_34 : decode cX6_told 34 = .ok (.iload_n 2, 1) := by decide +kernel
theorem dX6_told_35 : decode cX6_told 35 = .ok (.ifCond .lt 23, 3) := by decide +kernel
theorem dX6_told_38 : decode cX6_told 38 = .ok (.iload_n 2, 1) := by decide +kernel
theorem dX6_told_39 : decode cX6_told 39 = .ok (.bipush 20, 2) := by decide +kernel
theorem dX6_told_41 : decode cX6_told 41 = .ok (.if_icmp .gt 17, 3) := by decide +kernel
theorem dX6_told_44 : decode cX6_told 44 = .ok (.iload 4, 2) := by decide +kernel
theorem dX6_told_46 : decode cX6_told 46 = .ok (.ifCond .ne 19, 3) := by decide +kernel
theorem dX6_told_49 : decode cX6_told 49 = .ok (.iload_n 3, 1) := by decide +kernel
theorem dX6_told_50 : decode cX6_told 50 = .ok (.ifCond .lt 8, 3) := by decide +kernel
theorem dX6_told_53 : decode cX6_told 53 = .ok (.iload_n 3, 1) := by decide +kernel
theorem dX6_told_54 : decode cX6_told 54 = .ok (.iconst 2, 1) := by decide +kernel
theorem dX6_told_55 : decode cX6_told 55 = .ok (.if_icmp .le 10, 3) := by decide +kernel
theorem dX6_told_58 : decode cX6_told 58 = .ok (.aload_n 0, 1) := by decide +kernel
theorem dX6_told_59 : decode cX6_told 59 = .ok (.bipush (-2), 2) := by decide +kernel
theorem dX6_told_61 : decode cX6_told 61 = .ok (.invokevirtual 58, 3) := by decide +kernel
theorem dX6_told_64 : decode cX6_told 64 = .ok (.ireturn, 1) := by decide +kernel
theorem dX6_told_65 : decode cX6_told 65 = .ok (.aload_n 0, 1) := by decide +kernel
theorem dX6_told_66 : decode cX6_told 66 = .ok (.getfield 24, 3) := by decide +kernel
theorem dX6_told_69 : decode cX6_told 69 = .ok (.iload_n 1, 1) := by decide +kernel
theorem dX6_told_70 : decode cX6_told 70 = .ok (.aaload, 1) := by decide +kernel
theorem dX6_told_71 : decode cX6_told 71 = .ok (.iload_n 2, 1) := by decide +kernel
theorem dX6_told_72 : decode cX6_told 72 = .ok (.invokestatic 66, 3) := by decide +kernel
theorem dX6_told_75 : decode cX6_told 75 = .ok (.istore 5, 2) := by decide +kernel
theorem dX6_told_77 : decode cX6_told 77 = .ok (.iload 5, 2) := by decide +kernel
theorem dX6_told_79 : decode cX6_told 79 = .ok (.ifCond .eq 10, 3) := by decide +kernel
theorem dX6_told_82 : decode cX6_told 82 = .ok (.aload_n 0, 1) := by decide +kernel
theorem dX6_told_83 : decode cX6_told 83 = .ok (.iload 5, 2) := by decide +kernel
theorem dX6_told_85 : decode cX6_told 85 = .ok (.invokevirtual 58, 3) := by decide +kernel
theorem dX6_told_88 : decode cX6_told 88 = .ok (.ireturn, 1) := by decide +kernel
theorem dX6_told_89 : decode cX6_told 89 = .ok (.aload_n 0, 1) := by decide +kernel
theorem dX6_told_90 : decode cX6_told 90 = .ok (.aload_n 0, 1) := by decide +kernel
theorem dX6_told_91 : decode cX6_told 91 = .ok (.getfield 24, 3) := by decide +kernel
theorem dX6_told_94 : decode cX6_told 94 = .ok (.iload_n 1, 1) := by decide +kernel
theorem dX6_told_95 : decode cX6_told 95 = .ok (.aaload, 1) := by decide +kernel
theorem dX6_told_96 : decode cX6_told 96 = .ok (.iload_n 2, 1) := by decide +kernel
theorem dX6_told_97 : decode cX6_told 97 = .ok (.invokevirtual 252, 3) := by decide +kernel
theorem dX6_told_100 : decode cX6_told 100 = .ok (.iconst (-1), 1) := by decide +kernel
theorem dX6_told_101 : decode cX6_told 101 = .ok (.if_icmp .eq 10, 3) := by decide +kernel
theorem dX6_told_104 : decode cX6_told 104 = .ok (.aload_n 0, 1) := by decide +kernel
theorem dX6_told_105 : decode cX6_told 105 = .ok (.bipush (-5), 2) := by decide +kernel
theorem dX6_told_107 : decode cX6_told 107 = .ok (.invokevirtual 58, 3) := by decide +kernel
theorem dX6_told_110 : decode cX6_told 110 = .ok (.ireturn, 1) := by decide +kernel
theorem dX6_told_111 : decode cX6_told 111 = .ok (.iload_n 3, 1) := by decide +kernel
theorem dX6_told_112 : decode cX6_told 112 = .ok (.tableswitch 60 0 2 #[28, 36, 52], 28) := by decide +kernel
theorem dX6_told_140 : decode cX6_told 140 = .ok (.aload_n 0, 1) := by decide +kernel
theorem dX6_told_141 : decode cX6_told 141 = .ok (.getfield 16, 3) := by decide +kernel
theorem dX6_told_144 : decode cX6_told 144 = .ok (.getfield 154, 3) := by decide +kernel
theorem dX6_told_147 : decode cX6_told 147 = .ok (.ireturn, 1) := by decide +kernel
theorem dX6_told_148 : decode cX6_told 148 = .ok (.aload_n 0, 1) := by decide +kernel
theorem dX6_told_149 : decode cX6_told 149 = .ok (.getfield 16, 3) := by decide +kernel
theorem dX6_told_152 : decode cX6_told 152 = .ok (.getfield 255, 3) := by decide +kernel
theorem dX6_told_155 : decode cX6_told 155 = .ok (.aload_n 0, 1) := by decide +kernel
theorem dX6_told_156 : decode cX6_told 156 = .ok (.getfield 10, 3) := by decide +kernel
theorem dX6_told_159 : decode cX6_told 159 = .ok (.getfield 255, 3) := by decide +kernel
theorem dX6_told_162 : decode cX6_told 162 = .ok (.isub, 1) := by decide +kernel
theorem dX6_told_163 : decode cX6_told 163 = .ok (.ireturn, 1) := by decide +kernel
theorem dX6_told_164 : decode cX6_told 164 = .ok (.aload_n 0, 1) := by decide +kernel
theorem dX6_told_165 : decode cX6_told 165 = .ok (.getfield 16, 3) := by decide +kernel
theorem dX6_told_168 : decode cX6_told 168 = .ok (.invokevirtual 223, 3) := by decide +kernel
theorem dX6_told_171 : decode cX6_told 171 = .ok (.ireturn, 1) := by decide +kernel
theorem dX6_told_172 : decode cX6_told 172 = .ok (.iload 4, 2) := by decide +kernel
theorem dX6_told_174 : decode cX6_told 174 = .ok (.ifCond .eq 18, 3) := by decide +kernel
theorem dX6_told_177 : decode cX6_told 177 = .ok (.aload_n 0, 1) := by decide +kernel
theorem dX6_told_178 : decode cX6_told 178 = .ok (.getfield 16, 3) := by decide +kernel
theorem dX6_told_181 : decode cX6_told 181 = .ok (.getfield 160, 3) := by decide +kernel
theorem dX6_told_184 : decode cX6_told 184 = .ok (.iload_n 3, 1) := by decide +kernel
theorem dX6_told_185 : decode cX6_told 185 = .ok (.bipush 10, 2) := by decide +kernel
theorem dX6_told_187 : decode cX6_told 187 = .ok (.isub, 1) := by decide +kernel
theorem dX6_told_188 : decode cX6_told 188 = .ok (.iaload, 1) := by decide +kernel
theorem dX6_told_189 : decode cX6_told 189 = .ok (.goto 4, 3) := by decide +kernel
theorem dX6_told_192 : decode cX6_told 192 = .ok (.iconst (-1), 1) := by decide +kernel
theorem dX6_told_193 : decode cX6_told 193 = .ok (.ireturn, 1) := by decide +kernel
theorem dX6_evening_0 : decode cX6_evening 0 = .ok (.iload_n 1, 1) := by decide +kernel
theorem dX6_evening_1 : decode cX6_evening 1 = .ok (.iconst 1, 1) := by decide +kernel
theorem dX6_evening_2 : decode cX6_evening 2 = .ok (.if_icmp .lt 9, 3) := by decide +kernel
theorem dX6_evening_5 : decode cX6_evening 5 = .ok (.iload_n 1, 1) := by decide +kernel
theorem dX6_evening_6 : decode cX6_evening 6 = .ok (.bipush 60, 2) := by decide +kernel
theorem dX6_evening_8 : decode cX6_evening 8 = .ok (.if_icmp .le 10, 3) := by decide +kernel
theorem dX6_evening_11 : decode cX6_evening 11 = .ok (.aload_n 0, 1) := by decide +kernel
theorem dX6_evening_12 : decode cX6_evening 12 = .ok (.bipush (-2), 2) := by decide +kernel
theorem dX6_evening_14 : decode cX6_evening 14 = .ok (.invokevirtual 58, 3) := by decide +kernel
theorem dX6_evening_17 : decode cX6_evening 17 = .ok (.ireturn, 1) := by decide +kernel
theorem dX6_evening_18 : decode cX6_evening 18 = .ok (.aload_n 0, 1) := by decide +kernel
theorem dX6_evening_19 : decode cX6_evening 19 = .ok (.getfield 10, 3) := by decide +kernel
theorem dX6_evening_22 : decode cX6_evening 22 = .ok (.getfield 132, 3) := by decide +kernel
theorem dX6_evening_25 : decode cX6_evening 25 = .ok (.ifCond .eq 13, 3) := by decide +kernel
theorem dX6_evening_28 : decode cX6_evening 28 = .ok (.aload_n 0, 1) := by decide +kernel
theorem dX6_evening_29 : decode cX6_evening 29 = .ok (.getfield 10, 3) := by decide +kernel
theorem dX6_evening_32 : decode cX6_evening 32 = .ok (.getfield 139, 3) := by decide +kernel
theorem dX6_evening_35 : decode cX6_evening 35 = .ok (.ifCond .ne 10, 3) := by decide +kernel
theorem dX6_evening_38 : decode cX6_evening 38 = .ok (.aload_n 0, 1) := by decide +kernel
theorem dX6_evening_39 : decode cX6_evening 39 = .ok (.bipush (-5), 2) := by decide +kernel
theorem dX6_evening_41 : decode cX6_evening 41 = .ok (.invokevirtual 58, 3) := by decide +kernel
theorem dX6_evening_44 : decode cX6_evening 44 = .ok (.ireturn, 1) := by decide +kernel
theorem dX6_evening_45 : decode cX6_evening 45 = .ok (.aload_n 0, 1) := by decide +kernel
theorem dX6_evening_46 : decode cX6_evening 46 = .ok (.getfield 10, 3) := by decide +kernel
theorem dX6_evening_49 : decode cX6_evening 49 = .ok (.getfield 255, 3) := by decide +kernel
theorem dX6_evening_52 : decode cX6_evening 52 = .ok (.istore_n 2, 1) := by decide +kernel
theorem dX6_evening_53 : decode cX6_evening 53 = .ok (.iconst 0, 1) := by decide +kernel
theorem dX6_evening_54 : decode cX6_evening 54 = .ok (.istore_n 3, 1) := by decide +kernel
theorem dX6_evening_55 : decode cX6_evening 55 = .ok (.iload_n 3, 1) := by decide +kernel
theorem dX6_evening_56 : decode cX6_evening 56 = .ok (.iload_n 1, 1) := by decide +kernel
theorem dX6_evening_57 : decode cX6_evening 57 = .ok (.if_icmp .ge 16, 3) := by decide +kernel
theorem dX6_evening_60 : decode cX6_evening 60 = .ok (.aload_n 0, 1) := by decide +kernel
theorem dX6_evening_61 : decode cX6_evening 61 = .ok (.getfield 10, 3) := by decide +kernel
theorem dX6_evening_64 : decode cX6_evening 64 = .ok (.invokevirtual 258, 3) := by decide +kernel
theorem dX6_evening_67 : decode cX6_evening 67 = .ok (.iinc 3 1, 3) := by decide +kernel
theorem dX6_evening_70 : decode cX6_evening 70 = .ok (.goto (-15), 3) := by decide +kernel
theorem dX6_evening_73 : decode cX6_evening 73 = .ok (.aload_n 0, 1) := by decide +kernel
theorem dX6_evening_74 : decode cX6_evening 74 = .ok (.getfield 10, 3) := by decide +kernel
theorem dX6_evening_77 : decode cX6_evening 77 = .ok (.getfield 255, 3) := by decide +kernel
theorem dX6_evening_80 : decode cX6_evening 80 = .ok (.iload_n 2, 1) := by decide +kernel
theorem dX6_evening_81 : decode cX6_evening 81 = .ok (.isub, 1) := by decide +kernel
theorem dX6_evening_82 : decode cX6_evening 82 = .ok (.ireturn, 1) := by decide +kernel
theorem dX6_night_0 : decode cX6_night 0 = .ok (.aload_n 0, 1) := by decide +kernel
theorem dX6_night_1 : decode cX6_night 1 = .ok (.getfield 10, 3) := by decide +kernel
theorem dX6_night_4 : decode cX6_night 4 = .ok (.invokevirtual 261, 3) := by decide +kernel
theorem dX6_night_7 : decode cX6_night 7 = .ok (.ireturn, 1) := by decide +kernel
theorem dX6_seed_0 : decode cX6_seed 0 = .ok (.aload_n 0, 1) := by decide +kernel
theorem dX6_seed_1 : decode cX6_seed 1 = .ok (.getfield 10, 3) := by decide +kernel
theorem dX6_seed_4 : decode cX6_seed 4 = .ok (.getfield 264, 3) := by decide +kernel
theorem dX6_seed_7 : decode cX6_seed 7 = .ok (.istore_n 2, 1) := by decide +kernel
theorem dX6_seed_8 : decode cX6_seed 8 = .ok (.aload_n 0, 1) := by decide +kernel
theorem dX6_seed_9 : decode cX6_seed 9 = .ok (.getfield 10, 3) := by decide +kernel
theorem dX6_seed_12 : decode cX6_seed 12 = .ok (.iload_n 1, 1) := by decide +kernel
theorem dX6_seed_13 : decode cX6_seed 13 = .ok (.putfield 264, 3) := by decide +kernel
theorem dX6_seed_16 : decode cX6_seed 16 = .ok (.iload_n 2, 1) := by decide +kernel
theorem dX6_seed_17 : decode cX6_seed 17 = .ok (.ireturn, 1) := by decide +kernel
theorem dX6_image_0 : decode cX6_image 0 = .ok (.aload_n 0, 1) := by decide +kernel
theorem dX6_image_1 : decode cX6_image 1 = .ok (.getfield 19, 3) := by decide +kernel
theorem dX6_image_4 : decode cX6_image 4 = .ok (.aload_n 0, 1) := by decide +kernel
theorem dX6_image_5 : decode cX6_image 5 = .ok (.getfield 10, 3) := by decide +kernel
theorem dX6_image_8 : decode cX6_image 8 = .ok (.invokevirtual 169, 3) := by decide +kernel
theorem dX6_image_11 : decode cX6_image 11 = .ok (.aload_n 0, 1) := by decide +kernel
theorem dX6_image_12 : decode cX6_image 12 = .ok (.iconst 1, 1) := by decide +kernel
theorem dX6_image_13 : decode cX6_image 13 = .ok (.putfield 267, 3) := by decide +kernel
theorem dX6_image_16 : decode cX6_image 16 = .ok (.iconst 1, 1) := by decide +kernel
theorem dX6_image_17 : decode cX6_image 17 = .ok (.ireturn, 1) := by decide +kernel
theorem dX6_back_0 : decode cX6_back 0 = .ok (.aload_n 0, 1) := by decide +kernel
theorem dX6_back_1 : decode cX6_back 1 = .ok (.getfield 267, 3) := by decide +kernel
theorem dX6_back_4 : decode cX6_back 4 = .ok (.ifCond .ne 10, 3) := by decide +kernel
theorem dX6_back_7 : decode cX6_back 7 = .ok (.aload_n 0, 1) := by decide +kernel
theorem dX6_back_8 : decode cX6_back 8 = .ok (.bipush (-5), 2) := by decide +kernel
theorem dX6_back_10 : decode cX6_back 10 = .ok (.invokevirtual 58, 3) := by decide +kernel
theorem dX6_back_13 : decode cX6_back 13 = .ok (.ireturn, 1) := by decide +kernel
theorem dX6_back_14 : decode cX6_back 14 = .ok (.aload_n 0, 1) := by decide +kernel
theorem dX6_back_15 : decode cX6_back 15 = .ok (.getfield 10, 3) := by decide +kernel
theorem dX6_back_18 : decode cX6_back 18 = .ok (.aload_n 0, 1) := by decide +kernel
theorem dX6_back_19 : decode cX6_back 19 = .ok (.getfield 19, 3) := by decide +kernel
theorem dX6_back_22 : decode cX6_back 22 = .ok (.invokevirtual 169, 3) := by decide +kernel
theorem dX6_back_25 : decode cX6_back 25 = .ok (.iconst 0, 1) := by decide +kernel
theorem dX6_back_26 : decode cX6_back 26 = .ok (.istore_n 1, 1) := by decide +kernel
theorem dX6_back_27 : decode cX6_back 27 = .ok (.iload_n 1, 1) := by decide +kernel
theorem dX6_back_28 : decode cX6_back 28 = .ok (.bipush 8, 2) := by decide +kernel
theorem dX6_back_30 : decode cX6_back 30 = .ok (.if_icmp .ge 49, 3) := by decide +kernel
theorem dX6_back_33 : decode cX6_back 33 = .ok (.aload_n 0, 1) := by decide +kernel
theorem dX6_back_34 : decode cX6_back 34 = .ok (.getfield 24, 3) := by decide +kernel
theorem dX6_back_37 : decode cX6_back 37 = .ok (.iload_n 1, 1) := by decide +kernel
theorem dX6_back_38 : decode cX6_back 38 = .ok (.aaload, 1) := by decide +kernel
theorem dX6_back_39 : decode cX6_back 39 = .ok (.invokevirtual 77, 3) := by decide +kernel
theorem dX6_back_42 : decode cX6_back 42 = .ok (.ifCond .eq 31, 3) := by decide +kernel
theorem dX6_back_45 : decode cX6_back 45 = .ok (.aload_n 0, 1) := by decide +kernel
theorem dX6_back_46 : decode cX6_back 46 = .ok (.getfield 10, 3) := by decide +kernel
theorem dX6_back_49 : decode cX6_back 49 = .ok (.aload_n 0, 1) := by decide +kernel
theorem dX6_back_50 : decode cX6_back 50 = .ok (.getfield 24, 3) := by decide +kernel
theorem dX6_back_53 : decode cX6_back 53 = .ok (.iload_n 1, 1) := by decide +kernel
theorem dX6_back_54 : decode cX6_back 54 = .ok (.aaload, 1) := by decide +kernel
theorem dX6_back_55 : decode cX6_back 55 = .ok (.invokevirtual 115, 3) := by decide +kernel
theorem dX6_back_58 : decode cX6_back 58 = .ok (.invokevirtual 102, 3) := by decide +kernel
theorem dX6_back_61 : decode cX6_back 61 = .ok (.ifCond .ne 12, 3) := by decide +kernel
theorem dX6_back_64 : decode cX6_back 64 = .ok (.aload_n 0, 1) := by decide +kernel
theorem dX6_back_65 : decode cX6_back 65 = .ok (.getfield 24, 3) := by decide +kernel
theorem dX6_back_68 : decode cX6_back 68 = .ok (.iload_n 1, 1) := by decide +kernel
theorem dX6_back_69 : decode cX6_back 69 = .ok (.aaload, 1) := by decide +kernel
theorem dX6_back_70 : decode cX6_back 70 = .ok (.invokevirtual 105, 3) := by decide +kernel
theorem dX6_back_73 : decode cX6_back 73 = .ok (.iinc 1 1, 3) := by decide +kernel
theorem dX6_back_76 : decode cX6_back 76 = .ok (.goto (-49), 3) := by decide +kernel
theorem dX6_back_79 : decode cX6_back 79 = .ok (.iconst 1, 1) := by decide +kernel
theorem dX6_back_80 : decode cX6_back 80 = .ok (.ireturn, 1) := by decide +kernel
theorem dX6_fullShelves_0 : decode cX6_fullShelves 0 = .ok (.iconst 0, 1) := by decide +kernel
theorem dX6_fullShelves_1 : decode cX6_fullShelves 1 = .ok (.istore_n 1, 1) := by decide +kernel
theorem dX6_fullShelves_2 : decode cX6_fullShelves 2 = .ok (.iconst 0, 1) := by decide +kernel
theorem dX6_fullShelves_3 : decode cX6_fullShelves 3 = .ok (.istore_n 2, 1) := by decide +kernel
theorem dX6_fullShelves_4 : decode cX6_fullShelves 4 = .ok (.iload_n 2, 1) := by decide +kernel
theorem dX6_fullShelves_5 : decode cX6_fullShelves 5 = .ok (.bipush 8, 2) := by decide +kernel
theorem dX6_fullShelves_7 : decode cX6_fullShelves 7 = .ok (.if_icmp .ge 24, 3) := by decide +kernel
theorem dX6_fullShelves_10 : decode cX6_fullShelves 10 = .ok (.aload_n 0, 1) := by decide +kernel
theorem dX6_fullShelves_11 : decode cX6_fullShelves 11 = .ok (.getfield 24, 3) := by decide +kernel
theorem dX6_fullShelves_14 : decode cX6_fullShelves 14 = .ok (.iload_n 2, 1) := by decide +kernel
theorem dX6_fullShelves_15 : decode cX6_fullShelves 15 = .ok (.aaload, 1) := by decide +kernel
theorem dX6_fullShelves_16 : decode cX6_fullShelves 16 = .ok (.invokevirtual 81, 3) := by decide +kernel
theorem dX6_fullShelves_19 : decode cX6_fullShelves 19 = .ok (.ifCond .ne 6, 3) := by decide +kernel
theorem dX6_fullShelves_22 : decode cX6_fullShelves 22 = .ok (.iinc 1 1, 3) := by decide +kernel
theorem dX6_fullShelves_25 : decode cX6_fullShelves 25 = .ok (.iinc 2 1, 3) := by decide +kernel
theorem dX6_fullShelves_28 : decode cX6_fullShelves 28 = .ok (.goto (-24), 3) := by decide +kernel
theorem dX6_fullShelves_31 : decode cX6_fullShelves 31 = .ok (.iload_n 1, 1) := by decide +kernel
theorem dX6_fullShelves_32 : decode cX6_fullShelves 32 = .ok (.ireturn, 1) := by decide +kernel
theorem dX6_status_0 : decode cX6_status 0 = .ok (.iload_n 1, 1) := by decide +kernel
theorem dX6_status_1 : decode cX6_status 1 = .ok (.tableswitch 123 0 8 #[51, 59, 70, 78, 86, 94, 102, 110, 118], 51) := by decide +kernel
theorem dX6_status_52 : decode cX6_status 52 = .ok (.aload_n 0, 1) := by decide +kernel
theorem dX6_status_53 : decode cX6_status 53 = .ok (.getfield 10, 3) := by decide +kernel
theorem dX6_status_56 : decode cX6_status 56 = .ok (.getfield 132, 3) := by decide +kernel
theorem dX6_status_59 : decode cX6_status 59 = .ok (.ireturn, 1) := by decide +kernel
theorem dX6_status_60 : decode cX6_status 60 = .ok (.aload_n 0, 1) := by decide +kernel
theorem dX6_status_61 : decode cX6_status 61 = .ok (.getfield 10, 3) := by decide +kernel
theorem dX6_status_64 : decode cX6_status 64 = .ok (.getfield 154, 3) := by decide +kernel
theorem dX6_status_67 : decode cX6_status 67 = .ok (.invokestatic 271, 3) := by decide +kernel
theorem dX6_status_70 : decode cX6_status 70 = .ok (.ireturn, 1) := by decide +kernel
theorem dX6_status_71 : decode cX6_status 71 = .ok (.aload_n 0, 1) := by decide +kernel
theorem dX6_status_72 : decode cX6_status 72 = .ok (.getfield 10, 3) := by decide +kernel
theorem dX6_status_75 : decode cX6_status 75 = .ok (.getfield 139, 3) := by decide +kernel
theorem dX6_status_78 : decode cX6_status 78 = .ok (.ireturn, 1) := by decide +kernel
theorem dX6_status_79 : decode cX6_status 79 = .ok (.aload_n 0, 1) := by decide +kernel
theorem dX6_status_80 : decode cX6_status 80 = .ok (.getfield 10, 3) := by decide +kernel
theorem dX6_status_83 : decode cX6_status 83 = .ok (.getfield 145, 3) := by decide +kernel
theorem dX6_status_86 : decode cX6_status 86 = .ok (.ireturn, 1) := by decide +kernel
theorem dX6_status_87 : decode cX6_status 87 = .ok (.aload_n 0, 1) := by decide +kernel
theorem dX6_status_88 : decode cX6_status 88 = .ok (.getfield 10, 3) := by decide +kernel
theorem dX6_status_91 : decode cX6_status 91 = .ok (.getfield 148, 3) := by decide +kernel
theorem dX6_status_94 : decode cX6_status 94 = .ok (.ireturn, 1) := by decide +kernel
theorem dX6_status_95 : decode cX6_status 95 = .ok (.aload_n 0, 1) := by decide +kernel
theorem dX6_status_96 : decode cX6_status 96 = .ok (.getfield 10, 3) := by decide +kernel
theorem dX6_status_99 : decode cX6_status 99 = .ok (.getfield 255, 3) := by decide +kernel
theorem dX6_status_102 : decode cX6_status 102 = .ok (.ireturn, 1) := by decide +kernel
theorem dX6_status_103 : decode cX6_status 103 = .ok (.aload_n 0, 1) := by decide +kernel
theorem dX6_status_104 : decode cX6_status 104 = .ok (.getfield 31, 3) := by decide +kernel
theorem dX6_status_107 : decode cX6_status 107 = .ok (.getfield 163, 3) := by decide +kernel
theorem dX6_status_110 : decode cX6_status 110 = .ok (.ireturn, 1) := by decide +kernel
theorem dX6_status_111 : decode cX6_status 111 = .ok (.aload_n 0, 1) := by decide +kernel
theorem dX6_status_112 : decode cX6_status 112 = .ok (.getfield 10, 3) := by decide +kernel
theorem dX6_status_115 : decode cX6_status 115 = .ok (.getfield 264, 3) := by decide +kernel
theorem dX6_status_118 : decode cX6_status 118 = .ok (.ireturn, 1) := by decide +kernel
theorem dX6_status_119 : decode cX6_status 119 = .ok (.aload_n 0, 1) := by decide +kernel
theorem dX6_status_120 : decode cX6_status 120 = .ok (.invokevirtual 276, 3) := by decide +kernel
theorem dX6_status_123 : decode cX6_status 123 = .ok (.ireturn, 1) := by decide +kernel
theorem dX6_status_124 : decode cX6_status 124 = .ok (.iload_n 1, 1) := by decide +kernel
theorem dX6_status_125 : decode cX6_status 125 = .ok (.bipush 12, 2) := by decide +kernel
theorem dX6_status_127 : decode cX6_status 127 = .ok (.if_icmp .lt 21, 3) := by decide +kernel
theorem dX6_status_130 : decode cX6_status 130 = .ok (.iload_n 1, 1) := by decide +kernel
theorem dX6_status_131 : decode cX6_status 131 = .ok (.bipush 17, 2) := by decide +kernel
theorem dX6_status_133 : decode cX6_status 133 = .ok (.if_icmp .ge 15, 3) := by decide +kernel
theorem dX6_status_136 : decode cX6_status 136 = .ok (.aload_n 0, 1) := by decide +kernel
theorem dX6_status_137 : decode cX6_status 137 = .ok (.getfield 49, 3) := by decide +kernel
theorem dX6_status_140 : decode cX6_status 140 = .ok (.iload_n 1, 1) := by decide +kernel
theorem dX6_status_141 : decode cX6_status 141 = .ok (.bipush 12, 2) := by decide +kernel
theorem dX6_status_143 : decode cX6_status 143 = .ok (.isub, 1) := by decide +kernel
theorem dX6_status_144 : decode cX6_status 144 = .ok (.iaload, 1) := by decide +kernel
theorem dX6_status_145 : decode cX6_status 145 = .ok (.goto 4, 3) := by decide +kernel
theorem dX6_status_148 : decode cX6_status 148 = .ok (.iconst (-1), 1) := by decide +kernel
theorem dX6_status_149 : decode cX6_status 149 = .ok (.ireturn, 1) := by decide +kernel
theorem dX7_init_0 : decode cX7_init 0 = .ok (.aload_n 0, 1) := by decide +kernel
theorem dX7_init_1 : decode cX7_init 1 = .ok (.invokespecial 1, 3) := by decide +kernel
theorem dX7_init_4 : decode cX7_init 4 = .ok (.aload_n 0, 1) := by decide +kernel
theorem dX7_init_5 : decode cX7_init 5 = .ok (.bipush 8, 2) := by decide +kernel
theorem dX7_init_7 : decode cX7_init 7 = .ok (.newarray .int, 2) := by decide +kernel
theorem dX7_init_9 : decode cX7_init 9 = .ok (.putfield 7, 3) := by decide +kernel
theorem dX7_init_12 : decode cX7_init 12 = .ok (.aload_n 0, 1) := by decide +kernel
theorem dX7_init_13 : decode cX7_init 13 = .ok (.bipush 8, 2) := by decide +kernel
theorem dX7_init_15 : decode cX7_init 15 = .ok (.newarray .int, 2) := by decide +kernel
theorem dX7_init_17 : decode cX7_init 17 = .ok (.putfield 13, 3) := by decide +kernel
theorem dX7_init_20 : decode cX7_init 20 = .ok (.aload_n 0, 1) := by decide +kernel
theorem dX7_init_21 : decode cX7_init 21 = .ok (.bipush 8, 2) := by decide +kernel
theorem dX7_init_23 : decode cX7_init 23 = .ok (.newarray .int, 2) := by decide +kernel
theorem dX7_init_25 : decode cX7_init 25 = .ok (.putfield 16, 3) := by decide +kernel
theorem dX7_init_28 : decode cX7_init 28 = .ok (.aload_n 0, 1) := by decide +kernel
theorem dX7_init_29 : decode cX7_init 29 = .ok (.bipush 8, 2) := by decide +kernel
theorem dX7_init_31 : decode cX7_init 31 = .ok (.bipush 40, 2) := by decide +kernel
theorem dX7_init_33 : decode cX7_init 33 = .ok (.multianewarray 19 2, 4) := by decide +kernel
theorem dX7_init_37 : decode cX7_init 37 = .ok (.putfield 21, 3) := by decide +kernel
theorem dX7_init_40 : decode cX7_init 40 = .ok (.aload_n 0, 1) := by decide +kernel
theorem dX7_init_41 : decode cX7_init 41 = .ok (.bipush 40, 2) := by decide +kernel
theorem dX7_init_43 : decode cX7_init 43 = .ok (.newarray .long, 2) := by decide +kernel
theorem dX7_init_45 : decode cX7_init 45 = .ok (.putfield 24, 3) := by decide +kernel
theorem dX7_init_48 : decode cX7_init 48 = .ok (.aload_n 0, 1) := by decide +kernel
theorem dX7_init_49 : decode cX7_init 49 = .ok (.bipush 8, 2) := by decide +kernel
theorem dX7_init_51 : decode cX7_init 51 = .ok (.newarray .int, 2) := by decide +kernel
theorem dX7_init_53 : decode cX7_init 53 = .ok (.putfield 28, 3) := by decide +kernel
theorem dX7_init_56 : decode cX7_init 56 = .ok (.aload_n 0, 1) := by decide +kernel
theorem dX7_init_57 : decode cX7_init 57 = .ok (.sipush 250, 3) := by decide +kernel
theorem dX7_init_60 : decode cX7_init 60 = .ok (.newarray .int, 2) := by decide +kernel
theorem dX7_init_62 : decode cX7_init 62 = .ok (.putfield 31, 3) := by decide +kernel
theorem dX7_init_65 : decode cX7_init 65 = .ok (.aload_n 0, 1) := by decide +kernel
theorem dX7_init_66 : decode cX7_init 66 = .ok (.bipush 8, 2) := by decide +kernel
theorem dX7_init_68 : decode cX7_init 68 = .ok (.newarray .int, 2) := by decide +kernel
theorem dX7_init_70 : decode cX7_init 70 = .ok (.putfield 34, 3) := by decide +kernel
theorem dX7_init_73 : decode cX7_init 73 = .ok (.aload_n 0, 1) := by decide +kernel
theorem dX7_init_74 : decode cX7_init 74 = .ok (.bipush 14, 2) := by decide +kernel
theorem dX7_init_76 : decode cX7_init 76 = .ok (.iconst 3, 1) := by decide +kernel
theorem dX7_init_77 : decode cX7_init 77 = .ok (.multianewarray 37 2, 4) := by decide +kernel
theorem dX7_init_81 : decode cX7_init 81 = .ok (.putfield 39, 3) := by decide +kernel
theorem dX7_init_84 : decode cX7_init 84 = .ok (.aload_n 0, 1) := by decide +kernel
theorem dX7_init_85 : decode cX7_init 85 = .ok (.iconst 4, 1) := by decide +kernel
theorem dX7_init_86 : decode cX7_init 86 = .ok (.newarray .int, 2) := by decide +kernel
theorem dX7_init_88 : decode cX7_init 88 = .ok (.putfield 42, 3) := by decide +kernel
theorem dX7_init_91 : decode cX7_init 91 = .ok (.aload_n 0, 1) := by decide +kernel
theorem dX7_init_92 : decode cX7_init 92 = .ok (.iconst 2, 1) := by decide +kernel
theorem dX7_init_93 : decode cX7_init 93 = .ok (.putfield 45, 3) := by decide +kernel
theorem dX7_init_96 : decode cX7_init 96 = .ok (.aload_n 0, 1) := by decide +kernel
theorem dX7_init_97 : decode cX7_init 97 = .ok (.iconst 1, 1) := by decide +kernel
theorem dX7_init_98 : decode cX7_init 98 = .ok (.putfield 49, 3) := by decide +kernel
theorem dX7_init_101 : decode cX7_init 101 = .ok (.aload_n 0, 1) := by decide +kernel
theorem dX7_init_102 : decode cX7_init 102 = .ok (.iconst 3, 1) := by decide +kernel
theorem dX7_init_103 : decode cX7_init 103 = .ok (.newarray .int, 2) := by decide +kernel
theorem dX7_init_105 : decode cX7_init 105 = .ok (.putfield 52, 3) := by decide +kernel
theorem dX7_init_108 : decode cX7_init 108 = .ok (.aload_n 0, 1) := by decide +kernel
theorem dX7_init_109 : decode cX7_init 109 = .ok (.iconst 4, 1) := by decide +kernel
theorem dX7_init_110 : decode cX7_init 110 = .ok (.newarray .int, 2) := by decide +kernel
theorem dX7_init_112 : decode cX7_init 112 = .ok (.putfield 55, 3) := by decide +kernel
theorem dX7_init_115 : decode cX7_init 115 = .ok (.aload_n 0, 1) := by decide +kernel
theorem dX7_init_116 : decode cX7_init 116 = .ok (.sipush 512, 3) := by decide +kernel
theorem dX7_init_119 : decode cX7_init 119 = .ok (.newarray .int, 2) := by decide +kernel
theorem dX7_init_121 : decode cX7_init 121 = .ok (.putfield 58, 3) := by decide +kernel
theorem dX7_init_124 : decode cX7_init 124 = .ok (.return_, 1) := by decide +kernel
def f_X6_spare_L6 (n : Nat) (v0 : Nat) : Nat → Int32 → Int32 → Int32 → xH → Option (Int32 × xH)
  | 0, _, _, _, _ => none
  | k + 1, v1, v2, v3, h =>
    (x_gR h v0 6 0).bind fun a1 =>
    (x_gI h a1 0 4).bind fun x2 =>
    if x2 ≤ v3 then
      some (v1, h)
    else
      (x_gR h v0 6 0).bind fun a3 =>
      (x_ob h a3 0).bind fun u4 =>
      (f_X0_isOpen h a3 v3).bind fun q5 =>
      if q5 = 0 then
        (some (v3 + (1 : Int32))).bind fun x6 =>
        f_X6_spare_L6 n v0 k v1 v2 x6 h
      else
        (x_gR h v0 6 7).bind fun a7 =>
        (x_gR h v0 6 0).bind fun a8 =>
        (x_gR h v0 6 0).bind fun a9 =>
        (x_gI h a9 0 7).bind fun x10 =>
        (x_gR h v0 6 0).bind fun a11 =>
        (x_gI h a11 0 5).bind fun x12 =>
        (x_ob h a7 1).bind fun u13 =>
        (f_X1_most n h a7 a8 x10 (x12 &&& ((i_shl (1 : Int32) v3) ^^^ (-1 : Int32))) (0 : Int32)).bind fun q14 =>
        if q14.1 ≤ v2 then
          (some (v3 + (1 : Int32))).bind fun x15 =>
          f_X6_spare_L6 n v0 k v1 v2 x15 q14.2
        else
          (some (v3 + (1 : Int32))).bind fun x16 =>
          f_X6_spare_L6 n v0 k v3 q14.1 x16 q14.2
set_option maxRecDepth 100000 in
set_option maxHeartbeats 4000000 in
theorem l_X6_spare_6 {S : Nat × (Nat → Int32)} {rv : Option Value} {h0 h1 : xH} {mc ms : Nat} {cells slots : Nat} (hm : cells ≤ mc ∧ slots ≤ ms) (n : Nat) (v0 : Nat) : ∀ (k : Nat) (v1 : Int32) (v2 : Int32) (v3 : Int32) (h : xH) (res : Int32 × xH), f_X6_spare_L6 n v0 k v1 v2 v3 h = some res → (∀ r9, res = r9 → Y S M_X6_spare h0 rv h1 mc ms 79 [(0, .ref v0), (1, .int r9.1)] [] r9.2 cells slots) → Y S M_X6_spare h0 rv h1 mc ms 6 [(0, .ref v0), (1, .int v1), (2, .int v2), (3, .int v3)] [] h cells slots := by
  intro k
  induction k with
  | zero =>
    intro _ _ _ _ _ hE
    cases hE
  | succ k ih =>
    intro v1 v2 v3 h res hE K
    unfold f_X6_spare_L6 at hE
    refine y_iload_n dX6_spare_6 3 rfl ?_
    refine y_aload_n dX6_spare_7 0 rfl ?_
    obtain ⟨a1, ea1, hE⟩ := Option.bind_eq_some_iff.mp hE
    refine y_getR fl_X6_10 ea1 dX6_spare_8 ?_
    obtain ⟨x2, ex2, hE⟩ := Option.bind_eq_some_iff.mp hE
    refine y_getI fl_X6_132 ex2 dX6_spare_11 ?_
    refine y_icmp_ge (tgt := 79) dX6_spare_14 (by decide) (fun hc19 => ?_) (fun hc19 => ?_)
    · rw [if_pos hc19] at hE
      obtain rfl := Option.some.inj hE
      exact y_pick [0, 1] rfl (K _ rfl)
    · rw [if_neg hc19] at hE
      refine y_aload_n dX6_spare_17 0 rfl ?_
      obtain ⟨a3, ea3, hE⟩ := Option.bind_eq_some_iff.mp hE
      refine y_getR fl_X6_10 ea3 dX6_spare_18 ?_
      refine y_iload_n dX6_spare_21 3 rfl ?_
      obtain ⟨u4, eu4, hE⟩ := Option.bind_eq_some_iff.mp hE
      obtain ⟨q5, eq5, hE⟩ := Option.bind_eq_some_iff.mp hE
      refine y_cVi0 (st := []) (as := [.int v3]) (c_X0_isOpen eq5) lk_X6_151 in_X0_isOpen se_X0_isOpen rfl eu4 ⟨Nat.le_of_ble_eq_true rfl, Nat.le_of_ble_eq_true rfl⟩ (Nat.le_of_ble_eq_true rfl) dX6_spare_22 hm rfl ?_
      refine y_if_eq (tgt := 73) dX6_spare_25 (by decide) (fun hc18 => ?_) (fun hc18 => ?_)
      · rw [if_pos hc18] at hE
        obtain ⟨x6, ex6, hE⟩ := Option.bind_eq_some_iff.mp hE
        refine y_iinc (ls' := [(3, .int x6), (0, .ref v0), (1, .int v1), (2, .int v2)]) dX6_spare_73 3 rfl (Option.some.inj ex6) (by decide) rfl ?_
        refine y_goto (tgt := 6) dX6_spare_76 (by decide) ?_
        refine y_pick [1, 2, 3, 0] rfl ?_
        exact ih _ _ _ _ _ hE K
      · rw [if_neg hc18] at hE
        refine y_aload_n dX6_spare_28 0 rfl ?_
        obtain ⟨a7, ea7, hE⟩ := Option.bind_eq_some_iff.mp hE
        refine y_getR fl_X6_45 ea7 dX6_spare_29 ?_
        refine y_aload_n dX6_spare_32 0 rfl ?_
        obtain ⟨a8, ea8, hE⟩ := Option.bind_eq_some_iff.mp hE
        refine y_getR fl_X6_10 ea8 dX6_spare_33 ?_
        refine y_aload_n dX6_spare_36 0 rfl ?_
        obtain ⟨a9, ea9, hE⟩ := Option.bind_eq_some_iff.mp hE
        refine y_getR fl_X6_10 ea9 dX6_spare_37 ?_
        obtain ⟨x10, ex10, hE⟩ := Option.bind_eq_some_iff.mp hE
        refine y_getI fl_X6_145 ex10 dX6_spare_40 ?_
        refine y_aload_n dX6_spare_43 0 rfl ?_
        obtain ⟨a11, ea11, hE⟩ := Option.bind_eq_some_iff.mp hE
        refine y_getR fl_X6_10 ea11 dX6_spare_44 ?_
        obtain ⟨x12, ex12, hE⟩ := Option.bind_eq_some_iff.mp hE
        refine y_getI fl_X6_154 ex12 dX6_spare_47 ?_
        refine y_iconst (v := (1 : Int32)) dX6_spare_50 (by decide) ?_
        refine y_iload_n dX6_spare_51 3 rfl ?_
        refine y_ishl dX6_spare_52 ?_
        refine y_iconst (v := (-1 : Int32)) dX6_spare_53 (by decide) ?_
        refine y_ixor dX6_spare_54 ?_
        refine y_iand dX6_spare_55 ?_
        refine y_iconst (v := (0 : Int32)) dX6_spare_56 (by decide) ?_
        obtain ⟨u13, eu13, hE⟩ := Option.bind_eq_some_iff.mp hE
        obtain ⟨q14, eq14, hE⟩ := Option.bind_eq_some_iff.mp hE
        refine y_cVi0 (st := []) (as := [.ref a8, .int x10, .int (x12 &&& ((i_shl (1 : Int32) v3) ^^^ (-1 : Int32))), .int (0 : Int32)]) (c_X1_most eq14) lk_X6_247 in_X1_most se_X1_most rfl eu13 ⟨Nat.le_of_ble_eq_true rfl, Nat.le_of_ble_eq_true rfl⟩ (Nat.le_of_ble_eq_true rfl) dX6_spare_57 hm rfl ?_
        refine y_istore (ls' := [(4, .int q14.1), (0, .ref v0), (1, .int v1), (2, .int v2), (3, .int v3)]) dX6_spare_60 (by decide) rfl rfl ?_
        refine y_iload dX6_spare_62 0 rfl ?_
        refine y_iload_n dX6_spare_64 3 rfl ?_
        refine y_icmp_le (tgt := 73) dX6_spare_65 (by decide) (fun hc17 => ?_) (fun hc17 => ?_)
        · rw [if_pos hc17] at hE
          obtain ⟨x15, ex15, hE⟩ := Option.bind_eq_some_iff.mp hE
          refine y_iinc (ls' := [(3, .int x15), (4, .int q14.1), (0, .ref v0), (1, .int v1), (2, .int v2)]) dX6_spare_73 4 rfl (Option.some.inj ex15) (by decide) rfl ?_
          refine y_goto (tgt := 6) dX6_spare_76 (by decide) ?_
          refine y_pick [2, 3, 4, 0] rfl ?_
          exact ih _ _ _ _ _ hE K
        · rw [if_neg hc17] at hE
          refine y_iload dX6_spare_68 0 rfl ?_
          refine y_istore_n (ls' := [(2, .int q14.1), (4, .int q14.1), (0, .ref v0), (1, .int v1), (3, .int v3)]) dX6_spare_70 (by decide) rfl rfl ?_
          refine y_iload_n dX6_spare_71 4 rfl ?_
          refine y_istore_n (ls' := [(1, .int v3), (2, .int q14.1), (4, .int q14.1), (0, .ref v0), (3, .int v3)]) dX6_spare_72 (by decide) rfl rfl ?_
          obtain ⟨x16, ex16, hE⟩ := Option.bind_eq_some_iff.mp hE
          refine y_iinc (ls' := [(3, .int x16), (1, .int v3), (2, .int q14.1), (4, .int q14.1), (0, .ref v0)]) dX6_spare_73 4 rfl (Option.some.inj ex16) (by decide) rfl ?_
          refine y_goto (tgt := 6) dX6_spare_76 (by decide) ?_
          refine y_pick [4, 1, 2, 0] rfl ?_
          exact ih _ _ _ _ _ hE K
def f_X6_spare (n : Nat) (h : xH) (a0 : Nat) : Option (Int32 × xH) :=
  (f_X6_spare_L6 n a0 n (-1 : Int32) (-1 : Int32) (0 : Int32) h).bind fun q20 =>
  if q20.1 = (-1 : Int32) then
    (x_ob q20.2 a0 6).bind fun u21 =>
    (f_X6_refuse q20.2 a0 (-5 : Int32)).bind fun q22 =>
    some (q22.1, q22.2)
  else
    some (q20.1, q20.2)
set_option maxRecDepth 100000 in
set_option maxHeartbeats 4000000 in
theorem c_X6_spare {n : Nat} {h : xH} {a0 : Nat} {r9 : Int32} {hz : xH} (hE : f_X6_spare n h a0 = some (r9, hz)) : Ctr M_X6_spare [.ref a0] h (some (.int r9)) hz 0 0 := by
  refine ctr_of (by decide) (fun _ _ => Nat.le_of_ble_eq_true rfl) (fun S => ?_)
  show Y S M_X6_spare h (some (.int r9)) hz 0 0 0 [(0, .ref a0)] [] h 0 0
  unfold f_X6_spare at hE
  refine y_iconst (v := (-1 : Int32)) dX6_spare_0 (by decide) ?_
  refine y_istore_n (ls' := [(1, .int (-1 : Int32)), (0, .ref a0)]) dX6_spare_1 (by decide) rfl rfl ?_
  refine y_iconst (v := (-1 : Int32)) dX6_spare_2 (by decide) ?_
  refine y_istore_n (ls' := [(2, .int (-1 : Int32)), (1, .int (-1 : Int32)), (0, .ref a0)]) dX6_spare_3 (by decide) rfl rfl ?_
  refine y_iconst (v := (0 : Int32)) dX6_spare_4 (by decide) ?_
  refine y_istore_n (ls' := [(3, .int (0 : Int32)), (2, .int (-1 : Int32)), (1, .int (-1 : Int32)), (0, .ref a0)]) dX6_spare_5 (by decide) rfl rfl ?_
  obtain ⟨q20, eq20, hE⟩ := Option.bind_eq_some_iff.mp hE
  refine y_pick [3, 2, 1, 0] rfl ?_
  refine l_X6_spare_6 (S := S) ⟨Nat.le_refl _, Nat.le_refl _⟩ n a0 n (-1 : Int32) (-1 : Int32) (0 : Int32) h _ eq20 (fun r8 hr8 => ?_)
  subst hr8
  refine y_iload_n dX6_spare_79 1 rfl ?_
  refine y_iconst (v := (-1 : Int32)) dX6_spare_80 (by decide) ?_
  refine y_icmp_ne (tgt := 93) dX6_spare_81 (by decide) (fun hc23 => ?_) (fun hc23 => ?_)
  · rw [if_pos hc23] at hE
    refine y_aload_n dX6_spare_84 0 rfl ?_
    refine y_bipush (v := (-5 : Int32)) dX6_spare_85 (by decide) ?_
    obtain ⟨u21, eu21, hE⟩ := Option.bind_eq_some_iff.mp hE
    obtain ⟨q22, eq22, hE⟩ := Option.bind_eq_some_iff.mp hE
    refine y_cVi0 (st := []) (as := [.int (-5 : Int32)]) (c_X6_refuse eq22) lk_X6_58 in_X6_refuse se_X6_refuse rfl eu21 ⟨Nat.le_of_ble_eq_true rfl, Nat.le_of_ble_eq_true rfl⟩ (Nat.le_of_ble_eq_true rfl) dX6_spare_87 ⟨Nat.le_refl _, Nat.le_refl _⟩ rfl ?_
    refine y_goto (tgt := 94) dX6_spare_90 (by decide) ?_
    obtain ⟨rfl, rfl⟩ := x_inj2 hE
    exact y_ret dX6_spare_94 (Nat.le_refl _) (Nat.le_refl _) ⟨_, rfl, rfl⟩
  · rw [if_neg hc23] at hE
    refine y_iload_n dX6_spare_93 1 rfl ?_
    obtain ⟨rfl, rfl⟩ := x_inj2 hE
    exact y_ret dX6_spare_94 (Nat.le_refl _) (Nat.le_refl _) ⟨_, rfl, rfl⟩
def f_X6_endless_L4 (n : Nat) (v0 : Nat) : Nat → Int32 → Int32 → xH → Option (Int32 × xH)
  | 0, _, _, _ => none
  | k + 1, v1, v2, h =>
    if (4 : Int32) < v2 then
      some (v1, h)
    else
      (x_gR h v0 6 7).bind fun a1 =>
      (x_gR h v0 6 0).bind fun a2 =>
      (x_gR h v0 6 0).bind fun a3 =>
      (x_gI h a3 0 5).bind fun x4 =>
      (x_ob h a1 1).bind fun u5 =>
      (f_X1_most n h a1 a2 v2 x4 (0 : Int32)).bind fun q6 =>
      if q6.1 = (99 : Int32) then
        (some (v1 ||| (i_shl (1 : Int32) v2))).bind fun x7 =>
        (some (v2 + (1 : Int32))).bind fun x8 =>
        f_X6_endless_L4 n v0 k x7 x8 q6.2
      else
        (some (v2 + (1 : Int32))).bind fun x9 =>
        f_X6_endless_L4 n v0 k v1 x9 q6.2
set_option maxRecDepth 100000 in
set_option maxHeartbeats 4000000 in
theorem l_X6_endless_4 {S : Nat × (Nat → Int32)} {rv : Option Value} {h0 h1 : xH} {mc ms : Nat} {cells slots : Nat} (hm : cells ≤ mc ∧ slots ≤ ms) (n : Nat) (v0 : Nat) : ∀ (k : Nat) (v1 : Int32) (v2 : Int32) (h : xH) (res : Int32 × xH), f_X6_endless_L4 n v0 k v1 v2 h = some res → (∀ r9, res = r9 → Y S M_X6_endless h0 rv h1 mc ms 46 [(1, .int r9.1)] [] r9.2 cells slots) → Y S M_X6_endless h0 rv h1 mc ms 4 [(0, .ref v0), (1, .int v1), (2, .int v2)] [] h cells slots := by
  intro k
  induction k with
  | zero =>
    intro _ _ _ _ hE
    cases hE
  | succ k ih =>
    intro v1 v2 h res hE K
    unfold f_X6_endless_L4 at hE
    refine y_iload_n dX6_endless_4 2 rfl ?_
    refine y_iconst (v := (4 : Int32)) dX6_endless_5 (by decide) ?_
    refine y_icmp_gt (tgt := 46) dX6_endless_6 (by decide) (fun hc11 => ?_) (fun hc11 => ?_)
    · rw [if_pos hc11] at hE
      obtain rfl := Option.some.inj hE
      exact y_pick [1] rfl (K _ rfl)
    · rw [if_neg hc11] at hE
      refine y_aload_n dX6_endless_9 0 rfl ?_
      obtain ⟨a1, ea1, hE⟩ := Option.bind_eq_some_iff.mp hE
      refine y_getR fl_X6_45 ea1 dX6_endless_10 ?_
      refine y_aload_n dX6_endless_13 0 rfl ?_
      obtain ⟨a2, ea2, hE⟩ := Option.bind_eq_some_iff.mp hE
      refine y_getR fl_X6_10 ea2 dX6_endless_14 ?_
      refine y_iload_n dX6_endless_17 2 rfl ?_
      refine y_aload_n dX6_endless_18 0 rfl ?_
      obtain ⟨a3, ea3, hE⟩ := Option.bind_eq_some_iff.mp hE
      refine y_getR fl_X6_10 ea3 dX6_endless_19 ?_
      obtain ⟨x4, ex4, hE⟩ := Option.bind_eq_some_iff.mp hE
      refine y_getI fl_X6_154 ex4 dX6_endless_22 ?_
      refine y_iconst (v := (0 : Int32)) dX6_endless_25 (by decide) ?_
      obtain ⟨u5, eu5, hE⟩ := Option.bind_eq_some_iff.mp hE
      obtain ⟨q6, eq6, hE⟩ := Option.bind_eq_some_iff.mp hE
      refine y_cVi0 (st := []) (as := [.ref a2, .int v2, .int x4, .int (0 : Int32)]) (c_X1_most eq6) lk_X6_247 in_X1_most se_X1_most rfl eu5 ⟨Nat.le_of_ble_eq_true rfl, Nat.le_of_ble_eq_true rfl⟩ (Nat.le_of_ble_eq_true rfl) dX6_endless_26 hm rfl ?_
      refine y_bipush (v := (99 : Int32)) dX6_endless_29 (by decide) ?_
      refine y_icmp_ne (tgt := 40) dX6_endless_31 (by decide) (fun hc10 => ?_) (fun hc10 => ?_)
      · rw [if_pos hc10] at hE
        refine y_iload_n dX6_endless_34 1 rfl ?_
        refine y_iconst (v := (1 : Int32)) dX6_endless_35 (by decide) ?_
        refine y_iload_n dX6_endless_36 2 rfl ?_
        refine y_ishl dX6_endless_37 ?_
        refine y_ior dX6_endless_38 ?_
        obtain ⟨x7, ex7, hE⟩ := Option.bind_eq_some_iff.mp hE
        refine y_istore_n (ls' := [(1, .int x7), (0, .ref v0), (2, .int v2)]) dX6_endless_39 (by decide) (Option.some.inj ex7) rfl ?_
        obtain ⟨x8, ex8, hE⟩ := Option.bind_eq_some_iff.mp hE
        refine y_iinc (ls' := [(2, .int x8), (1, .int x7), (0, .ref v0)]) dX6_endless_40 2 rfl (Option.some.inj ex8) (by decide) rfl ?_
        refine y_goto (tgt := 4) dX6_endless_43 (by decide) ?_
        refine y_pick [2, 1, 0] rfl ?_
        exact ih _ _ _ _ hE K
      · rw [if_neg hc10] at hE
        obtain ⟨x9, ex9, hE⟩ := Option.bind_eq_some_iff.mp hE
        refine y_iinc (ls' := [(2, .int x9), (0, .ref v0), (1, .int v1)]) dX6_endless_40 2 rfl (Option.some.inj ex9) (by decide) rfl ?_
        refine y_goto (tgt := 4) dX6_endless_43 (by decide) ?_
        refine y_pick [1, 2, 0] rfl ?_
        exact ih _ _ _ _ hE K
def f_X6_endless (n : Nat) (h : xH) (a0 : Nat) : Option (Int32 × xH) :=
  (f_X6_endless_L4 n a0 n (0 : Int32) (1 : Int32) h).bind fun q12 =>
  some (q12.1, q12.2)
set_option maxRecDepth 100000 in
set_option maxHeartbeats 4000000 in
theorem c_X6_endless {n : Nat} {h : xH} {a0 : Nat} {r9 : Int32} {hz : xH} (hE : f_X6_endless n h a0 = some (r9, hz)) : Ctr M_X6_endless [.ref a0] h (some (.int r9)) hz 0 0 := by
  refine ctr_of (by decide) (fun _ _ => Nat.le_of_ble_eq_true rfl) (fun S => ?_)
  show Y S M_X6_endless h (some (.int r9)) hz 0 0 0 [(0, .ref a0)] [] h 0 0
  unfold f_X6_endless at hE
  refine y_iconst (v := (0 : Int32)) dX6_endless_0 (by decide) ?_
  refine y_istore_n (ls' := [(1, .int (0 : Int32)), (0, .ref a0)]) dX6_endless_1 (by decide) rfl rfl ?_
  refine y_iconst (v := (1 : Int32)) dX6_endless_2 (by decide) ?_
  refine y_istore_n (ls' := [(2, .int (1 : Int32)), (1, .int (0 : Int32)), (0, .ref a0)]) dX6_endless_3 (by decide) rfl rfl ?_
  obtain ⟨q12, eq12, hE⟩ := Option.bind_eq_some_iff.mp hE
  refine y_pick [2, 1, 0] rfl ?_
  refine l_X6_endless_4 (S := S) ⟨Nat.le_refl _, Nat.le_refl _⟩ n a0 n (0 : Int32) (1 : Int32) h _ eq12 (fun r8 hr8 => ?_)
  subst hr8
  refine y_iload_n dX6_endless_46 0 rfl ?_
  obtain ⟨rfl, rfl⟩ := x_inj2 hE
  exact y_ret dX6_endless_47 (Nat.le_refl _) (Nat.le_refl _) ⟨_, rfl, rfl⟩
def f_X6_boxes_L20 (n : Nat) (v0 : Nat) (v1 : Int32) : Nat → Int32 → xH → Option (Sum (Int32 × xH) (xH))
  | 0, _, _ => none
  | k + 1, v2, h =>
    if (20 : Int32) < v2 then
      some (.inr h)
    else
      (x_gR h v0 6 7).bind fun a3 =>
      (x_gR h v0 6 0).bind fun a4 =>
      (x_gR h v0 6 0).bind fun a5 =>
      (x_gI h a5 0 7).bind fun x6 =>
      (x_gR h v0 6 0).bind fun a7 =>
      (x_gI h a7 0 5).bind fun x8 =>
      (x_ob h a3 1).bind fun u9 =>
      (f_X1_most n h a3 a4 x6 x8 v2).bind fun q10 =>
      if q10.1 < v1 then
        (some (v2 + (1 : Int32))).bind fun x11 =>
        f_X6_boxes_L20 n v0 v1 k x11 q10.2
      else
        some (.inl (v2, q10.2))
set_option maxRecDepth 100000 in
set_option maxHeartbeats 4000000 in
theorem l_X6_boxes_20 {S : Nat × (Nat → Int32)} {rv : Option Value} {h0 h1 : xH} {mc ms : Nat} {cells slots : Nat} (hm : cells ≤ mc ∧ slots ≤ ms) (n : Nat) (v0 : Nat) (v1 : Int32) : ∀ (k : Nat) (v2 : Int32) (h : xH) (res : Sum (Int32 × xH) (xH)), f_X6_boxes_L20 n v0 v1 k v2 h = some res → (∀ r9, res = .inl r9 → rv = some (.int r9.1) ∧ h1 = r9.2) → (∀ r9, res = .inr r9 → Y S M_X6_boxes h0 rv h1 mc ms 64 [] [] r9 cells slots) → Y S M_X6_boxes h0 rv h1 mc ms 20 [(0, .ref v0), (1, .int v1), (2, .int v2)] [] h cells slots := by
  intro k
  induction k with
  | zero =>
    intro _ _ _ hE
    cases hE
  | succ k ih =>
    intro v2 h res hE KR K
    unfold f_X6_boxes_L20 at hE
    refine y_iload_n dX6_boxes_20 2 rfl ?_
    refine y_bipush (v := (20 : Int32)) dX6_boxes_21 (by decide) ?_
    refine y_icmp_gt (tgt := 64) dX6_boxes_23 (by decide) (fun hc13 => ?_) (fun hc13 => ?_)
    · rw [if_pos hc13] at hE
      obtain rfl := Option.some.inj hE
      exact y_pick [] rfl (K _ rfl)
    · rw [if_neg hc13] at hE
      refine y_aload_n dX6_boxes_26 0 rfl ?_
      obtain ⟨a3, ea3, hE⟩ := Option.bind_eq_some_iff.mp hE
      refine y_getR fl_X6_45 ea3 dX6_boxes_27 ?_
      refine y_aload_n dX6_boxes_30 0 rfl ?_
      obtain ⟨a4, ea4, hE⟩ := Option.bind_eq_some_iff.mp hE
      refine y_getR fl_X6_10 ea4 dX6_boxes_31 ?_
      refine y_aload_n dX6_boxes_34 0 rfl ?_
      obtain ⟨a5, ea5, hE⟩ := Option.bind_eq_some_iff.mp hE
      refine y_getR fl_X6_10 ea5 dX6_boxes_35 ?_
      obtain ⟨x6, ex6, hE⟩ := Option.bind_eq_some_iff.mp hE
      refine y_getI fl_X6_145 ex6 dX6_boxes_38 ?_
      refine y_aload_n dX6_boxes_41 0 rfl ?_
      obtain ⟨a7, ea7, hE⟩ := Option.bind_eq_some_iff.mp hE
      refine y_getR fl_X6_10 ea7 dX6_boxes_42 ?_
      obtain ⟨x8, ex8, hE⟩ := Option.bind_eq_some_iff.mp hE
      refine y_getI fl_X6_154 ex8 dX6_boxes_45 ?_
      refine y_iload_n dX6_boxes_48 2 rfl ?_
      obtain ⟨u9, eu9, hE⟩ := Option.bind_eq_some_iff.mp hE
      obtain ⟨q10, eq10, hE⟩ := Option.bind_eq_some_iff.mp hE
      refine y_cVi0 (st := []) (as := [.ref a4, .int x6, .int x8, .int v2]) (c_X1_most eq10) lk_X6_247 in_X1_most se_X1_most rfl eu9 ⟨Nat.le_of_ble_eq_true rfl, Nat.le_of_ble_eq_true rfl⟩ (Nat.le_of_ble_eq_true rfl) dX6_boxes_49 hm rfl ?_
      refine y_iload_n dX6_boxes_52 1 rfl ?_
      refine y_icmp_lt (tgt := 58) dX6_boxes_53 (by decide) (fun hc12 => ?_) (fun hc12 => ?_)
      · rw [if_pos hc12] at hE
        obtain ⟨x11, ex11, hE⟩ := Option.bind_eq_some_iff.mp hE
        refine y_iinc (ls' := [(2, .int x11), (0, .ref v0), (1, .int v1)]) dX6_boxes_58 2 rfl (Option.some.inj ex11) (by decide) rfl ?_
        refine y_goto (tgt := 20) dX6_boxes_61 (by decide) ?_
        refine y_pick [1, 2, 0] rfl ?_
        exact ih _ _ _ hE KR K
      · rw [if_neg hc12] at hE
        refine y_iload_n dX6_boxes_56 2 rfl ?_
        obtain rfl := Option.some.inj hE
        obtain ⟨rfl, rfl⟩ := KR _ rfl
        dsimp only
        exact y_ret dX6_boxes_57 hm.1 hm.2 ⟨_, rfl, rfl⟩
def f_X6_boxes (n : Nat) (h : xH) (a0 : Nat) (p1 : Int32) : Option (Int32 × xH) :=
  if p1 < (1 : Int32) then
    (x_ob h a0 6).bind fun u1 =>
    (f_X6_refuse h a0 (-2 : Int32)).bind fun q2 =>
    some (q2.1, q2.2)
  else
    if p1 < (99 : Int32) then
      (f_X6_boxes_L20 n a0 p1 n (0 : Int32) h).bind fun q14 =>
      match q14 with
      | .inl r15 => some r15
      | .inr e16 =>
        some ((-1 : Int32), e16)
    else
      (x_ob h a0 6).bind fun u17 =>
      (f_X6_refuse h a0 (-2 : Int32)).bind fun q18 =>
      some (q18.1, q18.2)
set_option maxRecDepth 100000 in
set_option maxHeartbeats 4000000 in
theorem c_X6_boxes {n : Nat} {h : xH} {a0 : Nat} {p1 : Int32} {r9 : Int32} {hz : xH} (hE : f_X6_boxes n h a0 p1 = some (r9, hz)) : Ctr M_X6_boxes [.ref a0, .int p1] h (some (.int r9)) hz 0 0 := by
  refine ctr_of (by decide) (fun _ _ => Nat.le_of_ble_eq_true rfl) (fun S => ?_)
  show Y S M_X6_boxes h (some (.int r9)) hz 0 0 0 [(0, .ref a0), (1, .int p1)] [] h 0 0
  unfold f_X6_boxes at hE
  refine y_iload_n dX6_boxes_0 1 rfl ?_
  refine y_iconst (v := (1 : Int32)) dX6_boxes_1 (by decide) ?_
  refine y_icmp_lt (tgt := 11) dX6_boxes_2 (by decide) (fun hc20 => ?_) (fun hc20 => ?_)
  · rw [if_pos hc20] at hE
    refine y_aload_n dX6_boxes_11 0 rfl ?_
    refine y_bipush (v := (-2 : Int32)) dX6_boxes_12 (by decide) ?_
    obtain ⟨u1, eu1, hE⟩ := Option.bind_eq_some_iff.mp hE
    obtain ⟨q2, eq2, hE⟩ := Option.bind_eq_some_iff.mp hE
    refine y_cVi0 (st := []) (as := [.int (-2 : Int32)]) (c_X6_refuse eq2) lk_X6_58 in_X6_refuse se_X6_refuse rfl eu1 ⟨Nat.le_of_ble_eq_true rfl, Nat.le_of_ble_eq_true rfl⟩ (Nat.le_of_ble_eq_true rfl) dX6_boxes_14 ⟨Nat.le_refl _, Nat.le_refl _⟩ rfl ?_
    obtain ⟨rfl, rfl⟩ := x_inj2 hE
    exact y_ret dX6_boxes_17 (Nat.le_refl _) (Nat.le_refl _) ⟨_, rfl, rfl⟩
  · rw [if_neg hc20] at hE
    refine y_iload_n dX6_boxes_5 1 rfl ?_
    refine y_bipush (v := (99 : Int32)) dX6_boxes_6 (by decide) ?_
    refine y_icmp_lt (tgt := 18) dX6_boxes_8 (by decide) (fun hc19 => ?_) (fun hc19 => ?_)
    · rw [if_pos hc19] at hE
      refine y_iconst (v := (0 : Int32)) dX6_boxes_18 (by decide) ?_
      refine y_istore_n (ls' := [(2, .int (0 : Int32)), (0, .ref a0), (1, .int p1)]) dX6_boxes_19 (by decide) rfl rfl ?_
      obtain ⟨q14, eq14, hE⟩ := Option.bind_eq_some_iff.mp hE
      refine y_pick [1, 2, 0] rfl ?_
      cases q14 with
      | inl r15 =>
        dsimp only at hE
        cases hE
        exact l_X6_boxes_20 (S := S) ⟨Nat.le_refl _, Nat.le_refl _⟩ n a0 p1 n (0 : Int32) h _ eq14 (fun r8 hr8 => by cases hr8; exact ⟨rfl, rfl⟩) (fun r8 hr8 => by cases hr8)
      | inr e16 =>
        dsimp only at hE
        refine l_X6_boxes_20 (S := S) ⟨Nat.le_refl _, Nat.le_refl _⟩ n a0 p1 n (0 : Int32) h _ eq14 (fun r8 hr8 => by cases hr8) (fun r8 hr8 => ?_)
        cases hr8
        refine y_iconst (v := (-1 : Int32)) dX6_boxes_64 (by decide) ?_
        obtain ⟨rfl, rfl⟩ := x_inj2 hE
        exact y_ret dX6_boxes_65 (Nat.le_refl _) (Nat.le_refl _) ⟨_, rfl, rfl⟩
    · rw [if_neg hc19] at hE
      refine y_aload_n dX6_boxes_11 0 rfl ?_
      refine y_bipush (v := (-2 : Int32)) dX6_boxes_12 (by decide) ?_
      obtain ⟨u17, eu17, hE⟩ := Option.bind_eq_some_iff.mp hE
      obtain ⟨q18, eq18, hE⟩ := Option.bind_eq_some_iff.mp hE
      refine y_cVi0 (st := []) (as := [.int (-2 : Int32)]) (c_X6_refuse eq18) lk_X6_58 in_X6_refuse se_X6_refuse rfl eu17 ⟨Nat.le_of_ble_eq_true rfl, Nat.le_of_ble_eq_true rfl⟩ (Nat.le_of_ble_eq_true rfl) dX6_boxes_14 ⟨Nat.le_refl _, Nat.le_refl _⟩ rfl ?_
      obtain ⟨rfl, rfl⟩ := x_inj2 hE
      exact y_ret dX6_boxes_17 (Nat.le_refl _) (Nat.le_refl _) ⟨_, rfl, rfl⟩
def f_X6_playActs_L13 (n : Nat) (v0 : Nat) (v1 : Nat) (v2 : Int32) : Nat → Int32 → xH → Option (Sum (Int32 × xH) (xH))
  | 0, _, _ => none
  | k + 1, v3, h =>
    if v2 ≤ v3 then
      some (.inr h)
    else
      (x_gI h v1 4 1).bind fun x5 =>
      if x5 ≤ v3 then
        some (.inr h)
      else
        (x_gR h v0 6 1).bind fun a6 =>
        (x_gR h v1 4 2).bind fun a7 =>
        (x_ldL h a7 v3).bind fun x8 =>
        (x_ob h a6 0).bind fun u9 =>
        (f_X0_playAct n h a6 x8).bind fun q10 =>
        if q10.1 = 0 then
          some (.inl (v3, q10.2))
        else
          (some (v3 + (1 : Int32))).bind fun x11 =>
          f_X6_playActs_L13 n v0 v1 v2 k x11 q10.2
set_option maxRecDepth 100000 in
set_option maxHeartbeats 4000000 in
theorem l_X6_playActs_13 {S : Nat × (Nat → Int32)} {rv : Option Value} {h0 h1 : xH} {mc ms : Nat} {cells slots : Nat} (hm : cells ≤ mc ∧ slots ≤ ms) (n : Nat) (v0 : Nat) (v1 : Nat) (v2 : Int32) : ∀ (k : Nat) (v3 : Int32) (h : xH) (res : Sum (Int32 × xH) (xH)), f_X6_playActs_L13 n v0 v1 v2 k v3 h = some res → (∀ r9, res = .inl r9 → rv = some (.int r9.1) ∧ h1 = r9.2) → (∀ r9, res = .inr r9 → Y S M_X6_playActs h0 rv h1 mc ms 50 [] [] r9 cells slots) → Y S M_X6_playActs h0 rv h1 mc ms 13 [(0, .ref v0), (1, .ref v1), (2, .int v2), (3, .int v3)] [] h cells slots := by
  intro k
  induction k with
  | zero =>
    intro _ _ _ hE
    cases hE
  | succ k ih =>
    intro v3 h res hE KR K
    unfold f_X6_playActs_L13 at hE
    refine y_iload_n dX6_playActs_13 3 rfl ?_
    refine y_iload_n dX6_playActs_14 2 rfl ?_
    refine y_icmp_ge (tgt := 50) dX6_playActs_15 (by decide) (fun hc14 => ?_) (fun hc14 => ?_)
    · rw [if_pos hc14] at hE
      obtain rfl := Option.some.inj hE
      exact y_pick [] rfl (K _ rfl)
    · rw [if_neg hc14] at hE
      refine y_iload_n dX6_playActs_18 3 rfl ?_
      refine y_aload_n dX6_playActs_19 1 rfl ?_
      obtain ⟨x5, ex5, hE⟩ := Option.bind_eq_some_iff.mp hE
      refine y_getI fl_X6_285 ex5 dX6_playActs_20 ?_
      refine y_icmp_ge (tgt := 50) dX6_playActs_23 (by decide) (fun hc13 => ?_) (fun hc13 => ?_)
      · rw [if_pos hc13] at hE
        obtain rfl := Option.some.inj hE
        exact y_pick [] rfl (K _ rfl)
      · rw [if_neg hc13] at hE
        refine y_aload_n dX6_playActs_26 0 rfl ?_
        obtain ⟨a6, ea6, hE⟩ := Option.bind_eq_some_iff.mp hE
        refine y_getR fl_X6_16 ea6 dX6_playActs_27 ?_
        refine y_aload_n dX6_playActs_30 1 rfl ?_
        obtain ⟨a7, ea7, hE⟩ := Option.bind_eq_some_iff.mp hE
        refine y_getR fl_X6_92 ea7 dX6_playActs_31 ?_
        refine y_iload_n dX6_playActs_34 3 rfl ?_
        obtain ⟨x8, ex8, hE⟩ := Option.bind_eq_some_iff.mp hE
        refine y_lald ex8 dX6_playActs_35 ?_
        obtain ⟨u9, eu9, hE⟩ := Option.bind_eq_some_iff.mp hE
        obtain ⟨q10, eq10, hE⟩ := Option.bind_eq_some_iff.mp hE
        refine y_cVi0 (st := []) (as := [.long x8]) (c_X0_playAct eq10) lk_X6_289 in_X0_playAct se_X0_playAct rfl eu9 ⟨Nat.le_of_ble_eq_true rfl, Nat.le_of_ble_eq_true rfl⟩ (Nat.le_of_ble_eq_true rfl) dX6_playActs_36 hm rfl ?_
        refine y_if_ne (tgt := 44) dX6_playActs_39 (by decide) (fun hc12 => ?_) (fun hc12 => ?_)
        · rw [if_pos hc12] at hE
          refine y_iload_n dX6_playActs_42 3 rfl ?_
          obtain rfl := Option.some.inj hE
          obtain ⟨rfl, rfl⟩ := KR _ rfl
          dsimp only
          exact y_ret dX6_playActs_43 hm.1 hm.2 ⟨_, rfl, rfl⟩
        · rw [if_neg hc12] at hE
          obtain ⟨x11, ex11, hE⟩ := Option.bind_eq_some_iff.mp hE
          refine y_iinc (ls' := [(3, .int x11), (0, .ref v0), (1, .ref v1), (2, .int v2)]) dX6_playActs_44 3 rfl (Option.some.inj ex11) (by decide) rfl ?_
          refine y_goto (tgt := 13) dX6_playActs_47 (by decide) ?_
          refine y_pick [1, 2, 3, 0] rfl ?_
          exact ih _ _ _ hE KR K
def f_X6_playActs (n : Nat) (h : xH) (a0 : Nat) (o1 : Nat) (p2 : Int32) : Option (Int32 × xH) :=
  (x_gR h a0 6 1).bind fun a1 =>
  (x_gR h a0 6 0).bind fun a2 =>
  (x_ob h a1 0).bind fun u3 =>
  (f_X0_become n h a1 a2).bind fun q4 =>
  (f_X6_playActs_L13 n a0 o1 p2 n (0 : Int32) q4).bind fun q15 =>
  match q15 with
  | .inl r16 => some r16
  | .inr e17 =>
    some ((-1 : Int32), e17)
set_option maxRecDepth 100000 in
set_option maxHeartbeats 4000000 in
theorem c_X6_playActs {n : Nat} {h : xH} {a0 : Nat} {o1 : Nat} {p2 : Int32} {r9 : Int32} {hz : xH} (hE : f_X6_playActs n h a0 o1 p2 = some (r9, hz)) : Ctr M_X6_playActs [.ref a0, .ref o1, .int p2] h (some (.int r9)) hz 0 0 := by
  refine ctr_of (by decide) (fun _ _ => Nat.le_of_ble_eq_true rfl) (fun S => ?_)
  show Y S M_X6_playActs h (some (.int r9)) hz 0 0 0 [(0, .ref a0), (1, .ref o1), (2, .int p2)] [] h 0 0
  unfold f_X6_playActs at hE
  refine y_aload_n dX6_playActs_0 0 rfl ?_
  obtain ⟨a1, ea1, hE⟩ := Option.bind_eq_some_iff.mp hE
  refine y_getR fl_X6_16 ea1 dX6_playActs_1 ?_
  refine y_aload_n dX6_playActs_4 0 rfl ?_
  obtain ⟨a2, ea2, hE⟩ := Option.bind_eq_some_iff.mp hE
  refine y_getR fl_X6_10 ea2 dX6_playActs_5 ?_
  obtain ⟨u3, eu3, hE⟩ := Option.bind_eq_some_iff.mp hE
  obtain ⟨q4, eq4, hE⟩ := Option.bind_eq_some_iff.mp hE
  refine y_cVv0 (st := []) (as := [.ref a2]) (c_X0_become eq4) lk_X6_169 in_X0_become se_X0_become rfl eu3 ⟨Nat.le_of_ble_eq_true rfl, Nat.le_of_ble_eq_true rfl⟩ (Nat.le_of_ble_eq_true rfl) dX6_playActs_8 ⟨Nat.le_refl _, Nat.le_refl _⟩ rfl ?_
  refine y_iconst (v := (0 : Int32)) dX6_playActs_11 (by decide) ?_
  refine y_istore_n (ls' := [(3, .int (0 : Int32)), (0, .ref a0), (1, .ref o1), (2, .int p2)]) dX6_playActs_12 (by decide) rfl rfl ?_
  obtain ⟨q15, eq15, hE⟩ := Option.bind_eq_some_iff.mp hE
  refine y_pick [1, 2, 3, 0] rfl ?_
  cases q15 with
  | inl r16 =>
    dsimp only at hE
    cases hE
    exact l_X6_playActs_13 (S := S) ⟨Nat.le_refl _, Nat.le_refl _⟩ n a0 o1 p2 n (0 : Int32) q4 _ eq15 (fun r8 hr8 => by cases hr8; exact ⟨rfl, rfl⟩) (fun r8 hr8 => by cases hr8)
  | inr e17 =>
    dsimp only at hE
    refine l_X6_playActs_13 (S := S) ⟨Nat.le_refl _, Nat.le_refl _⟩ n a0 o1 p2 n (0 : Int32) q4 _ eq15 (fun r8 hr8 => by cases hr8) (fun r8 hr8 => ?_)
    cases hr8
    refine y_iconst (v := (-1 : Int32)) dX6_playActs_50 (by decide) ?_
    obtain ⟨rfl, rfl⟩ := x_inj2 hE
    exact y_ret dX6_playActs_51 (Nat.le_refl _) (Nat.le_refl _) ⟨_, rfl, rfl⟩
def f_X6_judge (n : Nat) (h : xH) (a0 : Nat) (p1 : Int32) (p2 : Int32) : Option (Int32 × xH) :=
  (f_X6_isShelf h p1).bind fun q1 =>
  if q1 = 0 then
    (x_ob h a0 6).bind fun u2 =>
    (f_X6_refuse h a0 (-2 : Int32)).bind fun q3 =>
    some (q3.1, q3.2)
  else
    if p2 < 0 then
      (x_ob h a0 6).bind fun u4 =>
      (f_X6_refuse h a0 (-2 : Int32)).bind fun q5 =>
      some (q5.1, q5.2)
    else
      if p2 ≤ (20 : Int32) then
        (x_gR h a0 6 4).bind fun a6 =>
        (x_ldQ h a6 p1).bind fun a7 =>
        (f_X6_rowRefusal h a7 p2).bind fun q8 =>
        if q8 = 0 then
          (x_gR h a0 6 4).bind fun a9 =>
          (x_ldQ h a9 p1).bind fun a10 =>
          (x_ob h a0 6).bind fun u11 =>
          (f_X6_playActs n h a0 a10 p2).bind fun q12 =>
          some (q12.1, q12.2)
        else
          (x_ob h a0 6).bind fun u13 =>
          (f_X6_refuse h a0 q8).bind fun q14 =>
          some (q14.1, q14.2)
      else
        (x_ob h a0 6).bind fun u16 =>
        (f_X6_refuse h a0 (-2 : Int32)).bind fun q17 =>
        some (q17.1, q17.2)
set_option maxRecDepth 100000 in
set_option maxHeartbeats 4000000 in
theorem c_X6_judge {n : Nat} {h : xH} {a0 : Nat} {p1 : Int32} {p2 : Int32} {r9 : Int32} {hz : xH} (hE : f_X6_judge n h a0 p1 p2 = some (r9, hz)) : Ctr M_X6_judge [.ref a0, .int p1, .int p2] h (some (.int r9)) hz 0 0 := by
  refine ctr_of (by decide) (fun _ _ => Nat.le_of_ble_eq_true rfl) (fun S => ?_)
  show Y S M_X6_judge h (some (.int r9)) hz 0 0 0 [(0, .ref a0), (1, .int p1), (2, .int p2)] [] h 0 0
  unfold f_X6_judge at hE
  refine y_iload_n dX6_judge_0 1 rfl ?_
  obtain ⟨q1, eq1, hE⟩ := Option.bind_eq_some_iff.mp hE
  refine y_cSi0 (st := []) (as := [.int p1]) (c_X6_isShelf eq1) lk_X6_54 st_X6_isShelf ⟨Nat.le_of_ble_eq_true rfl, Nat.le_of_ble_eq_true rfl⟩ (Nat.le_of_ble_eq_true rfl) dX6_judge_1 ⟨Nat.le_refl _, Nat.le_refl _⟩ rfl ?_
  refine y_if_eq (tgt := 17) dX6_judge_4 (by decide) (fun hc20 => ?_) (fun hc20 => ?_)
  · rw [if_pos hc20] at hE
    refine y_aload_n dX6_judge_17 0 rfl ?_
    refine y_bipush (v := (-2 : Int32)) dX6_judge_18 (by decide) ?_
    obtain ⟨u2, eu2, hE⟩ := Option.bind_eq_some_iff.mp hE
    obtain ⟨q3, eq3, hE⟩ := Option.bind_eq_some_iff.mp hE
    refine y_cVi0 (st := []) (as := [.int (-2 : Int32)]) (c_X6_refuse eq3) lk_X6_58 in_X6_refuse se_X6_refuse rfl eu2 ⟨Nat.le_of_ble_eq_true rfl, Nat.le_of_ble_eq_true rfl⟩ (Nat.le_of_ble_eq_true rfl) dX6_judge_20 ⟨Nat.le_refl _, Nat.le_refl _⟩ rfl ?_
    obtain ⟨rfl, rfl⟩ := x_inj2 hE
    exact y_ret dX6_judge_23 (Nat.le_refl _) (Nat.le_refl _) ⟨_, rfl, rfl⟩
  · rw [if_neg hc20] at hE
    refine y_iload_n dX6_judge_7 2 rfl ?_
    refine y_if_lt (tgt := 17) dX6_judge_8 (by decide) (fun hc19 => ?_) (fun hc19 => ?_)
    · rw [if_pos hc19] at hE
      refine y_aload_n dX6_judge_17 0 rfl ?_
      refine y_bipush (v := (-2 : Int32)) dX6_judge_18 (by decide) ?_
      obtain ⟨u4, eu4, hE⟩ := Option.bind_eq_some_iff.mp hE
      obtain ⟨q5, eq5, hE⟩ := Option.bind_eq_some_iff.mp hE
      refine y_cVi0 (st := []) (as := [.int (-2 : Int32)]) (c_X6_refuse eq5) lk_X6_58 in_X6_refuse se_X6_refuse rfl eu4 ⟨Nat.le_of_ble_eq_true rfl, Nat.le_of_ble_eq_true rfl⟩ (Nat.le_of_ble_eq_true rfl) dX6_judge_20 ⟨Nat.le_refl _, Nat.le_refl _⟩ rfl ?_
      obtain ⟨rfl, rfl⟩ := x_inj2 hE
      exact y_ret dX6_judge_23 (Nat.le_refl _) (Nat.le_refl _) ⟨_, rfl, rfl⟩
    · rw [if_neg hc19] at hE
      refine y_iload_n dX6_judge_11 2 rfl ?_
      refine y_bipush (v := (20 : Int32)) dX6_judge_12 (by decide) ?_
      refine y_icmp_le (tgt := 24) dX6_judge_14 (by decide) (fun hc18 => ?_) (fun hc18 => ?_)
      · rw [if_pos hc18] at hE
        refine y_aload_n dX6_judge_24 0 rfl ?_
        obtain ⟨a6, ea6, hE⟩ := Option.bind_eq_some_iff.mp hE
        refine y_getR fl_X6_24 ea6 dX6_judge_25 ?_
        refine y_iload_n dX6_judge_28 1 rfl ?_
        obtain ⟨a7, ea7, hE⟩ := Option.bind_eq_some_iff.mp hE
        refine y_aald ea7 dX6_judge_29 ?_
        refine y_iload_n dX6_judge_30 2 rfl ?_
        obtain ⟨q8, eq8, hE⟩ := Option.bind_eq_some_iff.mp hE
        refine y_cSi0 (st := []) (as := [.ref a7, .int p2]) (c_X6_rowRefusal eq8) lk_X6_66 st_X6_rowRefusal ⟨Nat.le_of_ble_eq_true rfl, Nat.le_of_ble_eq_true rfl⟩ (Nat.le_of_ble_eq_true rfl) dX6_judge_31 ⟨Nat.le_refl _, Nat.le_refl _⟩ rfl ?_
        refine y_istore_n (ls' := [(3, .int q8), (0, .ref a0), (1, .int p1), (2, .int p2)]) dX6_judge_34 (by decide) rfl rfl ?_
        refine y_iload_n dX6_judge_35 0 rfl ?_
        refine y_if_eq (tgt := 45) dX6_judge_36 (by decide) (fun hc15 => ?_) (fun hc15 => ?_)
        · rw [if_pos hc15] at hE
          refine y_aload_n dX6_judge_45 1 rfl ?_
          refine y_aload_n dX6_judge_46 1 rfl ?_
          obtain ⟨a9, ea9, hE⟩ := Option.bind_eq_some_iff.mp hE
          refine y_getR fl_X6_24 ea9 dX6_judge_47 ?_
          refine y_iload_n dX6_judge_50 2 rfl ?_
          obtain ⟨a10, ea10, hE⟩ := Option.bind_eq_some_iff.mp hE
          refine y_aald ea10 dX6_judge_51 ?_
          refine y_iload_n dX6_judge_52 3 rfl ?_
          obtain ⟨u11, eu11, hE⟩ := Option.bind_eq_some_iff.mp hE
          obtain ⟨q12, eq12, hE⟩ := Option.bind_eq_some_iff.mp hE
          refine y_cVi0 (st := []) (as := [.ref a10, .int p2]) (c_X6_playActs eq12) lk_X6_252 in_X6_playActs se_X6_playActs rfl eu11 ⟨Nat.le_of_ble_eq_true rfl, Nat.le_of_ble_eq_true rfl⟩ (Nat.le_of_ble_eq_true rfl) dX6_judge_53 ⟨Nat.le_refl _, Nat.le_refl _⟩ rfl ?_
          obtain ⟨rfl, rfl⟩ := x_inj2 hE
          exact y_ret dX6_judge_56 (Nat.le_refl _) (Nat.le_refl _) ⟨_, rfl, rfl⟩
        · rw [if_neg hc15] at hE
          refine y_aload_n dX6_judge_39 1 rfl ?_
          refine y_iload_n dX6_judge_40 0 rfl ?_
          obtain ⟨u13, eu13, hE⟩ := Option.bind_eq_some_iff.mp hE
          obtain ⟨q14, eq14, hE⟩ := Option.bind_eq_some_iff.mp hE
          refine y_cVi0 (st := []) (as := [.int q8]) (c_X6_refuse eq14) lk_X6_58 in_X6_refuse se_X6_refuse rfl eu13 ⟨Nat.le_of_ble_eq_true rfl, Nat.le_of_ble_eq_true rfl⟩ (Nat.le_of_ble_eq_true rfl) dX6_judge_41 ⟨Nat.le_refl _, Nat.le_refl _⟩ rfl ?_
          obtain ⟨rfl, rfl⟩ := x_inj2 hE
          exact y_ret dX6_judge_44 (Nat.le_refl _) (Nat.le_refl _) ⟨_, rfl, rfl⟩
      · rw [if_neg hc18] at hE
        refine y_aload_n dX6_judge_17 0 rfl ?_
        refine y_bipush (v := (-2 : Int32)) dX6_judge_18 (by decide) ?_
        obtain ⟨u16, eu16, hE⟩ := Option.bind_eq_some_iff.mp hE
        obtain ⟨q17, eq17, hE⟩ := Option.bind_eq_some_iff.mp hE
        refine y_cVi0 (st := []) (as := [.int (-2 : Int32)]) (c_X6_refuse eq17) lk_X6_58 in_X6_refuse se_X6_refuse rfl eu16 ⟨Nat.le_of_ble_eq_true rfl, Nat.le_of_ble_eq_true rfl⟩ (Nat.le_of_ble_eq_true rfl) dX6_judge_20 ⟨Nat.le_refl _, Nat.le_refl _⟩ rfl ?_
        obtain ⟨rfl, rfl⟩ := x_inj2 hE
        exact y_ret dX6_judge_23 (Nat.le_refl _) (Nat.le_refl _) ⟨_, rfl, rfl⟩
def f_X6_told_J65 (n : Nat) (h : xH) (v0 : Nat) (v1 : Int32) (v2 : Int32) (v3 : Int32) (v4 : Int32) : Option (Int32 × xH) :=
  (x_gR h v0 6 4).bind fun a15 =>
  (x_ldQ h a15 v1).bind fun a16 =>
  (f_X6_rowRefusal h a16 v2).bind fun q17 =>
  if q17 = 0 then
    (x_gR h v0 6 4).bind fun a18 =>
    (x_ldQ h a18 v1).bind fun a19 =>
    (x_ob h v0 6).bind fun u20 =>
    (f_X6_playActs n h v0 a19 v2).bind fun q21 =>
    if q21.1 = (-1 : Int32) then
      if v3 = (0 : Int32) then
        (x_gR q21.2 v0 6 1).bind fun a22 =>
        (x_gI q21.2 a22 0 5).bind fun x23 =>
        some (x23, q21.2)
      else
      if v3 = (1 : Int32) then
        (x_gR q21.2 v0 6 1).bind fun a25 =>
        (x_gI q21.2 a25 0 10).bind fun x26 =>
        (x_gR q21.2 v0 6 0).bind fun a27 =>
        (x_gI q21.2 a27 0 10).bind fun x28 =>
        some ((x26 - x28), q21.2)
      else
      if v3 = (2 : Int32) then
        (x_gR q21.2 v0 6 1).bind fun a30 =>
        (x_ob q21.2 a30 0).bind fun u31 =>
        (f_X0_shutInBits n q21.2 a30).bind fun q32 =>
        some (q32, q21.2)
      else
      if v4 = 0 then
        some ((-1 : Int32), q21.2)
      else
        (x_gR q21.2 v0 6 1).bind fun a34 =>
        (x_gR q21.2 a34 0 3).bind fun a35 =>
        (x_ld q21.2 a35 (v3 - (10 : Int32))).bind fun x36 =>
        some (x36, q21.2)
    else
      (x_ob q21.2 v0 6).bind fun u38 =>
      (f_X6_refuse q21.2 v0 (-5 : Int32)).bind fun q39 =>
      some (q39.1, q39.2)
  else
    (x_ob h v0 6).bind fun u41 =>
    (f_X6_refuse h v0 q17).bind fun q42 =>
    some (q42.1, q42.2)
set_option maxRecDepth 100000 in
set_option maxHeartbeats 4000000 in
theorem j_X6_told_65 {S : Nat × (Nat → Int32)} {h0 : xH} {mc ms cells slots : Nat} {n : Nat} {h : xH} {v0 : Nat} {v1 : Int32} {v2 : Int32} {v3 : Int32} {v4 : Int32} {r9 : Int32} {hz : xH} (hE : f_X6_told_J65 n h v0 v1 v2 v3 v4 = some (r9, hz)) (hm : cells ≤ mc ∧ slots ≤ ms) : Y S M_X6_told h0 (some (.int r9)) hz mc ms 65 [(0, .ref v0), (1, .int v1), (2, .int v2), (3, .int v3), (4, .int v4)] [] h cells slots := by
  unfold f_X6_told_J65 at hE
  refine y_aload_n dX6_told_65 0 rfl ?_
  obtain ⟨a15, ea15, hE⟩ := Option.bind_eq_some_iff.mp hE
  refine y_getR fl_X6_24 ea15 dX6_told_66 ?_
  refine y_iload_n dX6_told_69 1 rfl ?_
  obtain ⟨a16, ea16, hE⟩ := Option.bind_eq_some_iff.mp hE
  refine y_aald ea16 dX6_told_70 ?_
  refine y_iload_n dX6_told_71 2 rfl ?_
  obtain ⟨q17, eq17, hE⟩ := Option.bind_eq_some_iff.mp hE
  refine y_cSi0 (st := []) (as := [.ref a16, .int v2]) (c_X6_rowRefusal eq17) lk_X6_66 st_X6_rowRefusal ⟨Nat.le_of_ble_eq_true rfl, Nat.le_of_ble_eq_true rfl⟩ (Nat.le_of_ble_eq_true rfl) dX6_told_72 hm rfl ?_
  refine y_istore (ls' := [(5, .int q17), (0, .ref v0), (1, .int v1), (2, .int v2), (3, .int v3), (4, .int v4)]) dX6_told_75 (by decide) rfl rfl ?_
  refine y_iload dX6_told_77 0 rfl ?_
  refine y_if_eq (tgt := 89) dX6_told_79 (by decide) (fun hc43 => ?_) (fun hc43 => ?_)
  · rw [if_pos hc43] at hE
    refine y_aload_n dX6_told_89 1 rfl ?_
    refine y_aload_n dX6_told_90 1 rfl ?_
    obtain ⟨a18, ea18, hE⟩ := Option.bind_eq_some_iff.mp hE
    refine y_getR fl_X6_24 ea18 dX6_told_91 ?_
    refine y_iload_n dX6_told_94 2 rfl ?_
    obtain ⟨a19, ea19, hE⟩ := Option.bind_eq_some_iff.mp hE
    refine y_aald ea19 dX6_told_95 ?_
    refine y_iload_n dX6_told_96 3 rfl ?_
    obtain ⟨u20, eu20, hE⟩ := Option.bind_eq_some_iff.mp hE
    obtain ⟨q21, eq21, hE⟩ := Option.bind_eq_some_iff.mp hE
    refine y_cVi0 (st := []) (as := [.ref a19, .int v2]) (c_X6_playActs eq21) lk_X6_252 in_X6_playActs se_X6_playActs rfl eu20 ⟨Nat.le_of_ble_eq_true rfl, Nat.le_of_ble_eq_true rfl⟩ (Nat.le_of_ble_eq_true rfl) dX6_told_97 hm rfl ?_
    refine y_iconst (v := (-1 : Int32)) dX6_told_100 (by decide) ?_
    refine y_icmp_eq (tgt := 111) dX6_told_101 (by decide) (fun hc40 => ?_) (fun hc40 => ?_)
    · rw [if_pos hc40] at hE
      refine y_iload_n dX6_told_111 4 rfl ?_
      by_cases hc24 : v3 = (0 : Int32)
      · rw [if_pos hc24] at hE
        have hk := hc24
        refine y_tabIn (tgt := 140) dX6_told_112 (by rw [hk]; decide) (by rw [hk]; decide) (by rw [hk]; rfl) (by decide) ?_
        refine y_aload_n dX6_told_140 1 rfl ?_
        obtain ⟨a22, ea22, hE⟩ := Option.bind_eq_some_iff.mp hE
        refine y_getR fl_X6_16 ea22 dX6_told_141 ?_
        obtain ⟨x23, ex23, hE⟩ := Option.bind_eq_some_iff.mp hE
        refine y_getI fl_X6_154 ex23 dX6_told_144 ?_
        obtain ⟨rfl, rfl⟩ := x_inj2 hE
        exact y_ret dX6_told_147 hm.1 hm.2 ⟨_, rfl, rfl⟩
      · rw [if_neg hc24] at hE
        by_cases hc29 : v3 = (1 : Int32)
        · rw [if_pos hc29] at hE
          have hk := hc29
          refine y_tabIn (tgt := 148) dX6_told_112 (by rw [hk]; decide) (by rw [hk]; decide) (by rw [hk]; rfl) (by decide) ?_
          refine y_aload_n dX6_told_148 1 rfl ?_
          obtain ⟨a25, ea25, hE⟩ := Option.bind_eq_some_iff.mp hE
          refine y_getR fl_X6_16 ea25 dX6_told_149 ?_
          obtain ⟨x26, ex26, hE⟩ := Option.bind_eq_some_iff.mp hE
          refine y_getI fl_X6_255 ex26 dX6_told_152 ?_
          refine y_aload_n dX6_told_155 1 rfl ?_
          obtain ⟨a27, ea27, hE⟩ := Option.bind_eq_some_iff.mp hE
          refine y_getR fl_X6_10 ea27 dX6_told_156 ?_
          obtain ⟨x28, ex28, hE⟩ := Option.bind_eq_some_iff.mp hE
          refine y_getI fl_X6_255 ex28 dX6_told_159 ?_
          refine y_isub dX6_told_162 ?_
          obtain ⟨rfl, rfl⟩ := x_inj2 hE
          exact y_ret dX6_told_163 hm.1 hm.2 ⟨_, rfl, rfl⟩
        · rw [if_neg hc29] at hE
          by_cases hc33 : v3 = (2 : Int32)
          · rw [if_pos hc33] at hE
            have hk := hc33
            refine y_tabIn (tgt := 164) dX6_told_112 (by rw [hk]; decide) (by rw [hk]; decide) (by rw [hk]; rfl) (by decide) ?_
            refine y_aload_n dX6_told_164 1 rfl ?_
            obtain ⟨a30, ea30, hE⟩ := Option.bind_eq_some_iff.mp hE
            refine y_getR fl_X6_16 ea30 dX6_told_165 ?_
            obtain ⟨u31, eu31, hE⟩ := Option.bind_eq_some_iff.mp hE
            obtain ⟨q32, eq32, hE⟩ := Option.bind_eq_some_iff.mp hE
            refine y_cVi0 (st := []) (as := []) (c_X0_shutInBits eq32) lk_X6_223 in_X0_shutInBits se_X0_shutInBits rfl eu31 ⟨Nat.le_of_ble_eq_true rfl, Nat.le_of_ble_eq_true rfl⟩ (Nat.le_of_ble_eq_true rfl) dX6_told_168 hm rfl ?_
            obtain ⟨rfl, rfl⟩ := x_inj2 hE
            exact y_ret dX6_told_171 hm.1 hm.2 ⟨_, rfl, rfl⟩
          · rw [if_neg hc33] at hE
            have hO : (v3).toInt < 0 ∨ 2 < (v3).toInt := by
              refine x_tabo (by decide) (by decide) (fun j g1 g2 => ?_)
              rcases (show j = 0 ∨ j = 1 ∨ j = 2 by omega) with rfl | rfl | rfl
              · exact hc24
              · exact hc29
              · exact hc33
            refine y_tabOut (tgt := 172) dX6_told_112 hO (by decide) ?_
            refine y_iload dX6_told_172 5 rfl ?_
            refine y_if_eq (tgt := 192) dX6_told_174 (by decide) (fun hc37 => ?_) (fun hc37 => ?_)
            · rw [if_pos hc37] at hE
              refine y_iconst (v := (-1 : Int32)) dX6_told_192 (by decide) ?_
              obtain ⟨rfl, rfl⟩ := x_inj2 hE
              exact y_ret dX6_told_193 hm.1 hm.2 ⟨_, rfl, rfl⟩
            · rw [if_neg hc37] at hE
              refine y_aload_n dX6_told_177 1 rfl ?_
              obtain ⟨a34, ea34, hE⟩ := Option.bind_eq_some_iff.mp hE
              refine y_getR fl_X6_16 ea34 dX6_told_178 ?_
              obtain ⟨a35, ea35, hE⟩ := Option.bind_eq_some_iff.mp hE
              refine y_getR fl_X6_160 ea35 dX6_told_181 ?_
              refine y_iload_n dX6_told_184 4 rfl ?_
              refine y_bipush (v := (10 : Int32)) dX6_told_185 (by decide) ?_
              refine y_isub dX6_told_187 ?_
              obtain ⟨x36, ex36, hE⟩ := Option.bind_eq_some_iff.mp hE
              refine y_iald ex36 dX6_told_188 ?_
              refine y_goto (tgt := 193) dX6_told_189 (by decide) ?_
              obtain ⟨rfl, rfl⟩ := x_inj2 hE
              exact y_ret dX6_told_193 hm.1 hm.2 ⟨_, rfl, rfl⟩
    · rw [if_neg hc40] at hE
      refine y_aload_n dX6_told_104 1 rfl ?_
      refine y_bipush (v := (-5 : Int32)) dX6_told_105 (by decide) ?_
      obtain ⟨u38, eu38, hE⟩ := Option.bind_eq_some_iff.mp hE
      obtain ⟨q39, eq39, hE⟩ := Option.bind_eq_some_iff.mp hE
      refine y_cVi0 (st := []) (as := [.int (-5 : Int32)]) (c_X6_refuse eq39) lk_X6_58 in_X6_refuse se_X6_refuse rfl eu38 ⟨Nat.le_of_ble_eq_true rfl, Nat.le_of_ble_eq_true rfl⟩ (Nat.le_of_ble_eq_true rfl) dX6_told_107 hm rfl ?_
      obtain ⟨rfl, rfl⟩ := x_inj2 hE
      exact y_ret dX6_told_110 hm.1 hm.2 ⟨_, rfl, rfl⟩
  · rw [if_neg hc43] at hE
    refine y_aload_n dX6_told_82 1 rfl ?_
    refine y_iload dX6_told_83 0 rfl ?_
    obtain ⟨u41, eu41, hE⟩ := Option.bind_eq_some_iff.mp hE
    obtain ⟨q42, eq42, hE⟩ := Option.bind_eq_some_iff.mp hE
    refine y_cVi0 (st := []) (as := [.int q17]) (c_X6_refuse eq42) lk_X6_58 in_X6_refuse se_X6_refuse rfl eu41 ⟨Nat.le_of_ble_eq_true rfl, Nat.le_of_ble_eq_true rfl⟩ (Nat.le_of_ble_eq_true rfl) dX6_told_85 hm rfl ?_
    obtain ⟨rfl, rfl⟩ := x_inj2 hE
    exact y_ret dX6_told_88 hm.1 hm.2 ⟨_, rfl, rfl⟩
def f_X6_told (n : Nat) (h : xH) (a0 : Nat) (p1 : Int32) (p2 : Int32) (p3 : Int32) : Option (Int32 × xH) :=
  (
    if p3 < (10 : Int32) then
      some (0 : Int32)
    else
      (x_gR h a0 6 0).bind fun a2 =>
      (x_gI h a2 0 6).bind fun x3 =>
      if ((10 : Int32) + x3) ≤ p3 then
        some (0 : Int32)
      else
        some (1 : Int32)
  ).bind fun q1 =>
  (f_X6_isShelf h p1).bind fun q6 =>
  if q6 = 0 then
    (x_ob h a0 6).bind fun u7 =>
    (f_X6_refuse h a0 (-2 : Int32)).bind fun q8 =>
    some (q8.1, q8.2)
  else
    if p2 < 0 then
      (x_ob h a0 6).bind fun u9 =>
      (f_X6_refuse h a0 (-2 : Int32)).bind fun q10 =>
      some (q10.1, q10.2)
    else
      if (20 : Int32) < p2 then
        (x_ob h a0 6).bind fun u11 =>
        (f_X6_refuse h a0 (-2 : Int32)).bind fun q12 =>
        some (q12.1, q12.2)
      else
        if q1 = 0 then
          if p3 < 0 then
            (x_ob h a0 6).bind fun u13 =>
            (f_X6_refuse h a0 (-2 : Int32)).bind fun q14 =>
            some (q14.1, q14.2)
          else
            if p3 ≤ (2 : Int32) then
              f_X6_told_J65 n h a0 p1 p2 p3 q1
            else
              (x_ob h a0 6).bind fun u44 =>
              (f_X6_refuse h a0 (-2 : Int32)).bind fun q45 =>
              some (q45.1, q45.2)
        else
          f_X6_told_J65 n h a0 p1 p2 p3 q1
set_option maxRecDepth 100000 in
set_option maxHeartbeats 4000000 in
theorem c_X6_told {n : Nat} {h : xH} {a0 : Nat} {p1 : Int32} {p2 : Int32} {p3 : Int32} {r9 : Int32} {hz : xH} (hE : f_X6_told n h a0 p1 p2 p3 = some (r9, hz)) : Ctr M_X6_told [.ref a0, .int p1, .int p2, .int p3] h (some (.int r9)) hz 0 0 := by
  refine ctr_of (by decide) (fun _ _ => Nat.le_of_ble_eq_true rfl) (fun S => ?_)
  show Y S M_X6_told h (some (.int r9)) hz 0 0 0 [(0, .ref a0), (1, .int p1), (2, .int p2), (3, .int p3)] [] h 0 0
  unfold f_X6_told at hE
  refine y_iload_n dX6_told_0 3 rfl ?_
  refine y_bipush (v := (10 : Int32)) dX6_told_1 (by decide) ?_
  obtain ⟨q1, eJ, hE⟩ := Option.bind_eq_some_iff.mp hE
  have hJ : Y S M_X6_told h (some (.int r9)) hz 0 0 25 [(0, .ref a0), (1, .int p1), (2, .int p2), (3, .int p3)] [.int q1] h 0 0 := by
    refine y_istore (ls' := [(4, .int q1), (0, .ref a0), (1, .int p1), (2, .int p2), (3, .int p3)]) dX6_told_25 (by decide) rfl rfl ?_
    refine y_iload_n dX6_told_27 2 rfl ?_
    obtain ⟨q6, eq6, hE⟩ := Option.bind_eq_some_iff.mp hE
    refine y_cSi0 (st := []) (as := [.int p1]) (c_X6_isShelf eq6) lk_X6_54 st_X6_isShelf ⟨Nat.le_of_ble_eq_true rfl, Nat.le_of_ble_eq_true rfl⟩ (Nat.le_of_ble_eq_true rfl) dX6_told_28 ⟨Nat.le_refl _, Nat.le_refl _⟩ rfl ?_
    refine y_if_eq (tgt := 58) dX6_told_31 (by decide) (fun hc51 => ?_) (fun hc51 => ?_)
    · rw [if_pos hc51] at hE
      refine y_aload_n dX6_told_58 1 rfl ?_
      refine y_bipush (v := (-2 : Int32)) dX6_told_59 (by decide) ?_
      obtain ⟨u7, eu7, hE⟩ := Option.bind_eq_some_iff.mp hE
      obtain ⟨q8, eq8, hE⟩ := Option.bind_eq_some_iff.mp hE
      refine y_cVi0 (st := []) (as := [.int (-2 : Int32)]) (c_X6_refuse eq8) lk_X6_58 in_X6_refuse se_X6_refuse rfl eu7 ⟨Nat.le_of_ble_eq_true rfl, Nat.le_of_ble_eq_true rfl⟩ (Nat.le_of_ble_eq_true rfl) dX6_told_61 ⟨Nat.le_refl _, Nat.le_refl _⟩ rfl ?_
      obtain ⟨rfl, rfl⟩ := x_inj2 hE
      exact y_ret dX6_told_64 (Nat.le_refl _) (Nat.le_refl _) ⟨_, rfl, rfl⟩
    · rw [if_neg hc51] at hE
      refine y_iload_n dX6_told_34 3 rfl ?_
      refine y_if_lt (tgt := 58) dX6_told_35 (by decide) (fun hc50 => ?_) (fun hc50 => ?_)
      · rw [if_pos hc50] at hE
        refine y_aload_n dX6_told_58 1 rfl ?_
        refine y_bipush (v := (-2 : Int32)) dX6_told_59 (by decide) ?_
        obtain ⟨u9, eu9, hE⟩ := Option.bind_eq_some_iff.mp hE
        obtain ⟨q10, eq10, hE⟩ := Option.bind_eq_some_iff.mp hE
        refine y_cVi0 (st := []) (as := [.int (-2 : Int32)]) (c_X6_refuse eq10) lk_X6_58 in_X6_refuse se_X6_refuse rfl eu9 ⟨Nat.le_of_ble_eq_true rfl, Nat.le_of_ble_eq_true rfl⟩ (Nat.le_of_ble_eq_true rfl) dX6_told_61 ⟨Nat.le_refl _, Nat.le_refl _⟩ rfl ?_
        obtain ⟨rfl, rfl⟩ := x_inj2 hE
        exact y_ret dX6_told_64 (Nat.le_refl _) (Nat.le_refl _) ⟨_, rfl, rfl⟩
      · rw [if_neg hc50] at hE
        refine y_iload_n dX6_told_38 3 rfl ?_
        refine y_bipush (v := (20 : Int32)) dX6_told_39 (by decide) ?_
        refine y_icmp_gt (tgt := 58) dX6_told_41 (by decide) (fun hc49 => ?_) (fun hc49 => ?_)
        · rw [if_pos hc49] at hE
          refine y_aload_n dX6_told_58 1 rfl ?_
          refine y_bipush (v := (-2 : Int32)) dX6_told_59 (by decide) ?_
          obtain ⟨u11, eu11, hE⟩ := Option.bind_eq_some_iff.mp hE
          obtain ⟨q12, eq12, hE⟩ := Option.bind_eq_some_iff.mp hE
          refine y_cVi0 (st := []) (as := [.int (-2 : Int32)]) (c_X6_refuse eq12) lk_X6_58 in_X6_refuse se_X6_refuse rfl eu11 ⟨Nat.le_of_ble_eq_true rfl, Nat.le_of_ble_eq_true rfl⟩ (Nat.le_of_ble_eq_true rfl) dX6_told_61 ⟨Nat.le_refl _, Nat.le_refl _⟩ rfl ?_
          obtain ⟨rfl, rfl⟩ := x_inj2 hE
          exact y_ret dX6_told_64 (Nat.le_refl _) (Nat.le_refl _) ⟨_, rfl, rfl⟩
        · rw [if_neg hc49] at hE
          refine y_iload dX6_told_44 0 rfl ?_
          refine y_if_ne (tgt := 65) dX6_told_46 (by decide) (fun hc48 => ?_) (fun hc48 => ?_)
          · rw [if_pos hc48] at hE
            refine y_iload_n dX6_told_49 4 rfl ?_
            refine y_if_lt (tgt := 58) dX6_told_50 (by decide) (fun hc47 => ?_) (fun hc47 => ?_)
            · rw [if_pos hc47] at hE
              refine y_aload_n dX6_told_58 1 rfl ?_
              refine y_bipush (v := (-2 : Int32)) dX6_told_59 (by decide) ?_
              obtain ⟨u13, eu13, hE⟩ := Option.bind_eq_some_iff.mp hE
              obtain ⟨q14, eq14, hE⟩ := Option.bind_eq_some_iff.mp hE
              refine y_cVi0 (st := []) (as := [.int (-2 : Int32)]) (c_X6_refuse eq14) lk_X6_58 in_X6_refuse se_X6_refuse rfl eu13 ⟨Nat.le_of_ble_eq_true rfl, Nat.le_of_ble_eq_true rfl⟩ (Nat.le_of_ble_eq_true rfl) dX6_told_61 ⟨Nat.le_refl _, Nat.le_refl _⟩ rfl ?_
              obtain ⟨rfl, rfl⟩ := x_inj2 hE
              exact y_ret dX6_told_64 (Nat.le_refl _) (Nat.le_refl _) ⟨_, rfl, rfl⟩
            · rw [if_neg hc47] at hE
              refine y_iload_n dX6_told_53 4 rfl ?_
              refine y_iconst (v := (2 : Int32)) dX6_told_54 (by decide) ?_
              refine y_icmp_le (tgt := 65) dX6_told_55 (by decide) (fun hc46 => ?_) (fun hc46 => ?_)
              · rw [if_pos hc46] at hE
                refine y_pick [1, 2, 3, 4, 0] rfl ?_
                exact j_X6_told_65 hE ⟨Nat.le_refl _, Nat.le_refl _⟩
              · rw [if_neg hc46] at hE
                refine y_aload_n dX6_told_58 1 rfl ?_
                refine y_bipush (v := (-2 : Int32)) dX6_told_59 (by decide) ?_
                obtain ⟨u44, eu44, hE⟩ := Option.bind_eq_some_iff.mp hE
                obtain ⟨q45, eq45, hE⟩ := Option.bind_eq_some_iff.mp hE
                refine y_cVi0 (st := []) (as := [.int (-2 : Int32)]) (c_X6_refuse eq45) lk_X6_58 in_X6_refuse se_X6_refuse rfl eu44 ⟨Nat.le_of_ble_eq_true rfl, Nat.le_of_ble_eq_true rfl⟩ (Nat.le_of_ble_eq_true rfl) dX6_told_61 ⟨Nat.le_refl _, Nat.le_refl _⟩ rfl ?_
                obtain ⟨rfl, rfl⟩ := x_inj2 hE
                exact y_ret dX6_told_64 (Nat.le_refl _) (Nat.le_refl _) ⟨_, rfl, rfl⟩
          · rw [if_neg hc48] at hE
            refine y_pick [1, 2, 3, 4, 0] rfl ?_
            exact j_X6_told_65 hE ⟨Nat.le_refl _, Nat.le_refl _⟩
  clear hE
  have hE := eJ
  clear eJ
  refine y_icmp_lt (tgt := 24) dX6_told_3 (by decide) (fun hc5 => ?_) (fun hc5 => ?_)
  · rw [if_pos hc5] at hE
    refine y_iconst (v := (0 : Int32)) dX6_told_24 (by decide) ?_
    obtain rfl := Option.some.inj hE
    exact y_pick [0, 1, 2, 3] rfl hJ
  · rw [if_neg hc5] at hE
    refine y_iload_n dX6_told_6 3 rfl ?_
    refine y_bipush (v := (10 : Int32)) dX6_told_7 (by decide) ?_
    refine y_aload_n dX6_told_9 0 rfl ?_
    obtain ⟨a2, ea2, hE⟩ := Option.bind_eq_some_iff.mp hE
    refine y_getR fl_X6_10 ea2 dX6_told_10 ?_
    obtain ⟨x3, ex3, hE⟩ := Option.bind_eq_some_iff.mp hE
    refine y_getI fl_X6_139 ex3 dX6_told_13 ?_
    refine y_iadd dX6_told_16 ?_
    refine y_icmp_ge (tgt := 24) dX6_told_17 (by decide) (fun hc4 => ?_) (fun hc4 => ?_)
    · rw [if_pos hc4] at hE
      refine y_iconst (v := (0 : Int32)) dX6_told_24 (by decide) ?_
      obtain rfl := Option.some.inj hE
      exact y_pick [0, 1, 2, 3] rfl hJ
    · rw [if_neg hc4] at hE
      refine y_iconst (v := (1 : Int32)) dX6_told_20 (by decide) ?_
      refine y_goto (tgt := 25) dX6_told_21 (by decide) ?_
      obtain rfl := Option.some.inj hE
      exact y_pick [0, 1, 2, 3] rfl hJ
def f_X6_evening_L55 (n : Nat) (v0 : Nat) (v1 : Int32) (v2 : Int32) : Nat → Int32 → xH → Option (xH)
  | 0, _, _ => none
  | k + 1, v3, h =>
    if v1 ≤ v3 then
      some h
    else
      (x_gR h v0 6 0).bind fun a13 =>
      (x_ob h a13 0).bind fun u14 =>
      (f_X0_takeTurn n h a13).bind fun q15 =>
      (some (v3 + (1 : Int32))).bind fun x16 =>
      f_X6_evening_L55 n v0 v1 v2 k x16 q15
set_option maxRecDepth 100000 in
set_option maxHeartbeats 4000000 in
theorem l_X6_evening_55 {S : Nat × (Nat → Int32)} {rv : Option Value} {h0 h1 : xH} {mc ms : Nat} {cells slots : Nat} (hm : cells ≤ mc ∧ slots ≤ ms) (n : Nat) (v0 : Nat) (v1 : Int32) (v2 : Int32) : ∀ (k : Nat) (v3 : Int32) (h : xH) (res : xH), f_X6_evening_L55 n v0 v1 v2 k v3 h = some res → (∀ r9, res = r9 → Y S M_X6_evening h0 rv h1 mc ms 73 [(0, .ref v0), (2, .int v2)] [] r9 cells slots) → Y S M_X6_evening h0 rv h1 mc ms 55 [(0, .ref v0), (1, .int v1), (2, .int v2), (3, .int v3)] [] h cells slots := by
  intro k
  induction k with
  | zero =>
    intro _ _ _ hE
    cases hE
  | succ k ih =>
    intro v3 h res hE K
    unfold f_X6_evening_L55 at hE
    refine y_iload_n dX6_evening_55 3 rfl ?_
    refine y_iload_n dX6_evening_56 1 rfl ?_
    refine y_icmp_ge (tgt := 73) dX6_evening_57 (by decide) (fun hc17 => ?_) (fun hc17 => ?_)
    · rw [if_pos hc17] at hE
      obtain rfl := Option.some.inj hE
      exact y_pick [0, 2] rfl (K _ rfl)
    · rw [if_neg hc17] at hE
      refine y_aload_n dX6_evening_60 0 rfl ?_
      obtain ⟨a13, ea13, hE⟩ := Option.bind_eq_some_iff.mp hE
      refine y_getR fl_X6_10 ea13 dX6_evening_61 ?_
      obtain ⟨u14, eu14, hE⟩ := Option.bind_eq_some_iff.mp hE
      obtain ⟨q15, eq15, hE⟩ := Option.bind_eq_some_iff.mp hE
      refine y_cVv0 (st := []) (as := []) (c_X0_takeTurn eq15) lk_X6_258 in_X0_takeTurn se_X0_takeTurn rfl eu14 ⟨Nat.le_of_ble_eq_true rfl, Nat.le_of_ble_eq_true rfl⟩ (Nat.le_of_ble_eq_true rfl) dX6_evening_64 hm rfl ?_
      obtain ⟨x16, ex16, hE⟩ := Option.bind_eq_some_iff.mp hE
      refine y_iinc (ls' := [(3, .int x16), (0, .ref v0), (1, .int v1), (2, .int v2)]) dX6_evening_67 3 rfl (Option.some.inj ex16) (by decide) rfl ?_
      refine y_goto (tgt := 55) dX6_evening_70 (by decide) ?_
      refine y_pick [1, 2, 3, 0] rfl ?_
      exact ih _ _ _ hE K
def f_X6_evening (n : Nat) (h : xH) (a0 : Nat) (p1 : Int32) : Option (Int32 × xH) :=
  if p1 < (1 : Int32) then
    (x_ob h a0 6).bind fun u1 =>
    (f_X6_refuse h a0 (-2 : Int32)).bind fun q2 =>
    some (q2.1, q2.2)
  else
    if p1 ≤ (60 : Int32) then
      (x_gR h a0 6 0).bind fun a3 =>
      (x_gI h a3 0 4).bind fun x4 =>
      if x4 = 0 then
        (x_ob h a0 6).bind fun u5 =>
        (f_X6_refuse h a0 (-5 : Int32)).bind fun q6 =>
        some (q6.1, q6.2)
      else
        (x_gR h a0 6 0).bind fun a7 =>
        (x_gI h a7 0 6).bind fun x8 =>
        if x8 = 0 then
          (x_ob h a0 6).bind fun u9 =>
          (f_X6_refuse h a0 (-5 : Int32)).bind fun q10 =>
          some (q10.1, q10.2)
        else
          (x_gR h a0 6 0).bind fun a11 =>
          (x_gI h a11 0 10).bind fun x12 =>
          (f_X6_evening_L55 n a0 p1 x12 n (0 : Int32) h).bind fun q18 =>
          (x_gR q18 a0 6 0).bind fun a19 =>
          (x_gI q18 a19 0 10).bind fun x20 =>
          some ((x20 - x12), q18)
    else
      (x_ob h a0 6).bind fun u23 =>
      (f_X6_refuse h a0 (-2 : Int32)).bind fun q24 =>
      some (q24.1, q24.2)
set_option maxRecDepth 100000 in
set_option maxHeartbeats 4000000 in
theorem c_X6_evening {n : Nat} {h : xH} {a0 : Nat} {p1 : Int32} {r9 : Int32} {hz : xH} (hE : f_X6_evening n h a0 p1 = some (r9, hz)) : Ctr M_X6_evening [.ref a0, .int p1] h (some (.int r9)) hz 0 0 := by
  refine ctr_of (by decide) (fun _ _ => Nat.le_of_ble_eq_true rfl) (fun S => ?_)
  show Y S M_X6_evening h (some (.int r9)) hz 0 0 0 [(0, .ref a0), (1, .int p1)] [] h 0 0
  unfold f_X6_evening at hE
  refine y_iload_n dX6_evening_0 1 rfl ?_
  refine y_iconst (v := (1 : Int32)) dX6_evening_1 (by decide) ?_
  refine y_icmp_lt (tgt := 11) dX6_evening_2 (by decide) (fun hc26 => ?_) (fun hc26 => ?_)
  · rw [if_pos hc26] at hE
    refine y_aload_n dX6_evening_11 0 rfl ?_
    refine y_bipush (v := (-2 : Int32)) dX6_evening_12 (by decide) ?_
    obtain ⟨u1, eu1, hE⟩ := Option.bind_eq_some_iff.mp hE
    obtain ⟨q2, eq2, hE⟩ := Option.bind_eq_some_iff.mp hE
    refine y_cVi0 (st := []) (as := [.int (-2 : Int32)]) (c_X6_refuse eq2) lk_X6_58 in_X6_refuse se_X6_refuse rfl eu1 ⟨Nat.le_of_ble_eq_true rfl, Nat.le_of_ble_eq_true rfl⟩ (Nat.le_of_ble_eq_true rfl) dX6_evening_14 ⟨Nat.le_refl _, Nat.le_refl _⟩ rfl ?_
    obtain ⟨rfl, rfl⟩ := x_inj2 hE
    exact y_ret dX6_evening_17 (Nat.le_refl _) (Nat.le_refl _) ⟨_, rfl, rfl⟩
  · rw [if_neg hc26] at hE
    refine y_iload_n dX6_evening_5 1 rfl ?_
    refine y_bipush (v := (60 : Int32)) dX6_evening_6 (by decide) ?_
    refine y_icmp_le (tgt := 18) dX6_evening_8 (by decide) (fun hc25 => ?_) (fun hc25 => ?_)
    · rw [if_pos hc25] at hE
      refine y_aload_n dX6_evening_18 0 rfl ?_
      obtain ⟨a3, ea3, hE⟩ := Option.bind_eq_some_iff.mp hE
      refine y_getR fl_X6_10 ea3 dX6_evening_19 ?_
      obtain ⟨x4, ex4, hE⟩ := Option.bind_eq_some_iff.mp hE
      refine y_getI fl_X6_132 ex4 dX6_evening_22 ?_
      refine y_if_eq (tgt := 38) dX6_evening_25 (by decide) (fun hc22 => ?_) (fun hc22 => ?_)
      · rw [if_pos hc22] at hE
        refine y_aload_n dX6_evening_38 0 rfl ?_
        refine y_bipush (v := (-5 : Int32)) dX6_evening_39 (by decide) ?_
        obtain ⟨u5, eu5, hE⟩ := Option.bind_eq_some_iff.mp hE
        obtain ⟨q6, eq6, hE⟩ := Option.bind_eq_some_iff.mp hE
        refine y_cVi0 (st := []) (as := [.int (-5 : Int32)]) (c_X6_refuse eq6) lk_X6_58 in_X6_refuse se_X6_refuse rfl eu5 ⟨Nat.le_of_ble_eq_true rfl, Nat.le_of_ble_eq_true rfl⟩ (Nat.le_of_ble_eq_true rfl) dX6_evening_41 ⟨Nat.le_refl _, Nat.le_refl _⟩ rfl ?_
        obtain ⟨rfl, rfl⟩ := x_inj2 hE
        exact y_ret dX6_evening_44 (Nat.le_refl _) (Nat.le_refl _) ⟨_, rfl, rfl⟩
      · rw [if_neg hc22] at hE
        refine y_aload_n dX6_evening_28 0 rfl ?_
        obtain ⟨a7, ea7, hE⟩ := Option.bind_eq_some_iff.mp hE
        refine y_getR fl_X6_10 ea7 dX6_evening_29 ?_
        obtain ⟨x8, ex8, hE⟩ := Option.bind_eq_some_iff.mp hE
        refine y_getI fl_X6_139 ex8 dX6_evening_32 ?_
        refine y_if_ne (tgt := 45) dX6_evening_35 (by decide) (fun hc21 => ?_) (fun hc21 => ?_)
        · rw [if_pos hc21] at hE
          refine y_aload_n dX6_evening_38 0 rfl ?_
          refine y_bipush (v := (-5 : Int32)) dX6_evening_39 (by decide) ?_
          obtain ⟨u9, eu9, hE⟩ := Option.bind_eq_some_iff.mp hE
          obtain ⟨q10, eq10, hE⟩ := Option.bind_eq_some_iff.mp hE
          refine y_cVi0 (st := []) (as := [.int (-5 : Int32)]) (c_X6_refuse eq10) lk_X6_58 in_X6_refuse se_X6_refuse rfl eu9 ⟨Nat.le_of_ble_eq_true rfl, Nat.le_of_ble_eq_true rfl⟩ (Nat.le_of_ble_eq_true rfl) dX6_evening_41 ⟨Nat.le_refl _, Nat.le_refl _⟩ rfl ?_
          obtain ⟨rfl, rfl⟩ := x_inj2 hE
          exact y_ret dX6_evening_44 (Nat.le_refl _) (Nat.le_refl _) ⟨_, rfl, rfl⟩
        · rw [if_neg hc21] at hE
          refine y_aload_n dX6_evening_45 0 rfl ?_
          obtain ⟨a11, ea11, hE⟩ := Option.bind_eq_some_iff.mp hE
          refine y_getR fl_X6_10 ea11 dX6_evening_46 ?_
          obtain ⟨x12, ex12, hE⟩ := Option.bind_eq_some_iff.mp hE
          refine y_getI fl_X6_255 ex12 dX6_evening_49 ?_
          refine y_istore_n (ls' := [(2, .int x12), (0, .ref a0), (1, .int p1)]) dX6_evening_52 (by decide) rfl rfl ?_
          refine y_iconst (v := (0 : Int32)) dX6_evening_53 (by decide) ?_
          refine y_istore_n (ls' := [(3, .int (0 : Int32)), (2, .int x12), (0, .ref a0), (1, .int p1)]) dX6_evening_54 (by decide) rfl rfl ?_
          obtain ⟨q18, eq18, hE⟩ := Option.bind_eq_some_iff.mp hE
          refine y_pick [2, 3, 1, 0] rfl ?_
          refine l_X6_evening_55 (S := S) ⟨Nat.le_refl _, Nat.le_refl _⟩ n a0 p1 x12 n (0 : Int32) h _ eq18 (fun r8 hr8 => ?_)
          subst hr8
          refine y_aload_n dX6_evening_73 0 rfl ?_
          obtain ⟨a19, ea19, hE⟩ := Option.bind_eq_some_iff.mp hE
          refine y_getR fl_X6_10 ea19 dX6_evening_74 ?_
          obtain ⟨x20, ex20, hE⟩ := Option.bind_eq_some_iff.mp hE
          refine y_getI fl_X6_255 ex20 dX6_evening_77 ?_
          refine y_iload_n dX6_evening_80 1 rfl ?_
          refine y_isub dX6_evening_81 ?_
          obtain ⟨rfl, rfl⟩ := x_inj2 hE
          exact y_ret dX6_evening_82 (Nat.le_refl _) (Nat.le_refl _) ⟨_, rfl, rfl⟩
    · rw [if_neg hc25] at hE
      refine y_aload_n dX6_evening_11 0 rfl ?_
      refine y_bipush (v := (-2 : Int32)) dX6_evening_12 (by decide) ?_
      obtain ⟨u23, eu23, hE⟩ := Option.bind_eq_some_iff.mp hE
      obtain ⟨q24, eq24, hE⟩ := Option.bind_eq_some_iff.mp hE
      refine y_cVi0 (st := []) (as := [.int (-2 : Int32)]) (c_X6_refuse eq24) lk_X6_58 in_X6_refuse se_X6_refuse rfl eu23 ⟨Nat.le_of_ble_eq_true rfl, Nat.le_of_ble_eq_true rfl⟩ (Nat.le_of_ble_eq_true rfl) dX6_evening_14 ⟨Nat.le_refl _, Nat.le_refl _⟩ rfl ?_
      obtain ⟨rfl, rfl⟩ := x_inj2 hE
      exact y_ret dX6_evening_17 (Nat.le_refl _) (Nat.le_refl _) ⟨_, rfl, rfl⟩
def f_X6_night (n : Nat) (h : xH) (a0 : Nat) : Option (Int32 × xH) :=
  (x_gR h a0 6 0).bind fun a1 =>
  (x_ob h a1 0).bind fun u2 =>
  (f_X0_blow n h a1).bind fun q3 =>
  some (q3.1, q3.2)
set_option maxRecDepth 100000 in
set_option maxHeartbeats 4000000 in
theorem c_X6_night {n : Nat} {h : xH} {a0 : Nat} {r9 : Int32} {hz : xH} (hE : f_X6_night n h a0 = some (r9, hz)) : Ctr M_X6_night [.ref a0] h (some (.int r9)) hz 0 0 := by
  refine ctr_of (by decide) (fun _ _ => Nat.le_of_ble_eq_true rfl) (fun S => ?_)
  show Y S M_X6_night h (some (.int r9)) hz 0 0 0 [(0, .ref a0)] [] h 0 0
  unfold f_X6_night at hE
  refine y_aload_n dX6_night_0 0 rfl ?_
  obtain ⟨a1, ea1, hE⟩ := Option.bind_eq_some_iff.mp hE
  refine y_getR fl_X6_10 ea1 dX6_night_1 ?_
  obtain ⟨u2, eu2, hE⟩ := Option.bind_eq_some_iff.mp hE
  obtain ⟨q3, eq3, hE⟩ := Option.bind_eq_some_iff.mp hE
  refine y_cVi0 (st := []) (as := []) (c_X0_blow eq3) lk_X6_261 in_X0_blow se_X0_blow rfl eu2 ⟨Nat.le_of_ble_eq_true rfl, Nat.le_of_ble_eq_true rfl⟩ (Nat.le_of_ble_eq_true rfl) dX6_night_4 ⟨Nat.le_refl _, Nat.le_refl _⟩ rfl ?_
  obtain ⟨rfl, rfl⟩ := x_inj2 hE
  exact y_ret dX6_night_7 (Nat.le_refl _) (Nat.le_refl _) ⟨_, rfl, rfl⟩
def f_X6_seed (h : xH) (a0 : Nat) (p1 : Int32) : Option (Int32 × xH) :=
  (x_gR h a0 6 0).bind fun a1 =>
  (x_gI h a1 0 9).bind fun x2 =>
  (x_gR h a0 6 0).bind fun a3 =>
  (x_put h a3 0 9 (.int p1)).bind fun h4 =>
  some (x2, h4)
set_option maxRecDepth 100000 in
set_option maxHeartbeats 4000000 in
theorem c_X6_seed {h : xH} {a0 : Nat} {p1 : Int32} {r9 : Int32} {hz : xH} (hE : f_X6_seed h a0 p1 = some (r9, hz)) : Ctr M_X6_seed [.ref a0, .int p1] h (some (.int r9)) hz 0 0 := by
  refine ctr_of (by decide) (fun _ _ => Nat.le_of_ble_eq_true rfl) (fun S => ?_)
  show Y S M_X6_seed h (some (.int r9)) hz 0 0 0 [(0, .ref a0), (1, .int p1)] [] h 0 0
  unfold f_X6_seed at hE
  refine y_aload_n dX6_seed_0 0 rfl ?_
  obtain ⟨a1, ea1, hE⟩ := Option.bind_eq_some_iff.mp hE
  refine y_getR fl_X6_10 ea1 dX6_seed_1 ?_
  obtain ⟨x2, ex2, hE⟩ := Option.bind_eq_some_iff.mp hE
  refine y_getI fl_X6_264 ex2 dX6_seed_4 ?_
  refine y_istore_n (ls' := [(2, .int x2), (0, .ref a0), (1, .int p1)]) dX6_seed_7 (by decide) rfl rfl ?_
  refine y_aload_n dX6_seed_8 1 rfl ?_
  obtain ⟨a3, ea3, hE⟩ := Option.bind_eq_some_iff.mp hE
  refine y_getR fl_X6_10 ea3 dX6_seed_9 ?_
  refine y_iload_n dX6_seed_12 2 rfl ?_
  obtain ⟨h4, eh4, hE⟩ := Option.bind_eq_some_iff.mp hE
  refine y_putI fp_X6_264 eh4 dX6_seed_13 ?_
  refine y_iload_n dX6_seed_16 0 rfl ?_
  obtain ⟨rfl, rfl⟩ := x_inj2 hE
  exact y_ret dX6_seed_17 (Nat.le_refl _) (Nat.le_refl _) ⟨_, rfl, rfl⟩
def f_X6_image (n : Nat) (h : xH) (a0 : Nat) : Option (Int32 × xH) :=
  (x_gR h a0 6 2).bind fun a1 =>
  (x_gR h a0 6 0).bind fun a2 =>
  (x_ob h a1 0).bind fun u3 =>
  (f_X0_become n h a1 a2).bind fun q4 =>
  (x_put q4 a0 6 3 (.int (1 : Int32))).bind fun h5 =>
  some ((1 : Int32), h5)
set_option maxRecDepth 100000 in
set_option maxHeartbeats 4000000 in
theorem c_X6_image {n : Nat} {h : xH} {a0 : Nat} {r9 : Int32} {hz : xH} (hE : f_X6_image n h a0 = some (r9, hz)) : Ctr M_X6_image [.ref a0] h (some (.int r9)) hz 0 0 := by
  refine ctr_of (by decide) (fun _ _ => Nat.le_of_ble_eq_true rfl) (fun S => ?_)
  show Y S M_X6_image h (some (.int r9)) hz 0 0 0 [(0, .ref a0)] [] h 0 0
  unfold f_X6_image at hE
  refine y_aload_n dX6_image_0 0 rfl ?_
  obtain ⟨a1, ea1, hE⟩ := Option.bind_eq_some_iff.mp hE
  refine y_getR fl_X6_19 ea1 dX6_image_1 ?_
  refine y_aload_n dX6_image_4 0 rfl ?_
  obtain ⟨a2, ea2, hE⟩ := Option.bind_eq_some_iff.mp hE
  refine y_getR fl_X6_10 ea2 dX6_image_5 ?_
  obtain ⟨u3, eu3, hE⟩ := Option.bind_eq_some_iff.mp hE
  obtain ⟨q4, eq4, hE⟩ := Option.bind_eq_some_iff.mp hE
  refine y_cVv0 (st := []) (as := [.ref a2]) (c_X0_become eq4) lk_X6_169 in_X0_become se_X0_become rfl eu3 ⟨Nat.le_of_ble_eq_true rfl, Nat.le_of_ble_eq_true rfl⟩ (Nat.le_of_ble_eq_true rfl) dX6_image_8 ⟨Nat.le_refl _, Nat.le_refl _⟩ rfl ?_
  refine y_aload_n dX6_image_11 0 rfl ?_
  refine y_iconst (v := (1 : Int32)) dX6_image_12 (by decide) ?_
  obtain ⟨h5, eh5, hE⟩ := Option.bind_eq_some_iff.mp hE
  refine y_putZ fp_X6_267 rfl rfl eh5 dX6_image_13 ?_
  refine y_iconst (v := (1 : Int32)) dX6_image_16 (by decide) ?_
  obtain ⟨rfl, rfl⟩ := x_inj2 hE
  exact y_ret dX6_image_17 (Nat.le_refl _) (Nat.le_refl _) ⟨_, rfl, rfl⟩
def f_X6_back_L27 (v0 : Nat) : Nat → Int32 → xH → Option (xH)
  | 0, _, _ => none
  | k + 1, v1, h =>
    if (8 : Int32) ≤ v1 then
      some h
    else
      (x_gR h v0 6 4).bind fun a8 =>
      (x_ldQ h a8 v1).bind fun a9 =>
      (x_ob h a9 4).bind fun u10 =>
      (f_X4_holdsDoor h a9).bind fun q11 =>
      if q11 = 0 then
        (some (v1 + (1 : Int32))).bind fun x12 =>
        f_X6_back_L27 v0 k x12 h
      else
        (x_gR h v0 6 0).bind fun a13 =>
        (x_gR h v0 6 4).bind fun a14 =>
        (x_ldQ h a14 v1).bind fun a15 =>
        (x_ob h a15 4).bind fun u16 =>
        (f_X4_heldDoor h a15).bind fun q17 =>
        (x_ob h a13 0).bind fun u18 =>
        (f_X0_hasDoor h a13 q17).bind fun q19 =>
        if q19 = 0 then
          (x_gR h v0 6 4).bind fun a20 =>
          (x_ldQ h a20 v1).bind fun a21 =>
          (x_ob h a21 4).bind fun u22 =>
          (f_X4_clear h a21).bind fun q23 =>
          (some (v1 + (1 : Int32))).bind fun x24 =>
          f_X6_back_L27 v0 k x24 q23
        else
          (some (v1 + (1 : Int32))).bind fun x25 =>
          f_X6_back_L27 v0 k x25 h
set_option maxRecDepth 100000 in
set_option maxHeartbeats 4000000 in
theorem l_X6_back_27 {S : Nat × (Nat → Int32)} {rv : Option Value} {h0 h1 : xH} {mc ms : Nat} {cells slots : Nat} (hm : cells ≤ mc ∧ slots ≤ ms) (v0 : Nat) : ∀ (k : Nat) (v1 : Int32) (h : xH) (res : xH), f_X6_back_L27 v0 k v1 h = some res → (∀ r9, res = r9 → Y S M_X6_back h0 rv h1 mc ms 79 [] [] r9 cells slots) → Y S M_X6_back h0 rv h1 mc ms 27 [(0, .ref v0), (1, .int v1)] [] h cells slots := by
  intro k
  induction k with
  | zero =>
    intro _ _ _ hE
    cases hE
  | succ k ih =>
    intro v1 h res hE K
    unfold f_X6_back_L27 at hE
    refine y_iload_n dX6_back_27 1 rfl ?_
    refine y_bipush (v := (8 : Int32)) dX6_back_28 (by decide) ?_
    refine y_icmp_ge (tgt := 79) dX6_back_30 (by decide) (fun hc28 => ?_) (fun hc28 => ?_)
    · rw [if_pos hc28] at hE
      obtain rfl := Option.some.inj hE
      exact y_pick [] rfl (K _ rfl)
    · rw [if_neg hc28] at hE
      refine y_aload_n dX6_back_33 0 rfl ?_
      obtain ⟨a8, ea8, hE⟩ := Option.bind_eq_some_iff.mp hE
      refine y_getR fl_X6_24 ea8 dX6_back_34 ?_
      refine y_iload_n dX6_back_37 1 rfl ?_
      obtain ⟨a9, ea9, hE⟩ := Option.bind_eq_some_iff.mp hE
      refine y_aald ea9 dX6_back_38 ?_
      obtain ⟨u10, eu10, hE⟩ := Option.bind_eq_some_iff.mp hE
      obtain ⟨q11, eq11, hE⟩ := Option.bind_eq_some_iff.mp hE
      refine y_cVi0 (st := []) (as := []) (c_X4_holdsDoor eq11) lk_X6_77 in_X4_holdsDoor se_X4_holdsDoor rfl eu10 ⟨Nat.le_of_ble_eq_true rfl, Nat.le_of_ble_eq_true rfl⟩ (Nat.le_of_ble_eq_true rfl) dX6_back_39 hm rfl ?_
      refine y_if_eq (tgt := 73) dX6_back_42 (by decide) (fun hc27 => ?_) (fun hc27 => ?_)
      · rw [if_pos hc27] at hE
        obtain ⟨x12, ex12, hE⟩ := Option.bind_eq_some_iff.mp hE
        refine y_iinc (ls' := [(1, .int x12), (0, .ref v0)]) dX6_back_73 1 rfl (Option.some.inj ex12) (by decide) rfl ?_
        refine y_goto (tgt := 27) dX6_back_76 (by decide) ?_
        refine y_pick [1, 0] rfl ?_
        exact ih _ _ _ hE K
      · rw [if_neg hc27] at hE
        refine y_aload_n dX6_back_45 0 rfl ?_
        obtain ⟨a13, ea13, hE⟩ := Option.bind_eq_some_iff.mp hE
        refine y_getR fl_X6_10 ea13 dX6_back_46 ?_
        refine y_aload_n dX6_back_49 0 rfl ?_
        obtain ⟨a14, ea14, hE⟩ := Option.bind_eq_some_iff.mp hE
        refine y_getR fl_X6_24 ea14 dX6_back_50 ?_
        refine y_iload_n dX6_back_53 1 rfl ?_
        obtain ⟨a15, ea15, hE⟩ := Option.bind_eq_some_iff.mp hE
        refine y_aald ea15 dX6_back_54 ?_
        obtain ⟨u16, eu16, hE⟩ := Option.bind_eq_some_iff.mp hE
        obtain ⟨q17, eq17, hE⟩ := Option.bind_eq_some_iff.mp hE
        refine y_cVi0 (st := [.ref a13]) (as := []) (c_X4_heldDoor eq17) lk_X6_115 in_X4_heldDoor se_X4_heldDoor rfl eu16 ⟨Nat.le_of_ble_eq_true rfl, Nat.le_of_ble_eq_true rfl⟩ (Nat.le_of_ble_eq_true rfl) dX6_back_55 hm rfl ?_
        obtain ⟨u18, eu18, hE⟩ := Option.bind_eq_some_iff.mp hE
        obtain ⟨q19, eq19, hE⟩ := Option.bind_eq_some_iff.mp hE
        refine y_cVi0 (st := []) (as := [.int q17]) (c_X0_hasDoor eq19) lk_X6_102 in_X0_hasDoor se_X0_hasDoor rfl eu18 ⟨Nat.le_of_ble_eq_true rfl, Nat.le_of_ble_eq_true rfl⟩ (Nat.le_of_ble_eq_true rfl) dX6_back_58 hm rfl ?_
        refine y_if_ne (tgt := 73) dX6_back_61 (by decide) (fun hc26 => ?_) (fun hc26 => ?_)
        · rw [if_pos hc26] at hE
          refine y_aload_n dX6_back_64 0 rfl ?_
          obtain ⟨a20, ea20, hE⟩ := Option.bind_eq_some_iff.mp hE
          refine y_getR fl_X6_24 ea20 dX6_back_65 ?_
          refine y_iload_n dX6_back_68 1 rfl ?_
          obtain ⟨a21, ea21, hE⟩ := Option.bind_eq_some_iff.mp hE
          refine y_aald ea21 dX6_back_69 ?_
          obtain ⟨u22, eu22, hE⟩ := Option.bind_eq_some_iff.mp hE
          obtain ⟨q23, eq23, hE⟩ := Option.bind_eq_some_iff.mp hE
          refine y_cVv0 (st := []) (as := []) (c_X4_clear eq23) lk_X6_105 in_X4_clear se_X4_clear rfl eu22 ⟨Nat.le_of_ble_eq_true rfl, Nat.le_of_ble_eq_true rfl⟩ (Nat.le_of_ble_eq_true rfl) dX6_back_70 hm rfl ?_
          obtain ⟨x24, ex24, hE⟩ := Option.bind_eq_some_iff.mp hE
          refine y_iinc (ls' := [(1, .int x24), (0, .ref v0)]) dX6_back_73 1 rfl (Option.some.inj ex24) (by decide) rfl ?_
          refine y_goto (tgt := 27) dX6_back_76 (by decide) ?_
          refine y_pick [1, 0] rfl ?_
          exact ih _ _ _ hE K
        · rw [if_neg hc26] at hE
          obtain ⟨x25, ex25, hE⟩ := Option.bind_eq_some_iff.mp hE
          refine y_iinc (ls' := [(1, .int x25), (0, .ref v0)]) dX6_back_73 1 rfl (Option.some.inj ex25) (by decide) rfl ?_
          refine y_goto (tgt := 27) dX6_back_76 (by decide) ?_
          refine y_pick [1, 0] rfl ?_
          exact ih _ _ _ hE K
def f_X6_back (n : Nat) (h : xH) (a0 : Nat) : Option (Int32 × xH) :=
  (x_gI h a0 6 3).bind fun x1 =>
  if x1 = 0 then
    (x_ob h a0 6).bind fun u2 =>
    (f_X6_refuse h a0 (-5 : Int32)).bind fun q3 =>
    some (q3.1, q3.2)
  else
    (x_gR h a0 6 0).bind fun a4 =>
    (x_gR h a0 6 2).bind fun a5 =>
    (x_ob h a4 0).bind fun u6 =>
    (f_X0_become n h a4 a5).bind fun q7 =>
    (f_X6_back_L27 a0 n (0 : Int32) q7).bind fun q29 =>
    some ((1 : Int32), q29)
set_option maxRecDepth 100000 in
set_option maxHeartbeats 4000000 in
theorem c_X6_back {n : Nat} {h : xH} {a0 : Nat} {r9 : Int32} {hz : xH} (hE : f_X6_back n h a0 = some (r9, hz)) : Ctr M_X6_back [.ref a0] h (some (.int r9)) hz 0 0 := by
  refine ctr_of (by decide) (fun _ _ => Nat.le_of_ble_eq_true rfl) (fun S => ?_)
  show Y S M_X6_back h (some (.int r9)) hz 0 0 0 [(0, .ref a0)] [] h 0 0
  unfold f_X6_back at hE
  refine y_aload_n dX6_back_0 0 rfl ?_
  obtain ⟨x1, ex1, hE⟩ := Option.bind_eq_some_iff.mp hE
  refine y_getI fl_X6_267 ex1 dX6_back_1 ?_
  refine y_if_ne (tgt := 14) dX6_back_4 (by decide) (fun hc30 => ?_) (fun hc30 => ?_)
  · rw [if_pos hc30] at hE
    refine y_aload_n dX6_back_7 0 rfl ?_
    refine y_bipush (v := (-5 : Int32)) dX6_back_8 (by decide) ?_
    obtain ⟨u2, eu2, hE⟩ := Option.bind_eq_some_iff.mp hE
    obtain ⟨q3, eq3, hE⟩ := Option.bind_eq_some_iff.mp hE
    refine y_cVi0 (st := []) (as := [.int (-5 : Int32)]) (c_X6_refuse eq3) lk_X6_58 in_X6_refuse se_X6_refuse rfl eu2 ⟨Nat.le_of_ble_eq_true rfl, Nat.le_of_ble_eq_true rfl⟩ (Nat.le_of_ble_eq_true rfl) dX6_back_10 ⟨Nat.le_refl _, Nat.le_refl _⟩ rfl ?_
    obtain ⟨rfl, rfl⟩ := x_inj2 hE
    exact y_ret dX6_back_13 (Nat.le_refl _) (Nat.le_refl _) ⟨_, rfl, rfl⟩
  · rw [if_neg hc30] at hE
    refine y_aload_n dX6_back_14 0 rfl ?_
    obtain ⟨a4, ea4, hE⟩ := Option.bind_eq_some_iff.mp hE
    refine y_getR fl_X6_10 ea4 dX6_back_15 ?_
    refine y_aload_n dX6_back_18 0 rfl ?_
    obtain ⟨a5, ea5, hE⟩ := Option.bind_eq_some_iff.mp hE
    refine y_getR fl_X6_19 ea5 dX6_back_19 ?_
    obtain ⟨u6, eu6, hE⟩ := Option.bind_eq_some_iff.mp hE
    obtain ⟨q7, eq7, hE⟩ := Option.bind_eq_some_iff.mp hE
    refine y_cVv0 (st := []) (as := [.ref a5]) (c_X0_become eq7) lk_X6_169 in_X0_become se_X0_become rfl eu6 ⟨Nat.le_of_ble_eq_true rfl, Nat.le_of_ble_eq_true rfl⟩ (Nat.le_of_ble_eq_true rfl) dX6_back_22 ⟨Nat.le_refl _, Nat.le_refl _⟩ rfl ?_
    refine y_iconst (v := (0 : Int32)) dX6_back_25 (by decide) ?_
    refine y_istore_n (ls' := [(1, .int (0 : Int32)), (0, .ref a0)]) dX6_back_26 (by decide) rfl rfl ?_
    obtain ⟨q29, eq29, hE⟩ := Option.bind_eq_some_iff.mp hE
    refine y_pick [1, 0] rfl ?_
    refine l_X6_back_27 (S := S) ⟨Nat.le_refl _, Nat.le_refl _⟩ a0 n (0 : Int32) q7 _ eq29 (fun r8 hr8 => ?_)
    subst hr8
    refine y_iconst (v := (1 : Int32)) dX6_back_79 (by decide) ?_
    obtain ⟨rfl, rfl⟩ := x_inj2 hE
    exact y_ret dX6_back_80 (Nat.le_refl _) (Nat.le_refl _) ⟨_, rfl, rfl⟩
def f_X6_fullShelves_L4 (h : xH) (v0 : Nat) : Nat → Int32 → Int32 → Option (Int32)
  | 0, _, _ => none
  | k + 1, v1, v2 =>
    if (8 : Int32) ≤ v2 then
      some v1
    else
      (x_gR h v0 6 4).bind fun a1 =>
      (x_ldQ h a1 v2).bind fun a2 =>
      (x_ob h a2 4).bind fun u3 =>
      (f_X4_isEmpty h a2).bind fun q4 =>
      if q4 = 0 then
        (some (v1 + (1 : Int32))).bind fun x5 =>
        (some (v2 + (1 : Int32))).bind fun x6 =>
        f_X6_fullShelves_L4 h v0 k x5 x6
      else
        (some (v2 + (1 : Int32))).bind fun x7 =>
        f_X6_fullShelves_L4 h v0 k v1 x7
set_option maxRecDepth 100000 in
set_option maxHeartbeats 4000000 in
theorem l_X6_fullShelves_4 {S : Nat × (Nat → Int32)} {rv : Option Value} {h0 h1 : xH} {mc ms : Nat} {cells slots : Nat} (hm : cells ≤ mc ∧ slots ≤ ms) (h : xH) (v0 : Nat) : ∀ (k : Nat) (v1 : Int32) (v2 : Int32) (res : Int32), f_X6_fullShelves_L4 h v0 k v1 v2 = some res → (∀ r9, res = r9 → Y S M_X6_fullShelves h0 rv h1 mc ms 31 [(1, .int r9)] [] h cells slots) → Y S M_X6_fullShelves h0 rv h1 mc ms 4 [(0, .ref v0), (1, .int v1), (2, .int v2)] [] h cells slots := by
  intro k
  induction k with
  | zero =>
    intro _ _ _ hE
    cases hE
  | succ k ih =>
    intro v1 v2 res hE K
    unfold f_X6_fullShelves_L4 at hE
    refine y_iload_n dX6_fullShelves_4 2 rfl ?_
    refine y_bipush (v := (8 : Int32)) dX6_fullShelves_5 (by decide) ?_
    refine y_icmp_ge (tgt := 31) dX6_fullShelves_7 (by decide) (fun hc9 => ?_) (fun hc9 => ?_)
    · rw [if_pos hc9] at hE
      obtain rfl := Option.some.inj hE
      exact y_pick [1] rfl (K _ rfl)
    · rw [if_neg hc9] at hE
      refine y_aload_n dX6_fullShelves_10 0 rfl ?_
      obtain ⟨a1, ea1, hE⟩ := Option.bind_eq_some_iff.mp hE
      refine y_getR fl_X6_24 ea1 dX6_fullShelves_11 ?_
      refine y_iload_n dX6_fullShelves_14 2 rfl ?_
      obtain ⟨a2, ea2, hE⟩ := Option.bind_eq_some_iff.mp hE
      refine y_aald ea2 dX6_fullShelves_15 ?_
      obtain ⟨u3, eu3, hE⟩ := Option.bind_eq_some_iff.mp hE
      obtain ⟨q4, eq4, hE⟩ := Option.bind_eq_some_iff.mp hE
      refine y_cVi0 (st := []) (as := []) (c_X4_isEmpty eq4) lk_X6_81 in_X4_isEmpty se_X4_isEmpty rfl eu3 ⟨Nat.le_of_ble_eq_true rfl, Nat.le_of_ble_eq_true rfl⟩ (Nat.le_of_ble_eq_true rfl) dX6_fullShelves_16 hm rfl ?_
      refine y_if_ne (tgt := 25) dX6_fullShelves_19 (by decide) (fun hc8 => ?_) (fun hc8 => ?_)
      · rw [if_pos hc8] at hE
        obtain ⟨x5, ex5, hE⟩ := Option.bind_eq_some_iff.mp hE
        refine y_iinc (ls' := [(1, .int x5), (0, .ref v0), (2, .int v2)]) dX6_fullShelves_22 1 rfl (Option.some.inj ex5) (by decide) rfl ?_
        obtain ⟨x6, ex6, hE⟩ := Option.bind_eq_some_iff.mp hE
        refine y_iinc (ls' := [(2, .int x6), (1, .int x5), (0, .ref v0)]) dX6_fullShelves_25 2 rfl (Option.some.inj ex6) (by decide) rfl ?_
        refine y_goto (tgt := 4) dX6_fullShelves_28 (by decide) ?_
        refine y_pick [2, 1, 0] rfl ?_
        exact ih _ _ _ hE K
      · rw [if_neg hc8] at hE
        obtain ⟨x7, ex7, hE⟩ := Option.bind_eq_some_iff.mp hE
        refine y_iinc (ls' := [(2, .int x7), (0, .ref v0), (1, .int v1)]) dX6_fullShelves_25 2 rfl (Option.some.inj ex7) (by decide) rfl ?_
        refine y_goto (tgt := 4) dX6_fullShelves_28 (by decide) ?_
        refine y_pick [1, 2, 0] rfl ?_
        exact ih _ _ _ hE K
def f_X6_fullShelves (n : Nat) (h : xH) (a0 : Nat) : Option (Int32) :=
  (f_X6_fullShelves_L4 h a0 n (0 : Int32) (0 : Int32)).bind fun q10 =>
  some q10
set_option maxRecDepth 100000 in
set_option maxHeartbeats 4000000 in
theorem c_X6_fullShelves {n : Nat} {h : xH} {a0 : Nat} {r9 : Int32} (hE : f_X6_fullShelves n h a0 = some r9) : Ctr M_X6_fullShelves [.ref a0] h (some (.int r9)) h 0 0 := by
  refine ctr_of (by decide) (fun _ _ => Nat.le_of_ble_eq_true rfl) (fun S => ?_)
  show Y S M_X6_fullShelves h (some (.int r9)) h 0 0 0 [(0, .ref a0)] [] h 0 0
  unfold f_X6_fullShelves at hE
  refine y_iconst (v := (0 : Int32)) dX6_fullShelves_0 (by decide) ?_
  refine y_istore_n (ls' := [(1, .int (0 : Int32)), (0, .ref a0)]) dX6_fullShelves_1 (by decide) rfl rfl ?_
  refine y_iconst (v := (0 : Int32)) dX6_fullShelves_2 (by decide) ?_
  refine y_istore_n (ls' := [(2, .int (0 : Int32)), (1, .int (0 : Int32)), (0, .ref a0)]) dX6_fullShelves_3 (by decide) rfl rfl ?_
  obtain ⟨q10, eq10, hE⟩ := Option.bind_eq_some_iff.mp hE
  refine y_pick [2, 1, 0] rfl ?_
  refine l_X6_fullShelves_4 (S := S) ⟨Nat.le_refl _, Nat.le_refl _⟩ h a0 n (0 : Int32) (0 : Int32) _ eq10 (fun r8 hr8 => ?_)
  subst hr8
  refine y_iload_n dX6_fullShelves_31 0 rfl ?_
  obtain rfl := Option.some.inj hE
  exact y_ret dX6_fullShelves_32 (Nat.le_refl _) (Nat.le_refl _) ⟨_, rfl, rfl⟩
def f_X6_status (n : Nat) (h : xH) (a0 : Nat) (p1 : Int32) : Option (Int32) :=
  if p1 = (0 : Int32) then
    (x_gR h a0 6 0).bind fun a1 =>
    (x_gI h a1 0 4).bind fun x2 =>
    some x2
  else
  if p1 = (1 : Int32) then
    (x_gR h a0 6 0).bind fun a4 =>
    (x_gI h a4 0 5).bind fun x5 =>
    (f_J6_bitCount_0f7a4 x5).bind fun q6 =>
    some q6
  else
  if p1 = (2 : Int32) then
    (x_gR h a0 6 0).bind fun a8 =>
    (x_gI h a8 0 6).bind fun x9 =>
    some x9
  else
  if p1 = (3 : Int32) then
    (x_gR h a0 6 0).bind fun a11 =>
    (x_gI h a11 0 7).bind fun x12 =>
    some x12
  else
  if p1 = (4 : Int32) then
    (x_gR h a0 6 0).bind fun a14 =>
    (x_gI h a14 0 8).bind fun x15 =>
    some x15
  else
  if p1 = (5 : Int32) then
    (x_gR h a0 6 0).bind fun a17 =>
    (x_gI h a17 0 10).bind fun x18 =>
    some x18
  else
  if p1 = (6 : Int32) then
    (x_gR h a0 6 5).bind fun a20 =>
    (x_gI h a20 5 1).bind fun x21 =>
    some x21
  else
  if p1 = (7 : Int32) then
    (x_gR h a0 6 0).bind fun a23 =>
    (x_gI h a23 0 9).bind fun x24 =>
    some x24
  else
  if p1 = (8 : Int32) then
    (x_ob h a0 6).bind fun u26 =>
    (f_X6_fullShelves n h a0).bind fun q27 =>
    some q27
  else
  if p1 < (12 : Int32) then
    some (-1 : Int32)
  else
    if (17 : Int32) ≤ p1 then
      some (-1 : Int32)
    else
      (x_gR h a0 6 8).bind fun a29 =>
      (x_ld h a29 (p1 - (12 : Int32))).bind fun x30 =>
      some x30
set_option maxRecDepth 100000 in
set_option maxHeartbeats 4000000 in
theorem c_X6_status {n : Nat} {h : xH} {a0 : Nat} {p1 : Int32} {r9 : Int32} (hE : f_X6_status n h a0 p1 = some r9) : Ctr M_X6_status [.ref a0, .int p1] h (some (.int r9)) h 0 0 := by
  refine ctr_of (by decide) (fun _ _ => Nat.le_of_ble_eq_true rfl) (fun S => ?_)
  show Y S M_X6_status h (some (.int r9)) h 0 0 0 [(0, .ref a0), (1, .int p1)] [] h 0 0
  unfold f_X6_status at hE
  refine y_iload_n dX6_status_0 1 rfl ?_
  by_cases hc3 : p1 = (0 : Int32)
  · rw [if_pos hc3] at hE
    have hk := hc3
    refine y_tabIn (tgt := 52) dX6_status_1 (by rw [hk]; decide) (by rw [hk]; decide) (by rw [hk]; rfl) (by decide) ?_
    refine y_aload_n dX6_status_52 0 rfl ?_
    obtain ⟨a1, ea1, hE⟩ := Option.bind_eq_some_iff.mp hE
    refine y_getR fl_X6_10 ea1 dX6_status_53 ?_
    obtain ⟨x2, ex2, hE⟩ := Option.bind_eq_some_iff.mp hE
    refine y_getI fl_X6_132 ex2 dX6_status_56 ?_
    obtain rfl := Option.some.inj hE
    exact y_ret dX6_status_59 (Nat.le_refl _) (Nat.le_refl _) ⟨_, rfl, rfl⟩
  · rw [if_neg hc3] at hE
    by_cases hc7 : p1 = (1 : Int32)
    · rw [if_pos hc7] at hE
      have hk := hc7
      refine y_tabIn (tgt := 60) dX6_status_1 (by rw [hk]; decide) (by rw [hk]; decide) (by rw [hk]; rfl) (by decide) ?_
      refine y_aload_n dX6_status_60 0 rfl ?_
      obtain ⟨a4, ea4, hE⟩ := Option.bind_eq_some_iff.mp hE
      refine y_getR fl_X6_10 ea4 dX6_status_61 ?_
      obtain ⟨x5, ex5, hE⟩ := Option.bind_eq_some_iff.mp hE
      refine y_getI fl_X6_154 ex5 dX6_status_64 ?_
      obtain ⟨q6, eq6, hE⟩ := Option.bind_eq_some_iff.mp hE
      refine y_cSi0 (st := []) (as := [.int x5]) (c_J6_bitCount_0f7a4 eq6) lk_X6_271 st_J6_bitCount_0f7a4 ⟨Nat.le_of_ble_eq_true rfl, Nat.le_of_ble_eq_true rfl⟩ (Nat.le_of_ble_eq_true rfl) dX6_status_67 ⟨Nat.le_refl _, Nat.le_refl _⟩ rfl ?_
      obtain rfl := Option.some.inj hE
      exact y_ret dX6_status_70 (Nat.le_refl _) (Nat.le_refl _) ⟨_, rfl, rfl⟩
    · rw [if_neg hc7] at hE
      by_cases hc10 : p1 = (2 : Int32)
      · rw [if_pos hc10] at hE
        have hk := hc10
        refine y_tabIn (tgt := 71) dX6_status_1 (by rw [hk]; decide) (by rw [hk]; decide) (by rw [hk]; rfl) (by decide) ?_
        refine y_aload_n dX6_status_71 0 rfl ?_
        obtain ⟨a8, ea8, hE⟩ := Option.bind_eq_some_iff.mp hE
        refine y_getR fl_X6_10 ea8 dX6_status_72 ?_
        obtain ⟨x9, ex9, hE⟩ := Option.bind_eq_some_iff.mp hE
        refine y_getI fl_X6_139 ex9 dX6_status_75 ?_
        obtain rfl := Option.some.inj hE
        exact y_ret dX6_status_78 (Nat.le_refl _) (Nat.le_refl _) ⟨_, rfl, rfl⟩
      · rw [if_neg hc10] at hE
        by_cases hc13 : p1 = (3 : Int32)
        · rw [if_pos hc13] at hE
          have hk := hc13
          refine y_tabIn (tgt := 79) dX6_status_1 (by rw [hk]; decide) (by rw [hk]; decide) (by rw [hk]; rfl) (by decide) ?_
          refine y_aload_n dX6_status_79 0 rfl ?_
          obtain ⟨a11, ea11, hE⟩ := Option.bind_eq_some_iff.mp hE
          refine y_getR fl_X6_10 ea11 dX6_status_80 ?_
          obtain ⟨x12, ex12, hE⟩ := Option.bind_eq_some_iff.mp hE
          refine y_getI fl_X6_145 ex12 dX6_status_83 ?_
          obtain rfl := Option.some.inj hE
          exact y_ret dX6_status_86 (Nat.le_refl _) (Nat.le_refl _) ⟨_, rfl, rfl⟩
        · rw [if_neg hc13] at hE
          by_cases hc16 : p1 = (4 : Int32)
          · rw [if_pos hc16] at hE
            have hk := hc16
            refine y_tabIn (tgt := 87) dX6_status_1 (by rw [hk]; decide) (by rw [hk]; decide) (by rw [hk]; rfl) (by decide) ?_
            refine y_aload_n dX6_status_87 0 rfl ?_
            obtain ⟨a14, ea14, hE⟩ := Option.bind_eq_some_iff.mp hE
            refine y_getR fl_X6_10 ea14 dX6_status_88 ?_
            obtain ⟨x15, ex15, hE⟩ := Option.bind_eq_some_iff.mp hE
            refine y_getI fl_X6_148 ex15 dX6_status_91 ?_
            obtain rfl := Option.some.inj hE
            exact y_ret dX6_status_94 (Nat.le_refl _) (Nat.le_refl _) ⟨_, rfl, rfl⟩
          · rw [if_neg hc16] at hE
            by_cases hc19 : p1 = (5 : Int32)
            · rw [if_pos hc19] at hE
              have hk := hc19
              refine y_tabIn (tgt := 95) dX6_status_1 (by rw [hk]; decide) (by rw [hk]; decide) (by rw [hk]; rfl) (by decide) ?_
              refine y_aload_n dX6_status_95 0 rfl ?_
              obtain ⟨a17, ea17, hE⟩ := Option.bind_eq_some_iff.mp hE
              refine y_getR fl_X6_10 ea17 dX6_status_96 ?_
              obtain ⟨x18, ex18, hE⟩ := Option.bind_eq_some_iff.mp hE
              refine y_getI fl_X6_255 ex18 dX6_status_99 ?_
              obtain rfl := Option.some.inj hE
              exact y_ret dX6_status_102 (Nat.le_refl _) (Nat.le_refl _) ⟨_, rfl, rfl⟩
            · rw [if_neg hc19] at hE
              by_cases hc22 : p1 = (6 : Int32)
              · rw [if_pos hc22] at hE
                have hk := hc22
                refine y_tabIn (tgt := 103) dX6_status_1 (by rw [hk]; decide) (by rw [hk]; decide) (by rw [hk]; rfl) (by decide) ?_
                refine y_aload_n dX6_status_103 0 rfl ?_
                obtain ⟨a20, ea20, hE⟩ := Option.bind_eq_some_iff.mp hE
                refine y_getR fl_X6_31 ea20 dX6_status_104 ?_
                obtain ⟨x21, ex21, hE⟩ := Option.bind_eq_some_iff.mp hE
                refine y_getI fl_X6_163 ex21 dX6_status_107 ?_
                obtain rfl := Option.some.inj hE
                exact y_ret dX6_status_110 (Nat.le_refl _) (Nat.le_refl _) ⟨_, rfl, rfl⟩
              · rw [if_neg hc22] at hE
                by_cases hc25 : p1 = (7 : Int32)
                · rw [if_pos hc25] at hE
                  have hk := hc25
                  refine y_tabIn (tgt := 111) dX6_status_1 (by rw [hk]; decide) (by rw [hk]; decide) (by rw [hk]; rfl) (by decide) ?_
                  refine y_aload_n dX6_status_111 0 rfl ?_
                  obtain ⟨a23, ea23, hE⟩ := Option.bind_eq_some_iff.mp hE
                  refine y_getR fl_X6_10 ea23 dX6_status_112 ?_
                  obtain ⟨x24, ex24, hE⟩ := Option.bind_eq_some_iff.mp hE
                  refine y_getI fl_X6_264 ex24 dX6_status_115 ?_
                  obtain rfl := Option.some.inj hE
                  exact y_ret dX6_status_118 (Nat.le_refl _) (Nat.le_refl _) ⟨_, rfl, rfl⟩
                · rw [if_neg hc25] at hE
                  by_cases hc28 : p1 = (8 : Int32)
                  · rw [if_pos hc28] at hE
                    have hk := hc28
                    refine y_tabIn (tgt := 119) dX6_status_1 (by rw [hk]; decide) (by rw [hk]; decide) (by rw [hk]; rfl) (by decide) ?_
                    refine y_aload_n dX6_status_119 0 rfl ?_
                    obtain ⟨u26, eu26, hE⟩ := Option.bind_eq_some_iff.mp hE
                    obtain ⟨q27, eq27, hE⟩ := Option.bind_eq_some_iff.mp hE
                    refine y_cVi0 (st := []) (as := []) (c_X6_fullShelves eq27) lk_X6_276 in_X6_fullShelves se_X6_fullShelves rfl eu26 ⟨Nat.le_of_ble_eq_true rfl, Nat.le_of_ble_eq_true rfl⟩ (Nat.le_of_ble_eq_true rfl) dX6_status_120 ⟨Nat.le_refl _, Nat.le_refl _⟩ rfl ?_
                    obtain rfl := Option.some.inj hE
                    exact y_ret dX6_status_123 (Nat.le_refl _) (Nat.le_refl _) ⟨_, rfl, rfl⟩
                  · rw [if_neg hc28] at hE
                    have hO : (p1).toInt < 0 ∨ 8 < (p1).toInt := by
                      refine x_tabo (by decide) (by decide) (fun j g1 g2 => ?_)
                      rcases (show j = 0 ∨ j = 1 ∨ j = 2 ∨ j = 3 ∨ j = 4 ∨ j = 5 ∨ j = 6 ∨ j = 7 ∨ j = 8 by omega) with rfl | rfl | rfl | rfl | rfl | rfl | rfl | rfl | rfl
                      · exact hc3
                      · exact hc7
                      · exact hc10
                      · exact hc13
                      · exact hc16
                      · exact hc19
                      · exact hc22
                      · exact hc25
                      · exact hc28
                    refine y_tabOut (tgt := 124) dX6_status_1 hO (by decide) ?_
                    refine y_iload_n dX6_status_124 1 rfl ?_
                    refine y_bipush (v := (12 : Int32)) dX6_status_125 (by decide) ?_
                    refine y_icmp_lt (tgt := 148) dX6_status_127 (by decide) (fun hc32 => ?_) (fun hc32 => ?_)
                    · rw [if_pos hc32] at hE
                      refine y_iconst (v := (-1 : Int32)) dX6_status_148 (by decide) ?_
                      obtain rfl := Option.some.inj hE
                      exact y_ret dX6_status_149 (Nat.le_refl _) (Nat.le_refl _) ⟨_, rfl, rfl⟩
                    · rw [if_neg hc32] at hE
                      refine y_iload_n dX6_status_130 1 rfl ?_
                      refine y_bipush (v := (17 : Int32)) dX6_status_131 (by decide) ?_
                      refine y_icmp_ge (tgt := 148) dX6_status_133 (by decide) (fun hc31 => ?_) (fun hc31 => ?_)
                      · rw [if_pos hc31] at hE
                        refine y_iconst (v := (-1 : Int32)) dX6_status_148 (by decide) ?_
                        obtain rfl := Option.some.inj hE
                        exact y_ret dX6_status_149 (Nat.le_refl _) (Nat.le_refl _) ⟨_, rfl, rfl⟩
                      · rw [if_neg hc31] at hE
                        refine y_aload_n dX6_status_136 0 rfl ?_
                        obtain ⟨a29, ea29, hE⟩ := Option.bind_eq_some_iff.mp hE
                        refine y_getR fl_X6_49 ea29 dX6_status_137 ?_
                        refine y_iload_n dX6_status_140 1 rfl ?_
                        refine y_bipush (v := (12 : Int32)) dX6_status_141 (by decide) ?_
                        refine y_isub dX6_status_143 ?_
                        obtain ⟨x30, ex30, hE⟩ := Option.bind_eq_some_iff.mp hE
                        refine y_iald ex30 dX6_status_144 ?_
                        refine y_goto (tgt := 149) dX6_status_145 (by decide) ?_
                        obtain rfl := Option.some.inj hE
                        exact y_ret dX6_status_149 (Nat.le_refl _) (Nat.le_refl _) ⟨_, rfl, rfl⟩
def f_X7_init (h : xH) (a0 : Nat) : Option ((xH) × Nat × Nat) :=
  x_add 1 8 <|
  (x_put (h ++ [.inl (.int, 8, .inl (fun _ => 0))]) a0 7 0 (.ref (h.length + 16))).bind fun h3 =>
  x_add 1 8 <|
  (x_put (h3 ++ [.inl (.int, 8, .inl (fun _ => 0))]) a0 7 1 (.ref (h3.length + 16))).bind fun h6 =>
  x_add 1 8 <|
  (x_put (h6 ++ [.inl (.int, 8, .inl (fun _ => 0))]) a0 7 2 (.ref (h6.length + 16))).bind fun h9 =>
  x_add (1 + 8) (8 + 8 * 40) <|
  (x_put (x_mnL h9 8 40) a0 7 3 (.ref (h9.length + 16))).bind fun h12 =>
  x_add 1 40 <|
  (x_put (h12 ++ [.inl (.long, 40, .inr (.inl (fun _ => 0)))]) a0 7 4 (.ref (h12.length + 16))).bind fun h15 =>
  x_add 1 8 <|
  (x_put (h15 ++ [.inl (.int, 8, .inl (fun _ => 0))]) a0 7 5 (.ref (h15.length + 16))).bind fun h18 =>
  x_add 1 250 <|
  (x_put (h18 ++ [.inl (.int, 250, .inl (fun _ => 0))]) a0 7 6 (.ref (h18.length + 16))).bind fun h21 =>
  x_add 1 8 <|
  (x_put (h21 ++ [.inl (.int, 8, .inl (fun _ => 0))]) a0 7 8 (.ref (h21.length + 16))).bind fun h24 =>
  x_add (1 + 14) (14 + 14 * 3) <|
  (x_put (x_mnI h24 14 3) a0 7 10 (.ref (h24.length + 16))).bind fun h27 =>
  x_add 1 4 <|
  (x_put (h27 ++ [.inl (.int, 4, .inl (fun _ => 0))]) a0 7 13 (.ref (h27.length + 16))).bind fun h30 =>
  (x_put h30 a0 7 14 (.int (2 : Int32))).bind fun h31 =>
  (x_put h31 a0 7 17 (.int (1 : Int32))).bind fun h32 =>
  x_add 1 3 <|
  (x_put (h32 ++ [.inl (.int, 3, .inl (fun _ => 0))]) a0 7 25 (.ref (h32.length + 16))).bind fun h35 =>
  x_add 1 4 <|
  (x_put (h35 ++ [.inl (.int, 4, .inl (fun _ => 0))]) a0 7 29 (.ref (h35.length + 16))).bind fun h38 =>
  x_add 1 512 <|
  (x_put (h38 ++ [.inl (.int, 512, .inl (fun _ => 0))]) a0 7 31 (.ref (h38.length + 16))).bind fun h41 =>
  some (h41, 0, 0)
set_option maxRecDepth 100000 in
set_option maxHeartbeats 4000000 in
theorem c_X7_init {h : xH} {a0 : Nat} {hz : xH} {c9 s9 : Nat} (hE : f_X7_init h a0 = some (hz, c9, s9)) : Ctr M_X7_init [.ref a0] h none hz c9 s9 := by
  refine ctr_of (by decide) (fun _ _ => Nat.le_of_ble_eq_true rfl) (fun S => ?_)
  show Y S M_X7_init h none hz c9 s9 0 [(0, .ref a0)] [] h 0 0
  unfold f_X7_init at hE
  refine y_aload_n dX7_init_0 0 rfl ?_
  refine y_objInit (x_wt (tb 921 (by decide +kernel)) rfl) (x_wt (tb 22 (by decide +kernel)) rfl) (x_wt (tb 23 (by decide +kernel)) rfl) (by decide) (Nat.le_of_ble_eq_true rfl) dX7_init_1 ?_
  refine y_aload_n dX7_init_4 0 rfl ?_
  refine y_bipush (v := (8 : Int32)) dX7_init_5 (by decide) ?_
  obtain ⟨c1, s2, hN, ecc1, ess2⟩ := x_add.spec hE
  clear hE; have hE := hN; clear hN
  refine y_newI (N := 8) (x_wt (tb 92 (by decide +kernel)) rfl) (by decide) (by decide) (by decide) ⟨by omega, by omega⟩ dX7_init_7 ?_
  obtain ⟨h3, eh3, hE⟩ := Option.bind_eq_some_iff.mp hE
  refine y_putR fp_X7_7 (fun q => by first | rfl | cases q) (fun _ => rfl) (fun _ => rfl) eh3 dX7_init_9 ?_
  refine y_aload_n dX7_init_12 0 rfl ?_
  refine y_bipush (v := (8 : Int32)) dX7_init_13 (by decide) ?_
  obtain ⟨c4, s5, hN, ecc4, ess5⟩ := x_add.spec hE
  clear hE; have hE := hN; clear hN
  refine y_newI (N := 8) (x_wt (tb 92 (by decide +kernel)) rfl) (by decide) (by decide) (by decide) ⟨by omega, by omega⟩ dX7_init_15 ?_
  obtain ⟨h6, eh6, hE⟩ := Option.bind_eq_some_iff.mp hE
  refine y_putR fp_X7_13 (fun q => by first | rfl | cases q) (fun _ => rfl) (fun _ => rfl) eh6 dX7_init_17 ?_
  refine y_aload_n dX7_init_20 0 rfl ?_
  refine y_bipush (v := (8 : Int32)) dX7_init_21 (by decide) ?_
  obtain ⟨c7, s8, hN, ecc7, ess8⟩ := x_add.spec hE
  clear hE; have hE := hN; clear hN
  refine y_newI (N := 8) (x_wt (tb 92 (by decide +kernel)) rfl) (by decide) (by decide) (by decide) ⟨by omega, by omega⟩ dX7_init_23 ?_
  obtain ⟨h9, eh9, hE⟩ := Option.bind_eq_some_iff.mp hE
  refine y_putR fp_X7_16 (fun q => by first | rfl | cases q) (fun _ => rfl) (fun _ => rfl) eh9 dX7_init_25 ?_
  refine y_aload_n dX7_init_28 0 rfl ?_
  refine y_bipush (v := (8 : Int32)) dX7_init_29 (by decide) ?_
  refine y_bipush (v := (40 : Int32)) dX7_init_31 (by decide) ?_
  obtain ⟨c10, s11, hN, ecc10, ess11⟩ := x_add.spec hE
  clear hE; have hE := hN; clear hN
  refine y_mnewL (N := 8) (K := 40) (x_wt (tb 922 (by decide +kernel)) rfl) (by decide) (by decide) (by decide) (by decide) (by decide) (by decide) ⟨by omega, by omega⟩ dX7_init_33 ?_
  obtain ⟨h12, eh12, hE⟩ := Option.bind_eq_some_iff.mp hE
  refine y_putR fp_X7_21 (fun q => by first | rfl | cases q) (fun _ => rfl) (fun _ => rfl) eh12 dX7_init_37 ?_
  refine y_aload_n dX7_init_40 0 rfl ?_
  refine y_bipush (v := (40 : Int32)) dX7_init_41 (by decide) ?_
  obtain ⟨c13, s14, hN, ecc13, ess14⟩ := x_add.spec hE
  clear hE; have hE := hN; clear hN
  refine y_newL (N := 40) (x_wt (tb 254 (by decide +kernel)) rfl) (by decide) (by decide) (by decide) ⟨by omega, by omega⟩ dX7_init_43 ?_
  obtain ⟨h15, eh15, hE⟩ := Option.bind_eq_some_iff.mp hE
  refine y_putR fp_X7_24 (fun q => by first | rfl | cases q) (fun _ => rfl) (fun _ => rfl) eh15 dX7_init_45 ?_
  refine y_aload_n dX7_init_48 0 rfl ?_
  refine y_bipush (v := (8 : Int32)) dX7_init_49 (by decide) ?_
  obtain ⟨c16, s17, hN, ecc16, ess17⟩ := x_add.spec hE
  clear hE; have hE := hN; clear hN
  refine y_newI (N := 8) (x_wt (tb 92 (by decide +kernel)) rfl) (by decide) (by decide) (by decide) ⟨by omega, by omega⟩ dX7_init_51 ?_
  obtain ⟨h18, eh18, hE⟩ := Option.bind_eq_some_iff.mp hE
  refine y_putR fp_X7_28 (fun q => by first | rfl | cases q) (fun _ => rfl) (fun _ => rfl) eh18 dX7_init_53 ?_
  refine y_aload_n dX7_init_56 0 rfl ?_
  refine y_sipush (v := (250 : Int32)) dX7_init_57 (by decide) ?_
  obtain ⟨c19, s20, hN, ecc19, ess20⟩ := x_add.spec hE
  clear hE; have hE := hN; clear hN
  refine y_newI (N := 250) (x_wt (tb 92 (by decide +kernel)) rfl) (by decide) (by decide) (by decide) ⟨by omega, by omega⟩ dX7_init_60 ?_
  obtain ⟨h21, eh21, hE⟩ := Option.bind_eq_some_iff.mp hE
  refine y_putR fp_X7_31 (fun q => by first | rfl | cases q) (fun _ => rfl) (fun _ => rfl) eh21 dX7_init_62 ?_
  refine y_aload_n dX7_init_65 0 rfl ?_
  refine y_bipush (v := (8 : Int32)) dX7_init_66 (by decide) ?_
  obtain ⟨c22, s23, hN, ecc22, ess23⟩ := x_add.spec hE
  clear hE; have hE := hN; clear hN
  refine y_newI (N := 8) (x_wt (tb 92 (by decide +kernel)) rfl) (by decide) (by decide) (by decide) ⟨by omega, by omega⟩ dX7_init_68 ?_
  obtain ⟨h24, eh24, hE⟩ := Option.bind_eq_some_iff.mp hE
  refine y_putR fp_X7_34 (fun q => by first | rfl | cases q) (fun _ => rfl) (fun _ => rfl) eh24 dX7_init_70 ?_
  refine y_aload_n dX7_init_73 0 rfl ?_
  refine y_bipush (v := (14 : Int32)) dX7_init_74 (by decide) ?_
  refine y_iconst (v := (3 : Int32)) dX7_init_76 (by decide) ?_
  obtain ⟨c25, s26, hN, ecc25, ess26⟩ := x_add.spec hE
  clear hE; have hE := hN; clear hN
  refine y_mnewI (N := 14) (K := 3) (x_wt (tb 924 (by decide +kernel)) rfl) (by decide) (by decide) (by decide) (by decide) (by decide) (by decide) ⟨by omega, by omega⟩ dX7_init_77 ?_
  obtain ⟨h27, eh27, hE⟩ := Option.bind_eq_some_iff.mp hE
  refine y_putR fp_X7_39 (fun q => by first | rfl | cases q) (fun _ => rfl) (fun _ => rfl) eh27 dX7_init_81 ?_
  refine y_aload_n dX7_init_84 0 rfl ?_
  refine y_iconst (v := (4 : Int32)) dX7_init_85 (by decide) ?_
  obtain ⟨c28, s29, hN, ecc28, ess29⟩ := x_add.spec hE
  clear hE; have hE := hN; clear hN
  refine y_newI (N := 4) (x_wt (tb 92 (by decide +kernel)) rfl) (by decide) (by decide) (by decide) ⟨by omega, by omega⟩ dX7_init_86 ?_
  obtain ⟨h30, eh30, hE⟩ := Option.bind_eq_some_iff.mp hE
  refine y_putR fp_X7_42 (fun q => by first | rfl | cases q) (fun _ => rfl) (fun _ => rfl) eh30 dX7_init_88 ?_
  refine y_aload_n dX7_init_91 0 rfl ?_
  refine y_iconst (v := (2 : Int32)) dX7_init_92 (by decide) ?_
  obtain ⟨h31, eh31, hE⟩ := Option.bind_eq_some_iff.mp hE
  refine y_putI fp_X7_45 eh31 dX7_init_93 ?_
  refine y_aload_n dX7_init_96 0 rfl ?_
  refine y_iconst (v := (1 : Int32)) dX7_init_97 (by decide) ?_
  obtain ⟨h32, eh32, hE⟩ := Option.bind_eq_some_iff.mp hE
  refine y_putI fp_X7_49 eh32 dX7_init_98 ?_
  refine y_aload_n dX7_init_101 0 rfl ?_
  refine y_iconst (v := (3 : Int32)) dX7_init_102 (by decide) ?_
  obtain ⟨c33, s34, hN, ecc33, ess34⟩ := x_add.spec hE
  clear hE; have hE := hN; clear hN
  refine y_newI (N := 3) (x_wt (tb 92 (by decide +kernel)) rfl) (by decide) (by decide) (by decide) ⟨by omega, by omega⟩ dX7_init_103 ?_
  obtain ⟨h35, eh35, hE⟩ := Option.bind_eq_some_iff.mp hE
  refine y_putR fp_X7_52 (fun q => by first | rfl | cases q) (fun _ => rfl) (fun _ => rfl) eh35 dX7_init_105 ?_
  refine y_aload_n dX7_init_108 0 rfl ?_
  refine y_iconst (v := (4 : Int32)) dX7_init_109 (by decide) ?_
  obtain ⟨c36, s37, hN, ecc36, ess37⟩ := x_add.spec hE
  clear hE; have hE := hN; clear hN
  refine y_newI (N := 4) (x_wt (tb 92 (by decide +kernel)) rfl) (by decide) (by decide) (by decide) ⟨by omega, by omega⟩ dX7_init_110 ?_
  obtain ⟨h38, eh38, hE⟩ := Option.bind_eq_some_iff.mp hE
  refine y_putR fp_X7_55 (fun q => by first | rfl | cases q) (fun _ => rfl) (fun _ => rfl) eh38 dX7_init_112 ?_
  refine y_aload_n dX7_init_115 0 rfl ?_
  refine y_sipush (v := (512 : Int32)) dX7_init_116 (by decide) ?_
  obtain ⟨c39, s40, hN, ecc39, ess40⟩ := x_add.spec hE
  clear hE; have hE := hN; clear hN
  refine y_newI (N := 512) (x_wt (tb 92 (by decide +kernel)) rfl) (by decide) (by decide) (by decide) ⟨by omega, by omega⟩ dX7_init_119 ?_
  obtain ⟨h41, eh41, hE⟩ := Option.bind_eq_some_iff.mp hE
  refine y_putR fp_X7_58 (fun q => by first | rfl | cases q) (fun _ => rfl) (fun _ => rfl) eh41 dX7_init_121 ?_
  obtain ⟨rfl, rfl, rfl⟩ := x_inj3 hE
  exact y_ret dX7_init_124 (by omega) (by omega) rfl
