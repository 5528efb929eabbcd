theorem dX7_lasts_0 : decode cX7_lasts 0 = .ok (.aload_n 0, 1) := by decide +kernel
theorem dX7_lasts_1 : decode cX7_lasts 1 = .ok (.aload_n 0, 1) := by decide +kernel
theorem dX7_lasts_2 : decode cX7_lasts 2 = .ok (.getfield 45, 3) := by decide +kernel
theorem dX7_lasts_5 : decode cX7_lasts 5 = .ok (.iconst 0, 1) := by decide +kernel
theorem dX7_lasts_6 : decode cX7_lasts 6 = .ok (.invokevirtual 330, 3) := by decide +kernel
theorem dX7_lasts_9 : decode cX7_lasts 9 = .ok (.ireturn, 1) := by decide +kernel
theorem dX7_worthOf_0 : decode cX7_worthOf 0 = .ok (.aload_n 0, 1) := by decide +kernel
theorem dX7_worthOf_1 : decode cX7_worthOf 1 = .ok (.aload_n 0, 1) := by decide +kernel
theorem dX7_worthOf_2 : decode cX7_worthOf 2 = .ok (.getfield 45, 3) := by decide +kernel
theorem dX7_worthOf_5 : decode cX7_worthOf 5 = .ok (.iconst 0, 1) := by decide +kernel
theorem dX7_worthOf_6 : decode cX7_worthOf 6 = .ok (.invokevirtual 330, 3) := by decide +kernel
theorem dX7_worthOf_9 : decode cX7_worthOf 9 = .ok (.istore_n 2, 1) := by decide +kernel
theorem dX7_worthOf_10 : decode cX7_worthOf 10 = .ok (.aload_n 0, 1) := by decide +kernel
theorem dX7_worthOf_11 : decode cX7_worthOf 11 = .ok (.dup, 1) := by decide +kernel
theorem dX7_worthOf_12 : decode cX7_worthOf 12 = .ok (.getfield 108, 3) := by decide +kernel
theorem dX7_worthOf_15 : decode cX7_worthOf 15 = .ok (.iconst 1, 1) := by decide +kernel
theorem dX7_worthOf_16 : decode cX7_worthOf 16 = .ok (.iload_n 1, 1) := by decide +kernel
theorem dX7_worthOf_17 : decode cX7_worthOf 17 = .ok (.ishl, 1) := by decide +kernel
theorem dX7_worthOf_18 : decode cX7_worthOf 18 = .ok (.iconst (-1), 1) := by decide +kernel
theorem dX7_worthOf_19 : decode cX7_worthOf 19 = .ok (.ixor, 1) := by decide +kernel
theorem dX7_worthOf_20 : decode cX7_worthOf 20 = .ok (.iand, 1) := by decide +kernel
theorem dX7_worthOf_21 : decode cX7_worthOf 21 = .ok (.putfield 108, 3) := by decide +kernel
theorem dX7_worthOf_24 : decode cX7_worthOf 24 = .ok (.aload_n 0, 1) := by decide +kernel
theorem dX7_worthOf_25 : decode cX7_worthOf 25 = .ok (.aload_n 0, 1) := by decide +kernel
theorem dX7_worthOf_26 : decode cX7_worthOf 26 = .ok (.getfield 45, 3) := by decide +kernel
theorem dX7_worthOf_29 : decode cX7_worthOf 29 = .ok (.iconst 0, 1) := by decide +kernel
theorem dX7_worthOf_30 : decode cX7_worthOf 30 = .ok (.invokevirtual 330, 3) := by decide +kernel
theorem dX7_worthOf_33 : decode cX7_worthOf 33 = .ok (.istore_n 3, 1) := by decide +kernel
theorem dX7_worthOf_34 : decode cX7_worthOf 34 = .ok (.aload_n 0, 1) := by decide +kernel
theorem dX7_worthOf_35 : decode cX7_worthOf 35 = .ok (.dup, 1) := by decide +kernel
theorem dX7_worthOf_36 : decode cX7_worthOf 36 = .ok (.getfield 108, 3) := by decide +kernel
theorem dX7_worthOf_39 : decode cX7_worthOf 39 = .ok (.iconst 1, 1) := by decide +kernel
theorem dX7_worthOf_40 : decode cX7_worthOf 40 = .ok (.iload_n 1, 1) := by decide +kernel
theorem dX7_worthOf_41 : decode cX7_worthOf 41 = .ok (.ishl, 1) := by decide +kernel
theorem dX7_worthOf_42 : decode cX7_worthOf 42 = .ok (.ior, 1) := by decide +kernel
theorem dX7_worthOf_43 : decode cX7_worthOf 43 = .ok (.putfield 108, 3) := by decide +kernel
theorem dX7_worthOf_46 : decode cX7_worthOf 46 = .ok (.iload_n 2, 1) := by decide +kernel
theorem dX7_worthOf_47 : decode cX7_worthOf 47 = .ok (.iload_n 3, 1) := by decide +kernel
theorem dX7_worthOf_48 : decode cX7_worthOf 48 = .ok (.isub, 1) := by decide +kernel
theorem dX7_worthOf_49 : decode cX7_worthOf 49 = .ok (.ireturn, 1) := by decide +kernel
theorem dX7_worth_0 : decode cX7_worth 0 = .ok (.aload_n 0, 1) := by decide +kernel
theorem dX7_worth_1 : decode cX7_worth 1 = .ok (.iload_n 1, 1) := by decide +kernel
theorem dX7_worth_2 : decode cX7_worth 2 = .ok (.invokevirtual 88, 3) := by decide +kernel
theorem dX7_worth_5 : decode cX7_worth 5 = .ok (.ifCond .ne 14, 3) := by decide +kernel
theorem dX7_worth_8 : decode cX7_worth 8 = .ok (.aload_n 0, 1) := by decide +kernel
theorem dX7_worth_9 : decode cX7_worth 9 = .ok (.bipush (-2), 2) := by decide +kernel
theorem dX7_worth_11 : decode cX7_worth 11 = .ok (.invokevirtual 77, 3) := by decide +kernel
theorem dX7_worth_14 : decode cX7_worth 14 = .ok (.ldc_w 333, 3) := by decide +kernel
theorem dX7_worth_17 : decode cX7_worth 17 = .ok (.isub, 1) := by decide +kernel
theorem dX7_worth_18 : decode cX7_worth 18 = .ok (.ireturn, 1) := by decide +kernel
theorem dX7_worth_19 : decode cX7_worth 19 = .ok (.aload_n 0, 1) := by decide +kernel
theorem dX7_worth_20 : decode cX7_worth 20 = .ok (.getfield 108, 3) := by decide +kernel
theorem dX7_worth_23 : decode cX7_worth 23 = .ok (.iload_n 1, 1) := by decide +kernel
theorem dX7_worth_24 : decode cX7_worth 24 = .ok (.invokestatic 116, 3) := by decide +kernel
theorem dX7_worth_27 : decode cX7_worth 27 = .ok (.ifCond .eq 11, 3) := by decide +kernel
theorem dX7_worth_30 : decode cX7_worth 30 = .ok (.aload_n 0, 1) := by decide +kernel
theorem dX7_worth_31 : decode cX7_worth 31 = .ok (.iload_n 1, 1) := by decide +kernel
theorem dX7_worth_32 : decode cX7_worth 32 = .ok (.invokevirtual 334, 3) := by decide +kernel
theorem dX7_worth_35 : decode cX7_worth 35 = .ok (.goto 13, 3) := by decide +kernel
theorem dX7_worth_38 : decode cX7_worth 38 = .ok (.aload_n 0, 1) := by decide +kernel
theorem dX7_worth_39 : decode cX7_worth 39 = .ok (.bipush (-5), 2) := by decide +kernel
theorem dX7_worth_41 : decode cX7_worth 41 = .ok (.invokevirtual 77, 3) := by decide +kernel
theorem dX7_worth_44 : decode cX7_worth 44 = .ok (.ldc_w 333, 3) := by decide +kernel
theorem dX7_worth_47 : decode cX7_worth 47 = .ok (.isub, 1) := by decide +kernel
theorem dX7_worth_48 : decode cX7_worth 48 = .ok (.ireturn, 1) := by decide +kernel
theorem dX7_spare_0 : decode cX7_spare 0 = .ok (.iconst (-1), 1) := by decide +kernel
theorem dX7_spare_1 : decode cX7_spare 1 = .ok (.istore_n 1, 1) := by decide +kernel
theorem dX7_spare_2 : decode cX7_spare 2 = .ok (.iconst 0, 1) := by decide +kernel
theorem dX7_spare_3 : decode cX7_spare 3 = .ok (.istore_n 2, 1) := by decide +kernel
theorem dX7_spare_4 : decode cX7_spare 4 = .ok (.iconst 0, 1) := by decide +kernel
theorem dX7_spare_5 : decode cX7_spare 5 = .ok (.istore_n 3, 1) := by decide +kernel
theorem dX7_spare_6 : decode cX7_spare 6 = .ok (.iload_n 3, 1) := by decide +kernel
theorem dX7_spare_7 : decode cX7_spare 7 = .ok (.aload_n 0, 1) := by decide +kernel
theorem dX7_spare_8 : decode cX7_spare 8 = .ok (.getfield 61, 3) := by decide +kernel
theorem dX7_spare_11 : decode cX7_spare 11 = .ok (.if_icmp .ge 43, 3) := by decide +kernel
theorem dX7_spare_14 : decode cX7_spare 14 = .ok (.aload_n 0, 1) := by decide +kernel
theorem dX7_spare_15 : decode cX7_spare 15 = .ok (.getfield 108, 3) := by decide +kernel
theorem dX7_spare_18 : decode cX7_spare 18 = .ok (.iload_n 3, 1) := by decide +kernel
theorem dX7_spare_19 : decode cX7_spare 19 = .ok (.invokestatic 116, 3) := by decide +kernel
theorem dX7_spare_22 : decode cX7_spare 22 = .ok (.ifCond .eq 26, 3) := by decide +kernel
theorem dX7_spare_25 : decode cX7_spare 25 = .ok (.aload_n 0, 1) := by decide +kernel
theorem dX7_spare_26 : decode cX7_spare 26 = .ok (.iload_n 3, 1) := by decide +kernel
theorem dX7_spare_27 : decode cX7_spare 27 = .ok (.invokevirtual 334, 3) := by decide +kernel
theorem dX7_spare_30 : decode cX7_spare 30 = .ok (.istore 4, 2) := by decide +kernel
theorem dX7_spare_32 : decode cX7_spare 32 = .ok (.iload_n 1, 1) := by decide +kernel
theorem dX7_spare_33 : decode cX7_spare 33 = .ok (.iconst (-1), 1) := by decide +kernel
theorem dX7_spare_34 : decode cX7_spare 34 = .ok (.if_icmp .eq 9, 3) := by decide +kernel
theorem dX7_spare_37 : decode cX7_spare 37 = .ok (.iload 4, 2) := by decide +kernel
theorem dX7_spare_39 : decode cX7_spare 39 = .ok (.iload_n 2, 1) := by decide +kernel
theorem dX7_spare_40 : decode cX7_spare 40 = .ok (.if_icmp .ge 8, 3) := by decide +kernel
theorem dX7_spare_43 : decode cX7_spare 43 = .ok (.iload_n 3, 1) := by decide +kernel
theorem dX7_spare_44 : decode cX7_spare 44 = .ok (.istore_n 1, 1) := by decide +kernel
theorem dX7_spare_45 : decode cX7_spare 45 = .ok (.iload 4, 2) := by decide +kernel
theorem dX7_spare_47 : decode cX7_spare 47 = .ok (.istore_n 2, 1) := by decide +kernel
theorem dX7_spare_48 : decode cX7_spare 48 = .ok (.iinc 3 1, 3) := by decide +kernel
theorem dX7_spare_51 : decode cX7_spare 51 = .ok (.goto (-45), 3) := by decide +kernel
theorem dX7_spare_54 : decode cX7_spare 54 = .ok (.iload_n 1, 1) := by decide +kernel
theorem dX7_spare_55 : decode cX7_spare 55 = .ok (.iconst (-1), 1) := by decide +kernel
theorem dX7_spare_56 : decode cX7_spare 56 = .ok (.if_icmp .ne 12, 3) := by decide +kernel
theorem dX7_spare_59 : decode cX7_spare 59 = .ok (.aload_n 0, 1) := by decide +kernel
theorem dX7_spare_60 : decode cX7_spare 60 = .ok (.bipush (-5), 2) := by decide +kernel
theorem dX7_spare_62 : decode cX7_spare 62 = .ok (.invokevirtual 77, 3) := by decide +kernel
theorem dX7_spare_65 : decode cX7_spare 65 = .ok (.goto 4, 3) := by decide +kernel
theorem dX7_spare_68 : decode cX7_spare 68 = .ok (.iload_n 1, 1) := by decide +kernel
theorem dX7_spare_69 : decode cX7_spare 69 = .ok (.ireturn, 1) := by decide +kernel
theorem dX7_endless_0 : decode cX7_endless 0 = .ok (.iconst 0, 1) := by decide +kernel
theorem dX7_endless_1 : decode cX7_endless 1 = .ok (.istore_n 1, 1) := by decide +kernel
theorem dX7_endless_2 : decode cX7_endless 2 = .ok (.iconst 1, 1) := by decide +kernel
theorem dX7_endless_3 : decode cX7_endless 3 = .ok (.istore_n 2, 1) := by decide +kernel
theorem dX7_endless_4 : decode cX7_endless 4 = .ok (.iload_n 2, 1) := by decide +kernel
theorem dX7_endless_5 : decode cX7_endless 5 = .ok (.iconst 4, 1) := by decide +kernel
theorem dX7_endless_6 : decode cX7_endless 6 = .ok (.if_icmp .gt 30, 3) := by decide +kernel
theorem dX7_endless_9 : decode cX7_endless 9 = .ok (.iload_n 1, 1) := by decide +kernel
theorem dX7_endless_10 : decode cX7_endless 10 = .ok (.aload_n 0, 1) := by decide +kernel
theorem dX7_endless_11 : decode cX7_endless 11 = .ok (.iload_n 2, 1) := by decide +kernel
theorem dX7_endless_12 : decode cX7_endless 12 = .ok (.iconst 0, 1) := by decide +kernel
theorem dX7_endless_13 : decode cX7_endless 13 = .ok (.invokevirtual 330, 3) := by decide +kernel
theorem dX7_endless_16 : decode cX7_endless 16 = .ok (.bipush 99, 2) := by decide +kernel
theorem dX7_endless_18 : decode cX7_endless 18 = .ok (.if_icmp .ne 9, 3) := by decide +kernel
theorem dX7_endless_21 : decode cX7_endless 21 = .ok (.iconst 1, 1) := by decide +kernel
theorem dX7_endless_22 : decode cX7_endless 22 = .ok (.iload_n 2, 1) := by decide +kernel
theorem dX7_endless_23 : decode cX7_endless 23 = .ok (.ishl, 1) := by decide +kernel
theorem dX7_endless_24 : decode cX7_endless 24 = .ok (.goto 4, 3) := by decide +kernel
theorem dX7_endless_27 : decode cX7_endless 27 = .ok (.iconst 0, 1) := by decide +kernel
theorem dX7_endless_28 : decode cX7_endless 28 = .ok (.ior, 1) := by decide +kernel
theorem dX7_endless_29 : decode cX7_endless 29 = .ok (.istore_n 1, 1) := by decide +kernel
theorem dX7_endless_30 : decode cX7_endless 30 = .ok (.iinc 2 1, 3) := by decide +kernel
theorem dX7_endless_33 : decode cX7_endless 33 = .ok (.goto (-29), 3) := by decide +kernel
theorem dX7_endless_36 : decode cX7_endless 36 = .ok (.iload_n 1, 1) := by decide +kernel
theorem dX7_endless_37 : decode cX7_endless 37 = .ok (.ireturn, 1) := by decide +kernel
theorem dX7_boxes_0 : decode cX7_boxes 0 = .ok (.iload_n 1, 1) := by decide +kernel
theorem dX7_boxes_1 : decode cX7_boxes 1 = .ok (.i2l, 1) := by decide +kernel
theorem dX7_boxes_2 : decode cX7_boxes 2 = .ok (.lconst 1, 1) := by decide +kernel
theorem dX7_boxes_3 : decode cX7_boxes 3 = .ok (.ldc2_w 337, 3) := by decide +kernel
theorem dX7_boxes_6 : decode cX7_boxes 6 = .ok (.invokestatic 64, 3) := by decide +kernel
theorem dX7_boxes_9 : decode cX7_boxes 9 = .ok (.ifCond .ne 10, 3) := by decide +kernel
theorem dX7_boxes_12 : decode cX7_boxes 12 = .ok (.aload_n 0, 1) := by decide +kernel
theorem dX7_boxes_13 : decode cX7_boxes 13 = .ok (.bipush (-2), 2) := by decide +kernel
theorem dX7_boxes_15 : decode cX7_boxes 15 = .ok (.invokevirtual 77, 3) := by decide +kernel
theorem dX7_boxes_18 : decode cX7_boxes 18 = .ok (.ireturn, 1) := by decide +kernel
theorem dX7_boxes_19 : decode cX7_boxes 19 = .ok (.iconst 0, 1) := by decide +kernel
theorem dX7_boxes_20 : decode cX7_boxes 20 = .ok (.istore_n 2, 1) := by decide +kernel
theorem dX7_boxes_21 : decode cX7_boxes 21 = .ok (.iload_n 2, 1) := by decide +kernel
theorem dX7_boxes_22 : decode cX7_boxes 22 = .ok (.bipush 20, 2) := by decide +kernel
theorem dX7_boxes_24 : decode cX7_boxes 24 = .ok (.if_icmp .gt 24, 3) := by decide +kernel
theorem dX7_boxes_27 : decode cX7_boxes 27 = .ok (.aload_n 0, 1) := by decide +kernel
theorem dX7_boxes_28 : decode cX7_boxes 28 = .ok (.aload_n 0, 1) := by decide +kernel
theorem dX7_boxes_29 : decode cX7_boxes 29 = .ok (.getfield 45, 3) := by decide +kernel
theorem dX7_boxes_32 : decode cX7_boxes 32 = .ok (.iload_n 2, 1) := by decide +kernel
theorem dX7_boxes_33 : decode cX7_boxes 33 = .ok (.invokevirtual 330, 3) := by decide +kernel
theorem dX7_boxes_36 : decode cX7_boxes 36 = .ok (.iload_n 1, 1) := by decide +kernel
theorem dX7_boxes_37 : decode cX7_boxes 37 = .ok (.if_icmp .lt 5, 3) := by decide +kernel
theorem dX7_boxes_40 : decode cX7_boxes 40 = .ok (.iload_n 2, 1) := by decide +kernel
theorem dX7_boxes_41 : decode cX7_boxes 41 = .ok (.ireturn, 1) := by decide +kernel
theorem dX7_boxes_42 : decode cX7_boxes 42 = .ok (.iinc 2 1, 3) := by decide +kernel
theorem dX7_boxes_45 : decode cX7_boxes 45 = .ok (.goto (-24), 3) := by decide +kernel
theorem dX7_boxes_48 : decode cX7_boxes 48 = .ok (.iconst (-1), 1) := by decide +kernel
theorem dX7_boxes_49 : decode cX7_boxes 49 = .ok (.ireturn, 1) := by decide +kernel
theorem dX7_does_0 : decode cX7_does 0 = .ok (.lload_n 1, 1) := by decide +kernel
theorem dX7_does_1 : decode cX7_does 1 = .ok (.ldc2_w 344, 3) := by decide +kernel
theorem dX7_does_4 : decode cX7_does 4 = .ok (.land, 1) := by decide +kernel
theorem dX7_does_5 : decode cX7_does 5 = .ok (.l2i, 1) := by decide +kernel
theorem dX7_does_6 : decode cX7_does 6 = .ok (.istore_n 3, 1) := by decide +kernel
theorem dX7_does_7 : decode cX7_does 7 = .ok (.lload_n 1, 1) := by decide +kernel
theorem dX7_does_8 : decode cX7_does 8 = .ok (.bipush 16, 2) := by decide +kernel
theorem dX7_does_10 : decode cX7_does 10 = .ok (.lshr, 1) := by decide +kernel
theorem dX7_does_11 : decode cX7_does 11 = .ok (.ldc2_w 346, 3) := by decide +kernel
theorem dX7_does_14 : decode cX7_does 14 = .ok (.land, 1) := by decide +kernel
theorem dX7_does_15 : decode cX7_does 15 = .ok (.l2i, 1) := by decide +kernel
theorem dX7_does_16 : decode cX7_does 16 = .ok (.istore 4, 2) := by decide +kernel
theorem dX7_does_18 : decode cX7_does 18 = .ok (.lload_n 1, 1) := by decide +kernel
theorem dX7_does_19 : decode cX7_does 19 = .ok (.bipush 20, 2) := by decide +kernel
theorem dX7_does_21 : decode cX7_does 21 = .ok (.lshr, 1) := by decide +kernel
theorem dX7_does_22 : decode cX7_does 22 = .ok (.ldc2_w 348, 3) := by decide +kernel
theorem dX7_does_25 : decode cX7_does 25 = .ok (.land, 1) := by decide +kernel
theorem dX7_does_26 : decode cX7_does 26 = .ok (.l2i, 1) := by decide +kernel
theorem dX7_does_27 : decode cX7_does 27 = .ok (.istore 5, 2) := by decide +kernel
theorem dX7_does_29 : decode cX7_does 29 = .ok (.lload_n 1, 1) := by decide +kernel
theorem dX7_does_30 : decode cX7_does 30 = .ok (.bipush 22, 2) := by decide +kernel
theorem dX7_does_32 : decode cX7_does 32 = .ok (.lshr, 1) := by decide +kernel
theorem dX7_does_33 : decode cX7_does 33 = .ok (.ldc2_w 348, 3) := by decide +kernel
theorem dX7_does_36 : decode cX7_does 36 = .ok (.land, 1) := by decide +kernel
theorem dX7_does_37 : decode cX7_does 37 = .ok (.l2i, 1) := by decide +kernel
theorem dX7_does_38 : decode cX7_does 38 = .ok (.istore 6, 2) := by decide +kernel
theorem dX7_does_40 : decode cX7_does 40 = .ok (.iload 6, 2) := by decide +kernel
theorem dX7_does_42 : decode cX7_does 42 = .ok (.iconst 3, 1) := by decide +kernel
theorem dX7_does_43 : decode cX7_does 43 = .ok (.if_icmp .ne 5, 3) := by decide +kernel
theorem dX7_does_46 : decode cX7_does 46 = .ok (.iconst 1, 1) := by decide +kernel
theorem dX7_does_47 : decode cX7_does 47 = .ok (.ireturn, 1) := by decide +kernel
theorem dX7_does_48 : decode cX7_does 48 = .ok (.aload_n 0, 1) := by decide +kernel
theorem dX7_does_49 : decode cX7_does 49 = .ok (.iload 4, 2) := by decide +kernel
theorem dX7_does_51 : decode cX7_does 51 = .ok (.invokevirtual 88, 3) := by decide +kernel
theorem dX7_does_54 : decode cX7_does 54 = .ok (.ifCond .eq 12, 3) := by decide +kernel
theorem dX7_does_57 : decode cX7_does 57 = .ok (.aload_n 0, 1) := by decide +kernel
theorem dX7_does_58 : decode cX7_does 58 = .ok (.iload 5, 2) := by decide +kernel
theorem dX7_does_60 : decode cX7_does 60 = .ok (.invokevirtual 120, 3) := by decide +kernel
theorem dX7_does_63 : decode cX7_does 63 = .ok (.ifCond .ne 5, 3) := by decide +kernel
theorem dX7_does_66 : decode cX7_does 66 = .ok (.iconst 0, 1) := by decide +kernel
theorem dX7_does_67 : decode cX7_does 67 = .ok (.ireturn, 1) := by decide +kernel
theorem dX7_does_68 : decode cX7_does 68 = .ok (.iload 6, 2) := by decide +kernel
theorem dX7_does_70 : decode cX7_does 70 = .ok (.lookupswitch 97 #[(0, 26), (1, 66)], 26) := by decide +kernel
theorem dX7_does_96 : decode cX7_does 96 = .ok (.aload_n 0, 1) := by decide +kernel
theorem dX7_does_97 : decode cX7_does 97 = .ok (.iload 4, 2) := by decide +kernel
theorem dX7_does_99 : decode cX7_does 99 = .ok (.aload_n 0, 1) := by decide +kernel
theorem dX7_does_100 : decode cX7_does 100 = .ok (.getfield 42, 3) := by decide +kernel
theorem dX7_does_103 : decode cX7_does 103 = .ok (.iload 5, 2) := by decide +kernel
theorem dX7_does_105 : decode cX7_does 105 = .ok (.iaload, 1) := by decide +kernel
theorem dX7_does_106 : decode cX7_does 106 = .ok (.invokevirtual 230, 3) := by decide +kernel
theorem dX7_does_109 : decode cX7_does 109 = .ok (.ifCond .ne 5, 3) := by decide +kernel
theorem dX7_does_112 : decode cX7_does 112 = .ok (.iconst 0, 1) := by decide +kernel
theorem dX7_does_113 : decode cX7_does 113 = .ok (.ireturn, 1) := by decide +kernel
theorem dX7_does_114 : decode cX7_does 114 = .ok (.aload_n 0, 1) := by decide +kernel
theorem dX7_does_115 : decode cX7_does 115 = .ok (.getfield 42, 3) := by decide +kernel
theorem dX7_does_118 : decode cX7_does 118 = .ok (.iload 5, 2) := by decide +kernel
theorem dX7_does_120 : decode cX7_does 120 = .ok (.aload_n 0, 1) := by decide +kernel
theorem dX7_does_121 : decode cX7_does 121 = .ok (.iload 4, 2) := by decide +kernel
theorem dX7_does_123 : decode cX7_does 123 = .ok (.aload_n 0, 1) := by decide +kernel
theorem dX7_does_124 : decode cX7_does 124 = .ok (.getfield 42, 3) := by decide +kernel
theorem dX7_does_127 : decode cX7_does 127 = .ok (.iload 5, 2) := by decide +kernel
theorem dX7_does_129 : decode cX7_does 129 = .ok (.iaload, 1) := by decide +kernel
theorem dX7_does_130 : decode cX7_does 130 = .ok (.invokevirtual 239, 3) := by decide +kernel
theorem dX7_does_133 : decode cX7_does 133 = .ok (.iastore, 1) := by decide +kernel
theorem dX7_does_134 : decode cX7_does 134 = .ok (.iconst 1, 1) := by decide +kernel
theorem dX7_does_135 : decode cX7_does 135 = .ok (.ireturn, 1) := by decide +kernel
theorem dX7_does_136 : decode cX7_does 136 = .ok (.aload_n 0, 1) := by decide +kernel
theorem dX7_does_137 : decode cX7_does 137 = .ok (.iload_n 3, 1) := by decide +kernel
theorem dX7_does_138 : decode cX7_does 138 = .ok (.invokevirtual 233, 3) := by decide +kernel
theorem dX7_does_141 : decode cX7_does 141 = .ok (.ifCond .eq 15, 3) := by decide +kernel
theorem dX7_does_144 : decode cX7_does 144 = .ok (.aload_n 0, 1) := by decide +kernel
theorem dX7_does_145 : decode cX7_does 145 = .ok (.iload 5, 2) := by decide +kernel
theorem dX7_does_147 : decode cX7_does 147 = .ok (.iload 4, 2) := by decide +kernel
theorem dX7_does_149 : decode cX7_does 149 = .ok (.iload_n 3, 1) := by decide +kernel
theorem dX7_does_150 : decode cX7_does 150 = .ok (.invokevirtual 236, 3) := by decide +kernel
theorem dX7_does_153 : decode cX7_does 153 = .ok (.ifCond .ne 5, 3) := by decide +kernel
theorem dX7_does_156 : decode cX7_does 156 = .ok (.iconst 0, 1) := by decide +kernel
theorem dX7_does_157 : decode cX7_does 157 = .ok (.ireturn, 1) := by decide +kernel
theorem dX7_does_158 : decode cX7_does 158 = .ok (.aload_n 0, 1) := by decide +kernel
theorem dX7_does_159 : decode cX7_does 159 = .ok (.iload 4, 2) := by decide +kernel
theorem dX7_does_161 : decode cX7_does 161 = .ok (.iload_n 3, 1) := by decide +kernel
theorem dX7_does_162 : decode cX7_does 162 = .ok (.invokevirtual 249, 3) := by decide +kernel
theorem dX7_does_165 : decode cX7_does 165 = .ok (.iconst 1, 1) := by decide +kernel
theorem dX7_does_166 : decode cX7_does 166 = .ok (.ireturn, 1) := by decide +kernel
theorem dX7_does_167 : decode cX7_does 167 = .ok (.aload_n 0, 1) := by decide +kernel
theorem dX7_does_168 : decode cX7_does 168 = .ok (.iload 4, 2) := by decide +kernel
theorem dX7_does_170 : decode cX7_does 170 = .ok (.aload_n 0, 1) := by decide +kernel
theorem dX7_does_171 : decode cX7_does 171 = .ok (.getfield 42, 3) := by decide +kernel
theorem dX7_does_174 : decode cX7_does 174 = .ok (.iload 5, 2) := by decide +kernel
theorem dX7_does_176 : decode cX7_does 176 = .ok (.iaload, 1) := by decide +kernel
theorem dX7_does_177 : decode cX7_does 177 = .ok (.invokevirtual 213, 3) := by decide +kernel
theorem dX7_does_180 : decode cX7_does 180 = .ok (.ifCond .ne 5, 3) := by decide +kernel
theorem dX7_does_183 : decode cX7_does 183 = .ok (.iconst 0, 1) := by decide +kernel
theorem dX7_does_184 : decode cX7_does 184 = .ok (.ireturn, 1) := by decide +kernel
theorem dX7_does_185 : decode cX7_does 185 = .ok (.aload_n 0, 1) := by decide +kernel
theorem dX7_does_186 : decode cX7_does 186 = .ok (.dup, 1) := by decide +kernel
theorem dX7_does_187 : decode cX7_does 187 = .ok (.getfield 108, 3) := by decide +kernel
theorem dX7_does_190 : decode cX7_does 190 = .ok (.iconst 1, 1) := by decide +kernel
theorem dX7_does_191 : decode cX7_does 191 = .ok (.iload 4, 2) := by decide +kernel
theorem dX7_does_193 : decode cX7_does 193 = .ok (.ishl, 1) := by decide +kernel
theorem dX7_does_194 : decode cX7_does 194 = .ok (.iconst (-1), 1) := by decide +kernel
theorem dX7_does_195 : decode cX7_does 195 = .ok (.ixor, 1) := by decide +kernel
theorem dX7_does_196 : decode cX7_does 196 = .ok (.iand, 1) := by decide +kernel
theorem dX7_does_197 : decode cX7_does 197 = .ok (.putfield 108, 3) := by decide +kernel
theorem dX7_does_200 : decode cX7_does 200 = .ok (.iconst 1, 1) := by decide +kernel
theorem dX7_does_201 : decode cX7_does 201 = .ok (.ireturn, 1) := by decide +kernel
theorem dX7_goThrough_0 : decode cX7_goThrough 0 = .ok (.aload_n 0, 1) := by decide +kernel
theorem dX7_goThrough_1 : decode cX7_goThrough 1 = .ok (.invokevirtual 199, 3) := by decide +kernel
theorem dX7_goThrough_4 : decode cX7_goThrough 4 = .ok (.astore_n 3, 1) := by decide +kernel
theorem dX7_goThrough_5 : decode cX7_goThrough 5 = .ok (.iconst 0, 1) := by decide +kernel
theorem dX7_goThrough_6 : decode cX7_goThrough 6 = .ok (.istore 4, 2) := by decide +kernel
theorem dX7_goThrough_8 : decode cX7_goThrough 8 = .ok (.iload 4, 2) := by decide +kernel
theorem dX7_goThrough_10 : decode cX7_goThrough 10 = .ok (.iload_n 2, 1) := by decide +kernel
theorem dX7_goThrough_11 : decode cX7_goThrough 11 = .ok (.if_icmp .ge 28, 3) := by decide +kernel
theorem dX7_goThrough_14 : decode cX7_goThrough 14 = .ok (.aload_n 3, 1) := by decide +kernel
theorem dX7_goThrough_15 : decode cX7_goThrough 15 = .ok (.aload_n 0, 1) := by decide +kernel
theorem dX7_goThrough_16 : decode cX7_goThrough 16 = .ok (.getfield 21, 3) := by decide +kernel
theorem dX7_goThrough_19 : decode cX7_goThrough 19 = .ok (.iload_n 1, 1) := by decide +kernel
theorem dX7_goThrough_20 : decode cX7_goThrough 20 = .ok (.aaload, 1) := by decide +kernel
theorem dX7_goThrough_21 : decode cX7_goThrough 21 = .ok (.iload 4, 2) := by decide +kernel
theorem dX7_goThrough_23 : decode cX7_goThrough 23 = .ok (.laload, 1) := by decide +kernel
theorem dX7_goThrough_24 : decode cX7_goThrough 24 = .ok (.invokevirtual 350, 3) := by decide +kernel
theorem dX7_goThrough_27 : decode cX7_goThrough 27 = .ok (.ifCond .ne 6, 3) := by decide +kernel
theorem dX7_goThrough_30 : decode cX7_goThrough 30 = .ok (.iload 4, 2) := by decide +kernel
theorem dX7_goThrough_32 : decode cX7_goThrough 32 = .ok (.ireturn, 1) := by decide +kernel
theorem dX7_goThrough_33 : decode cX7_goThrough 33 = .ok (.iinc 4 1, 3) := by decide +kernel
theorem dX7_goThrough_36 : decode cX7_goThrough 36 = .ok (.goto (-28), 3) := by decide +kernel
theorem dX7_goThrough_39 : decode cX7_goThrough 39 = .ok (.iconst (-1), 1) := by decide +kernel
theorem dX7_goThrough_40 : decode cX7_goThrough 40 = .ok (.ireturn, 1) := by decide +kernel
theorem dX7_judge_0 : decode cX7_judge 0 = .ok (.aload_n 0, 1) := by decide +kernel
theorem dX7_judge_1 : decode cX7_judge 1 = .ok (.iload_n 1, 1) := by decide +kernel
theorem dX7_judge_2 : decode cX7_judge 2 = .ok (.iload_n 2, 1) := by decide +kernel
theorem dX7_judge_3 : decode cX7_judge 3 = .ok (.bipush 20, 2) := by decide +kernel
theorem dX7_judge_5 : decode cX7_judge 5 = .ok (.invokevirtual 293, 3) := by decide +kernel
theorem dX7_judge_8 : decode cX7_judge 8 = .ok (.istore_n 3, 1) := by decide +kernel
theorem dX7_judge_9 : decode cX7_judge 9 = .ok (.iload_n 3, 1) := by decide +kernel
theorem dX7_judge_10 : decode cX7_judge 10 = .ok (.ifCond .eq 7, 3) := by decide +kernel
theorem dX7_judge_13 : decode cX7_judge 13 = .ok (.iload_n 3, 1) := by decide +kernel
theorem dX7_judge_14 : decode cX7_judge 14 = .ok (.goto 9, 3) := by decide +kernel
theorem dX7_judge_17 : decode cX7_judge 17 = .ok (.aload_n 0, 1) := by decide +kernel
theorem dX7_judge_18 : decode cX7_judge 18 = .ok (.iload_n 1, 1) := by decide +kernel
theorem dX7_judge_19 : decode cX7_judge 19 = .ok (.iload_n 2, 1) := by decide +kernel
theorem dX7_judge_20 : decode cX7_judge 20 = .ok (.invokevirtual 353, 3) := by decide +kernel
theorem dX7_judge_23 : decode cX7_judge 23 = .ok (.ireturn, 1) := by decide +kernel
theorem dX7_told_0 : decode cX7_told 0 = .ok (.iload_n 3, 1) := by decide +kernel
theorem dX7_told_1 : decode cX7_told 1 = .ok (.i2l, 1) := by decide +kernel
theorem dX7_told_2 : decode cX7_told 2 = .ok (.lconst 0, 1) := by decide +kernel
theorem dX7_told_3 : decode cX7_told 3 = .ok (.ldc2_w 225, 3) := by decide +kernel
theorem dX7_told_6 : decode cX7_told 6 = .ok (.invokestatic 64, 3) := by decide +kernel
theorem dX7_told_9 : decode cX7_told 9 = .ok (.ifCond .ne 29, 3) := by decide +kernel
theorem dX7_told_12 : decode cX7_told 12 = .ok (.iload_n 3, 1) := by decide +kernel
theorem dX7_told_13 : decode cX7_told 13 = .ok (.i2l, 1) := by decide +kernel
theorem dX7_told_14 : decode cX7_told 14 = .ok (.ldc2_w 356, 3) := by decide +kernel
theorem dX7_told_17 : decode cX7_told 17 = .ok (.bipush 9, 2) := by decide +kernel
theorem dX7_told_19 : decode cX7_told 19 = .ok (.aload_n 0, 1) := by decide +kernel
theorem dX7_told_20 : decode cX7_told 20 = .ok (.getfield 68, 3) := by decide +kernel
theorem dX7_told_23 : decode cX7_told 23 = .ok (.iadd, 1) := by decide +kernel
theorem dX7_told_24 : decode cX7_told 24 = .ok (.i2l, 1) := by decide +kernel
theorem dX7_told_25 : decode cX7_told 25 = .ok (.invokestatic 64, 3) := by decide +kernel
theorem dX7_told_28 : decode cX7_told 28 = .ok (.ifCond .ne 10, 3) := by decide +kernel
theorem dX7_told_31 : decode cX7_told 31 = .ok (.aload_n 0, 1) := by decide +kernel
theorem dX7_told_32 : decode cX7_told 32 = .ok (.bipush (-2), 2) := by decide +kernel
theorem dX7_told_34 : decode cX7_told 34 = .ok (.invokevirtual 77, 3) := by decide +kernel
theorem dX7_told_37 : decode cX7_told 37 = .ok (.ireturn, 1) := by decide +kernel
theorem dX7_told_38 : decode cX7_told 38 = .ok (.aload_n 0, 1) := by decide +kernel
theorem dX7_told_39 : decode cX7_told 39 = .ok (.iload_n 1, 1) := by decide +kernel
theorem dX7_told_40 : decode cX7_told 40 = .ok (.iload_n 2, 1) := by decide +kernel
theorem dX7_told_41 : decode cX7_told 41 = .ok (.bipush 20, 2) := by decide +kernel
theorem dX7_told_43 : decode cX7_told 43 = .ok (.invokevirtual 293, 3) := by decide +kernel
theorem dX7_told_46 : decode cX7_told 46 = .ok (.istore 4, 2) := by decide +kernel
theorem dX7_told_48 : decode cX7_told 48 = .ok (.iload 4, 2) := by decide +kernel
theorem dX7_told_50 : decode cX7_told 50 = .ok (.ifCond .eq 6, 3) := by decide +kernel
theorem dX7_told_53 : decode cX7_told 53 = .ok (.iload 4, 2) := by decide +kernel
theorem dX7_told_55 : decode cX7_told 55 = .ok (.ireturn, 1) := by decide +kernel
theorem dX7_told_56 : decode cX7_told 56 = .ok (.aload_n 0, 1) := by decide +kernel
theorem dX7_told_57 : decode cX7_told 57 = .ok (.iload_n 1, 1) := by decide +kernel
theorem dX7_told_58 : decode cX7_told 58 = .ok (.iload_n 2, 1) := by decide +kernel
theorem dX7_told_59 : decode cX7_told 59 = .ok (.invokevirtual 353, 3) := by decide +kernel
theorem dX7_told_62 : decode cX7_told 62 = .ok (.iconst (-1), 1) := by decide +kernel
theorem dX7_told_63 : decode cX7_told 63 = .ok (.if_icmp .eq 10, 3) := by decide +kernel
theorem dX7_told_66 : decode cX7_told 66 = .ok (.aload_n 0, 1) := by decide +kernel
theorem dX7_told_67 : decode cX7_told 67 = .ok (.bipush (-5), 2) := by decide +kernel
theorem dX7_told_69 : decode cX7_told 69 = .ok (.invokevirtual 77, 3) := by decide +kernel
theorem dX7_told_72 : decode cX7_told 72 = .ok (.ireturn, 1) := by decide +kernel
theorem dX7_told_73 : decode cX7_told 73 = .ok (.iload_n 3, 1) := by decide +kernel
theorem dX7_told_74 : decode cX7_told 74 = .ok (.tableswitch 55 0 2 #[26, 34, 47], 26) := by decide +kernel
theorem dX7_told_100 : decode cX7_told 100 = .ok (.aload_n 0, 1) := by decide +kernel
theorem dX7_told_101 : decode cX7_told 101 = .ok (.getfield 339, 3) := by decide +kernel
theorem dX7_told_104 : decode cX7_told 104 = .ok (.getfield 108, 3) := by decide +kernel
theorem dX7_told_107 : decode cX7_told 107 = .ok (.ireturn, 1) := by decide +kernel
theorem dX7_told_108 : decode cX7_told 108 = .ok (.aload_n 0, 1) := by decide +kernel
theorem dX7_told_109 : decode cX7_told 109 = .ok (.getfield 339, 3) := by decide +kernel
theorem dX7_told_112 : decode cX7_told 112 = .ok (.getfield 246, 3) := by decide +kernel
theorem dX7_told_115 : decode cX7_told 115 = .ok (.aload_n 0, 1) := by decide +kernel
theorem dX7_told_116 : decode cX7_told 116 = .ok (.getfield 246, 3) := by decide +kernel
theorem dX7_told_119 : decode cX7_told 119 = .ok (.isub, 1) := by decide +kernel
theorem dX7_told_120 : decode cX7_told 120 = .ok (.ireturn, 1) := by decide +kernel
theorem dX7_told_121 : decode cX7_told 121 = .ok (.aload_n 0, 1) := by decide +kernel
theorem dX7_told_122 : decode cX7_told 122 = .ok (.getfield 339, 3) := by decide +kernel
theorem dX7_told_125 : decode cX7_told 125 = .ok (.invokevirtual 358, 3) := by decide +kernel
theorem dX7_told_128 : decode cX7_told 128 = .ok (.ireturn, 1) := by decide +kernel
theorem dX7_told_129 : decode cX7_told 129 = .ok (.aload_n 0, 1) := by decide +kernel
theorem dX7_told_130 : decode cX7_told 130 = .ok (.getfield 339, 3) := by decide +kernel
theorem dX7_told_133 : decode cX7_told 133 = .ok (.getfield 42, 3) := by decide +kernel
theorem dX7_told_136 : decode cX7_told 136 = .ok (.iload_n 3, 1) := by decide +kernel
theorem dX7_told_137 : decode cX7_told 137 = .ok (.bipush 10, 2) := by decide +kernel
theorem dX7_told_139 : decode cX7_told 139 = .ok (.isub, 1) := by decide +kernel
theorem dX7_told_140 : decode cX7_told 140 = .ok (.iaload, 1) := by decide +kernel
theorem dX7_told_141 : decode cX7_told 141 = .ok (.ireturn, 1) := by decide +kernel
theorem dX7_draw_0 : decode cX7_draw 0 = .ok (.aload_n 0, 1) := by decide +kernel
theorem dX7_draw_1 : decode cX7_draw 1 = .ok (.aload_n 0, 1) := by decide +kernel
theorem dX7_draw_2 : decode cX7_draw 2 = .ok (.getfield 49, 3) := by decide +kernel
theorem dX7_draw_5 : decode cX7_draw 5 = .ok (.ldc_w 361, 3) := by decide +kernel
theorem dX7_draw_8 : decode cX7_draw 8 = .ok (.imul, 1) := by decide +kernel
theorem dX7_draw_9 : decode cX7_draw 9 = .ok (.sipush 12345, 3) := by decide +kernel
theorem dX7_draw_12 : decode cX7_draw 12 = .ok (.iadd, 1) := by decide +kernel
theorem dX7_draw_13 : decode cX7_draw 13 = .ok (.putfield 49, 3) := by decide +kernel
theorem dX7_draw_16 : decode cX7_draw 16 = .ok (.aload_n 0, 1) := by decide +kernel
theorem dX7_draw_17 : decode cX7_draw 17 = .ok (.getfield 49, 3) := by decide +kernel
theorem dX7_draw_20 : decode cX7_draw 20 = .ok (.bipush 16, 2) := by decide +kernel
theorem dX7_draw_22 : decode cX7_draw 22 = .ok (.iushr, 1) := by decide +kernel
theorem dX7_draw_23 : decode cX7_draw 23 = .ok (.iload_n 1, 1) := by decide +kernel
theorem dX7_draw_24 : decode cX7_draw 24 = .ok (.irem, 1) := by decide +kernel
theorem dX7_draw_25 : decode cX7_draw 25 = .ok (.ireturn, 1) := by decide +kernel
theorem dX7_evening_0 : decode cX7_evening 0 = .ok (.iload_n 1, 1) := by decide +kernel
theorem dX7_evening_1 : decode cX7_evening 1 = .ok (.i2l, 1) := by decide +kernel
theorem dX7_evening_2 : decode cX7_evening 2 = .ok (.lconst 1, 1) := by decide +kernel
theorem dX7_evening_3 : decode cX7_evening 3 = .ok (.ldc2_w 362, 3) := by decide +kernel
theorem dX7_evening_6 : decode cX7_evening 6 = .ok (.invokestatic 64, 3) := by decide +kernel
theorem dX7_evening_9 : decode cX7_evening 9 = .ok (.ifCond .ne 10, 3) := by decide +kernel
theorem dX7_evening_12 : decode cX7_evening 12 = .ok (.aload_n 0, 1) := by decide +kernel
theorem dX7_evening_13 : decode cX7_evening 13 = .ok (.bipush (-2), 2) := by decide +kernel
theorem dX7_evening_15 : decode cX7_evening 15 = .ok (.invokevirtual 77, 3) := by decide +kernel
theorem dX7_evening_18 : decode cX7_evening 18 = .ok (.ireturn, 1) := by decide +kernel
theorem dX7_evening_19 : decode cX7_evening 19 = .ok (.aload_n 0, 1) := by decide +kernel
theorem dX7_evening_20 : decode cX7_evening 20 = .ok (.getfield 61, 3) := by decide +kernel
theorem dX7_evening_23 : decode cX7_evening 23 = .ok (.ifCond .eq 10, 3) := by decide +kernel
theorem dX7_evening_26 : decode cX7_evening 26 = .ok (.aload_n 0, 1) := by decide +kernel
theorem dX7_evening_27 : decode cX7_evening 27 = .ok (.getfield 68, 3) := by decide +kernel
theorem dX7_evening_30 : decode cX7_evening 30 = .ok (.ifCond .ne 10, 3) := by decide +kernel
theorem dX7_evening_33 : decode cX7_evening 33 = .ok (.aload_n 0, 1) := by decide +kernel
theorem dX7_evening_34 : decode cX7_evening 34 = .ok (.bipush (-5), 2) := by decide +kernel
theorem dX7_evening_36 : decode cX7_evening 36 = .ok (.invokevirtual 77, 3) := by decide +kernel
theorem dX7_evening_39 : decode cX7_evening 39 = .ok (.ireturn, 1) := by decide +kernel
theorem dX7_evening_40 : decode cX7_evening 40 = .ok (.iconst 0, 1) := by decide +kernel
theorem dX7_evening_41 : decode cX7_evening 41 = .ok (.istore_n 2, 1) := by decide +kernel
theorem dX7_evening_42 : decode cX7_evening 42 = .ok (.iconst 0, 1) := by decide +kernel
theorem dX7_evening_43 : decode cX7_evening 43 = .ok (.istore_n 3, 1) := by decide +kernel
theorem dX7_evening_44 : decode cX7_evening 44 = .ok (.iload_n 3, 1) := by decide +kernel
theorem dX7_evening_45 : decode cX7_evening 45 = .ok (.iload_n 1, 1) := by decide +kernel
theorem dX7_evening_46 : decode cX7_evening 46 = .ok (.if_icmp .ge 96, 3) := by decide +kernel
theorem dX7_evening_49 : decode cX7_evening 49 = .ok (.aload_n 0, 1) := by decide +kernel
theorem dX7_evening_50 : decode cX7_evening 50 = .ok (.aload_n 0, 1) := by decide +kernel
theorem dX7_evening_51 : decode cX7_evening 51 = .ok (.getfield 68, 3) := by decide +kernel
theorem dX7_evening_54 : decode cX7_evening 54 = .ok (.invokevirtual 364, 3) := by decide +kernel
theorem dX7_evening_57 : decode cX7_evening 57 = .ok (.istore 4, 2) := by decide +kernel
theorem dX7_evening_59 : decode cX7_evening 59 = .ok (.aload_n 0, 1) := by decide +kernel
theorem dX7_evening_60 : decode cX7_evening 60 = .ok (.aload_n 0, 1) := by decide +kernel
theorem dX7_evening_61 : decode cX7_evening 61 = .ok (.getfield 61, 3) := by decide +kernel
theorem dX7_evening_64 : decode cX7_evening 64 = .ok (.invokevirtual 364, 3) := by decide +kernel
theorem dX7_evening_67 : decode cX7_evening 67 = .ok (.istore 5, 2) := by decide +kernel
theorem dX7_evening_69 : decode cX7_evening 69 = .ok (.aload_n 0, 1) := by decide +kernel
theorem dX7_evening_70 : decode cX7_evening 70 = .ok (.iload 4, 2) := by decide +kernel
theorem dX7_evening_72 : decode cX7_evening 72 = .ok (.iload 5, 2) := by decide +kernel
theorem dX7_evening_74 : decode cX7_evening 74 = .ok (.iconst 1, 1) := by decide +kernel
theorem dX7_evening_75 : decode cX7_evening 75 = .ok (.invokevirtual 227, 3) := by decide +kernel
theorem dX7_evening_78 : decode cX7_evening 78 = .ok (.istore 6, 2) := by decide +kernel
theorem dX7_evening_80 : decode cX7_evening 80 = .ok (.iload 6, 2) := by decide +kernel
theorem dX7_evening_82 : decode cX7_evening 82 = .ok (.iconst (-1), 1) := by decide +kernel
theorem dX7_evening_83 : decode cX7_evening 83 = .ok (.if_icmp .eq 17, 3) := by decide +kernel
theorem dX7_evening_86 : decode cX7_evening 86 = .ok (.aload_n 0, 1) := by decide +kernel
theorem dX7_evening_87 : decode cX7_evening 87 = .ok (.iload 5, 2) := by decide +kernel
theorem dX7_evening_89 : decode cX7_evening 89 = .ok (.iload 6, 2) := by decide +kernel
theorem dX7_evening_91 : decode cX7_evening 91 = .ok (.invokevirtual 249, 3) := by decide +kernel
theorem dX7_evening_94 : decode cX7_evening 94 = .ok (.iinc 2 1, 3) := by decide +kernel
theorem dX7_evening_97 : decode cX7_evening 97 = .ok (.goto 39, 3) := by decide +kernel
theorem dX7_evening_100 : decode cX7_evening 100 = .ok (.aload_n 0, 1) := by decide +kernel
theorem dX7_evening_101 : decode cX7_evening 101 = .ok (.iload 5, 2) := by decide +kernel
theorem dX7_evening_103 : decode cX7_evening 103 = .ok (.aload_n 0, 1) := by decide +kernel
theorem dX7_evening_104 : decode cX7_evening 104 = .ok (.getfield 42, 3) := by decide +kernel
theorem dX7_evening_107 : decode cX7_evening 107 = .ok (.iload 4, 2) := by decide +kernel
theorem dX7_evening_109 : decode cX7_evening 109 = .ok (.iaload, 1) := by decide +kernel
theorem dX7_evening_110 : decode cX7_evening 110 = .ok (.invokevirtual 230, 3) := by decide +kernel
theorem dX7_evening_113 : decode cX7_evening 113 = .ok (.ifCond .eq 23, 3) := by decide +kernel
theorem dX7_evening_116 : decode cX7_evening 116 = .ok (.aload_n 0, 1) := by decide +kernel
theorem dX7_evening_117 : decode cX7_evening 117 = .ok (.getfield 42, 3) := by decide +kernel
theorem dX7_evening_120 : decode cX7_evening 120 = .ok (.iload 4, 2) := by decide +kernel
theorem dX7_evening_122 : decode cX7_evening 122 = .ok (.aload_n 0, 1) := by decide +kernel
theorem dX7_evening_123 : decode cX7_evening 123 = .ok (.iload 5, 2) := by decide +kernel
theorem dX7_evening_125 : decode cX7_evening 125 = .ok (.aload_n 0, 1) := by decide +kernel
theorem dX7_evening_126 : decode cX7_evening 126 = .ok (.getfield 42, 3) := by decide +kernel
theorem dX7_evening_129 : decode cX7_evening 129 = .ok (.iload 4, 2) := by decide +kernel
theorem dX7_evening_131 : decode cX7_evening 131 = .ok (.iaload, 1) := by decide +kernel
theorem dX7_evening_132 : decode cX7_evening 132 = .ok (.invokevirtual 239, 3) := by decide +kernel
theorem dX7_evening_135 : decode cX7_evening 135 = .ok (.iastore, 1) := by decide +kernel
theorem dX7_evening_136 : decode cX7_evening 136 = .ok (.iinc 3 1, 3) := by decide +kernel
theorem dX7_evening_139 : decode cX7_evening 139 = .ok (.goto (-95), 3) := by decide +kernel
theorem dX7_evening_142 : decode cX7_evening 142 = .ok (.iload_n 2, 1) := by decide +kernel
theorem dX7_evening_143 : decode cX7_evening 143 = .ok (.ireturn, 1) := by decide +kernel
def f_X7_lasts (n : Nat) (h : xH) (a0 : Nat) : Option ((Int32 × xH) × Nat × Nat) :=
  (x_gI h a0 7 14).bind fun x1 =>
  (x_ob h a0 7).bind fun u2 =>
  (f_X7_lastsBy n h a0 x1 (0 : Int32)).bind fun q3 =>
  x_add q3.2.1 q3.2.2 <|
  some ((q3.1.1, q3.1.2), 0, 0)
set_option maxRecDepth 100000 in
set_option maxHeartbeats 4000000 in
theorem c_X7_lasts {n : Nat} {h : xH} {a0 : Nat} {r9 : Int32} {hz : xH} {c9 s9 : Nat} (hE : f_X7_lasts n h a0 = some ((r9, hz), c9, s9)) : Ctr M_X7_lasts [.ref a0] h (some (.int r9)) hz c9 s9 := by
  refine ctr_of (by decide) (fun _ _ => Nat.le_of_ble_eq_true rfl) (fun S => ?_)
  show Y S M_X7_lasts h (some (.int r9)) hz c9 s9 0 [(0, .ref a0)] [] h 0 0
  unfold f_X7_lasts at hE
  refine y_aload_n dX7_lasts_0 0 rfl ?_
  refine y_aload_n dX7_lasts_1 0 rfl ?_
  obtain ⟨x1, ex1, hE⟩ := Option.bind_eq_some_iff.mp hE
  refine y_getI fl_X7_45 ex1 dX7_lasts_2 ?_
  refine y_iconst (v := (0 : Int32)) dX7_lasts_5 (by decide) ?_
  obtain ⟨u2, eu2, hE⟩ := Option.bind_eq_some_iff.mp hE
  obtain ⟨q3, eq3, hE⟩ := Option.bind_eq_some_iff.mp hE
  obtain ⟨c4, s5, hN, ecc4, ess5⟩ := x_add.spec hE
  clear hE; have hE := hN; clear hN
  refine y_cVi1 (st := []) (as := [.int x1, .int (0 : Int32)]) (c_X7_lastsBy (eq3.trans (show some q3 = some ((q3.1.1, q3.1.2), q3.2.1, q3.2.2) from rfl))) lk_X7_330 in_X7_lastsBy se_X7_lastsBy rfl eu2 ⟨Nat.le_of_ble_eq_true rfl, Nat.le_of_ble_eq_true rfl⟩ (Nat.le_of_ble_eq_true rfl) dX7_lasts_6 ⟨by omega, by omega⟩ rfl ?_
  obtain ⟨rfl, rfl, rfl, rfl⟩ := x_inj4 hE
  exact y_ret dX7_lasts_9 (by omega) (by omega) ⟨_, rfl, rfl⟩
def f_X7_worthOf (n : Nat) (h : xH) (a0 : Nat) (p1 : Int32) : Option ((Int32 × xH) × Nat × Nat) :=
  (x_gI h a0 7 14).bind fun x1 =>
  (x_ob h a0 7).bind fun u2 =>
  (f_X7_lastsBy n h a0 x1 (0 : Int32)).bind fun q3 =>
  x_add q3.2.1 q3.2.2 <|
  (x_gI q3.1.2 a0 7 11).bind fun x6 =>
  (x_put q3.1.2 a0 7 11 (.int (x6 &&& ((i_shl (1 : Int32) p1) ^^^ (-1 : Int32))))).bind fun h7 =>
  (x_gI h7 a0 7 14).bind fun x8 =>
  (x_ob h7 a0 7).bind fun u9 =>
  (f_X7_lastsBy n h7 a0 x8 (0 : Int32)).bind fun q10 =>
  x_add q10.2.1 q10.2.2 <|
  (x_gI q10.1.2 a0 7 11).bind fun x13 =>
  (x_put q10.1.2 a0 7 11 (.int (x13 ||| (i_shl (1 : Int32) p1)))).bind fun h14 =>
  some (((q3.1.1 - q10.1.1), h14), 0, 0)
set_option maxRecDepth 100000 in
set_option maxHeartbeats 4000000 in
theorem c_X7_worthOf {n : Nat} {h : xH} {a0 : Nat} {p1 : Int32} {r9 : Int32} {hz : xH} {c9 s9 : Nat} (hE : f_X7_worthOf n h a0 p1 = some ((r9, hz), c9, s9)) : Ctr M_X7_worthOf [.ref a0, .int p1] h (some (.int r9)) hz c9 s9 := by
  refine ctr_of (by decide) (fun _ _ => Nat.le_of_ble_eq_true rfl) (fun S => ?_)
  show Y S M_X7_worthOf h (some (.int r9)) hz c9 s9 0 [(0, .ref a0), (1, .int p1)] [] h 0 0
  unfold f_X7_worthOf at hE
  refine y_aload_n dX7_worthOf_0 0 rfl ?_
  refine y_aload_n dX7_worthOf_1 0 rfl ?_
  obtain ⟨x1, ex1, hE⟩ := Option.bind_eq_some_iff.mp hE
  refine y_getI fl_X7_45 ex1 dX7_worthOf_2 ?_
  refine y_iconst (v := (0 : Int32)) dX7_worthOf_5 (by decide) ?_
  obtain ⟨u2, eu2, hE⟩ := Option.bind_eq_some_iff.mp hE
  obtain ⟨q3, eq3, hE⟩ := Option.bind_eq_some_iff.mp hE
  obtain ⟨c4, s5, hN, ecc4, ess5⟩ := x_add.spec hE
  clear hE; have hE := hN; clear hN
  refine y_cVi1 (st := []) (as := [.int x1, .int (0 : Int32)]) (c_X7_lastsBy (eq3.trans (show some q3 = some ((q3.1.1, q3.1.2), q3.2.1, q3.2.2) from rfl))) lk_X7_330 in_X7_lastsBy se_X7_lastsBy rfl eu2 ⟨Nat.le_of_ble_eq_true rfl, Nat.le_of_ble_eq_true rfl⟩ (Nat.le_of_ble_eq_true rfl) dX7_worthOf_6 ⟨by omega, by omega⟩ rfl ?_
  refine y_istore_n (ls' := [(2, .int q3.1.1), (0, .ref a0), (1, .int p1)]) dX7_worthOf_9 (by decide) rfl rfl ?_
  refine y_aload_n dX7_worthOf_10 1 rfl ?_
  refine y_dup dX7_worthOf_11 rfl ?_
  obtain ⟨x6, ex6, hE⟩ := Option.bind_eq_some_iff.mp hE
  refine y_getI fl_X7_108 ex6 dX7_worthOf_12 ?_
  refine y_iconst (v := (1 : Int32)) dX7_worthOf_15 (by decide) ?_
  refine y_iload_n dX7_worthOf_16 2 rfl ?_
  refine y_ishl dX7_worthOf_17 ?_
  refine y_iconst (v := (-1 : Int32)) dX7_worthOf_18 (by decide) ?_
  refine y_ixor dX7_worthOf_19 ?_
  refine y_iand dX7_worthOf_20 ?_
  obtain ⟨h7, eh7, hE⟩ := Option.bind_eq_some_iff.mp hE
  refine y_putI fp_X7_108 eh7 dX7_worthOf_21 ?_
  refine y_aload_n dX7_worthOf_24 1 rfl ?_
  refine y_aload_n dX7_worthOf_25 1 rfl ?_
  obtain ⟨x8, ex8, hE⟩ := Option.bind_eq_some_iff.mp hE
  refine y_getI fl_X7_45 ex8 dX7_worthOf_26 ?_
  refine y_iconst (v := (0 : Int32)) dX7_worthOf_29 (by decide) ?_
  obtain ⟨u9, eu9, hE⟩ := Option.bind_eq_some_iff.mp hE
  obtain ⟨q10, eq10, hE⟩ := Option.bind_eq_some_iff.mp hE
  obtain ⟨c11, s12, hN, ecc11, ess12⟩ := x_add.spec hE
  clear hE; have hE := hN; clear hN
  refine y_cVi1 (st := []) (as := [.int x8, .int (0 : Int32)]) (c_X7_lastsBy (eq10.trans (show some q10 = some ((q10.1.1, q10.1.2), q10.2.1, q10.2.2) from rfl))) lk_X7_330 in_X7_lastsBy se_X7_lastsBy rfl eu9 ⟨Nat.le_of_ble_eq_true rfl, Nat.le_of_ble_eq_true rfl⟩ (Nat.le_of_ble_eq_true rfl) dX7_worthOf_30 ⟨by omega, by omega⟩ rfl ?_
  refine y_istore_n (ls' := [(3, .int q10.1.1), (2, .int q3.1.1), (0, .ref a0), (1, .int p1)]) dX7_worthOf_33 (by decide) rfl rfl ?_
  refine y_aload_n dX7_worthOf_34 2 rfl ?_
  refine y_dup dX7_worthOf_35 rfl ?_
  obtain ⟨x13, ex13, hE⟩ := Option.bind_eq_some_iff.mp hE
  refine y_getI fl_X7_108 ex13 dX7_worthOf_36 ?_
  refine y_iconst (v := (1 : Int32)) dX7_worthOf_39 (by decide) ?_
  refine y_iload_n dX7_worthOf_40 3 rfl ?_
  refine y_ishl dX7_worthOf_41 ?_
  refine y_ior dX7_worthOf_42 ?_
  obtain ⟨h14, eh14, hE⟩ := Option.bind_eq_some_iff.mp hE
  refine y_putI fp_X7_108 eh14 dX7_worthOf_43 ?_
  refine y_iload_n dX7_worthOf_46 1 rfl ?_
  refine y_iload_n dX7_worthOf_47 0 rfl ?_
  refine y_isub dX7_worthOf_48 ?_
  obtain ⟨rfl, rfl, rfl, rfl⟩ := x_inj4 hE
  exact y_ret dX7_worthOf_49 (by omega) (by omega) ⟨_, rfl, rfl⟩
def f_X7_worth (n : Nat) (h : xH) (a0 : Nat) (p1 : Int32) : Option ((Int32 × xH) × Nat × Nat) :=
  (x_ob h a0 7).bind fun u1 =>
  (f_X7_isDoor h a0 p1).bind fun q2 =>
  if q2 = 0 then
    (x_ob h a0 7).bind fun u3 =>
    (f_X7_refuse h a0 (-2 : Int32)).bind fun q4 =>
    some (((q4.1 - (1000000 : Int32)), q4.2), 0, 0)
  else
    (x_gI h a0 7 11).bind fun x5 =>
    (f_X7_has h x5 p1).bind fun q6 =>
    if q6 = 0 then
      (x_ob h a0 7).bind fun u7 =>
      (f_X7_refuse h a0 (-5 : Int32)).bind fun q8 =>
      some (((q8.1 - (1000000 : Int32)), q8.2), 0, 0)
    else
      (x_ob h a0 7).bind fun u9 =>
      (f_X7_worthOf n h a0 p1).bind fun q10 =>
      x_add q10.2.1 q10.2.2 <|
      some ((q10.1.1, q10.1.2), 0, 0)
set_option maxRecDepth 100000 in
set_option maxHeartbeats 4000000 in
theorem c_X7_worth {n : Nat} {h : xH} {a0 : Nat} {p1 : Int32} {r9 : Int32} {hz : xH} {c9 s9 : Nat} (hE : f_X7_worth n h a0 p1 = some ((r9, hz), c9, s9)) : Ctr M_X7_worth [.ref a0, .int p1] h (some (.int r9)) hz c9 s9 := by
  refine ctr_of (by decide) (fun _ _ => Nat.le_of_ble_eq_true rfl) (fun S => ?_)
  show Y S M_X7_worth h (some (.int r9)) hz c9 s9 0 [(0, .ref a0), (1, .int p1)] [] h 0 0
  unfold f_X7_worth at hE
  refine y_aload_n dX7_worth_0 0 rfl ?_
  refine y_iload_n dX7_worth_1 1 rfl ?_
  obtain ⟨u1, eu1, hE⟩ := Option.bind_eq_some_iff.mp hE
  obtain ⟨q2, eq2, hE⟩ := Option.bind_eq_some_iff.mp hE
  refine y_cVi0 (st := []) (as := [.int p1]) (c_X7_isDoor eq2) lk_X7_88 in_X7_isDoor se_X7_isDoor rfl eu1 ⟨Nat.le_of_ble_eq_true rfl, Nat.le_of_ble_eq_true rfl⟩ (Nat.le_of_ble_eq_true rfl) dX7_worth_2 ⟨by omega, by omega⟩ rfl ?_
  refine y_if_ne (tgt := 19) dX7_worth_5 (by decide) (fun hc14 => ?_) (fun hc14 => ?_)
  · rw [if_pos hc14] at hE
    refine y_aload_n dX7_worth_8 0 rfl ?_
    refine y_bipush (v := (-2 : Int32)) dX7_worth_9 (by decide) ?_
    obtain ⟨u3, eu3, hE⟩ := Option.bind_eq_some_iff.mp hE
    obtain ⟨q4, eq4, hE⟩ := Option.bind_eq_some_iff.mp hE
    refine y_cVi0 (st := []) (as := [.int (-2 : Int32)]) (c_X7_refuse eq4) lk_X7_77 in_X7_refuse se_X7_refuse rfl eu3 ⟨Nat.le_of_ble_eq_true rfl, Nat.le_of_ble_eq_true rfl⟩ (Nat.le_of_ble_eq_true rfl) dX7_worth_11 ⟨by omega, by omega⟩ rfl ?_
    refine y_ldc_w (v := (1000000 : Int32)) (x_wt (tb 1392 (by decide +kernel)) rfl) dX7_worth_14 ?_
    refine y_isub dX7_worth_17 ?_
    obtain ⟨rfl, rfl, rfl, rfl⟩ := x_inj4 hE
    exact y_ret dX7_worth_18 (by omega) (by omega) ⟨_, rfl, rfl⟩
  · rw [if_neg hc14] at hE
    refine y_aload_n dX7_worth_19 0 rfl ?_
    obtain ⟨x5, ex5, hE⟩ := Option.bind_eq_some_iff.mp hE
    refine y_getI fl_X7_108 ex5 dX7_worth_20 ?_
    refine y_iload_n dX7_worth_23 1 rfl ?_
    obtain ⟨q6, eq6, hE⟩ := Option.bind_eq_some_iff.mp hE
    refine y_cSi0 (st := []) (as := [.int x5, .int p1]) (c_X7_has eq6) lk_X7_116 st_X7_has ⟨Nat.le_of_ble_eq_true rfl, Nat.le_of_ble_eq_true rfl⟩ (Nat.le_of_ble_eq_true rfl) dX7_worth_24 ⟨by omega, by omega⟩ rfl ?_
    refine y_if_eq (tgt := 38) dX7_worth_27 (by decide) (fun hc13 => ?_) (fun hc13 => ?_)
    · rw [if_pos hc13] at hE
      refine y_aload_n dX7_worth_38 0 rfl ?_
      refine y_bipush (v := (-5 : Int32)) dX7_worth_39 (by decide) ?_
      obtain ⟨u7, eu7, hE⟩ := Option.bind_eq_some_iff.mp hE
      obtain ⟨q8, eq8, hE⟩ := Option.bind_eq_some_iff.mp hE
      refine y_cVi0 (st := []) (as := [.int (-5 : Int32)]) (c_X7_refuse eq8) lk_X7_77 in_X7_refuse se_X7_refuse rfl eu7 ⟨Nat.le_of_ble_eq_true rfl, Nat.le_of_ble_eq_true rfl⟩ (Nat.le_of_ble_eq_true rfl) dX7_worth_41 ⟨by omega, by omega⟩ rfl ?_
      refine y_ldc_w (v := (1000000 : Int32)) (x_wt (tb 1392 (by decide +kernel)) rfl) dX7_worth_44 ?_
      refine y_isub dX7_worth_47 ?_
      obtain ⟨rfl, rfl, rfl, rfl⟩ := x_inj4 hE
      exact y_ret dX7_worth_48 (by omega) (by omega) ⟨_, rfl, rfl⟩
    · rw [if_neg hc13] at hE
      refine y_aload_n dX7_worth_30 0 rfl ?_
      refine y_iload_n dX7_worth_31 1 rfl ?_
      obtain ⟨u9, eu9, hE⟩ := Option.bind_eq_some_iff.mp hE
      obtain ⟨q10, eq10, hE⟩ := Option.bind_eq_some_iff.mp hE
      obtain ⟨c11, s12, hN, ecc11, ess12⟩ := x_add.spec hE
      clear hE; have hE := hN; clear hN
      refine y_cVi1 (st := []) (as := [.int p1]) (c_X7_worthOf (eq10.trans (show some q10 = some ((q10.1.1, q10.1.2), q10.2.1, q10.2.2) from rfl))) lk_X7_334 in_X7_worthOf se_X7_worthOf rfl eu9 ⟨Nat.le_of_ble_eq_true rfl, Nat.le_of_ble_eq_true rfl⟩ (Nat.le_of_ble_eq_true rfl) dX7_worth_32 ⟨by omega, by omega⟩ rfl ?_
      refine y_goto (tgt := 48) dX7_worth_35 (by decide) ?_
      obtain ⟨rfl, rfl, rfl, rfl⟩ := x_inj4 hE
      exact y_ret dX7_worth_48 (by omega) (by omega) ⟨_, rfl, rfl⟩
def f_X7_spare_L6 (n : Nat) (v0 : Nat) : Nat → Int32 → Int32 → Int32 → xH → Option ((Int32 × xH) × Nat × Nat)
  | 0, _, _, _, _ => none
  | k + 1, v1, v2, v3, h =>
    (x_gI h v0 7 9).bind fun x1 =>
    if x1 ≤ v3 then
      some ((v1, h), 0, 0)
    else
      (x_gI h v0 7 11).bind fun x2 =>
      (f_X7_has h x2 v3).bind fun q3 =>
      if q3 = 0 then
        (some (v3 + (1 : Int32))).bind fun x4 =>
        f_X7_spare_L6 n v0 k v1 v2 x4 h
      else
        (x_ob h v0 7).bind fun u5 =>
        (f_X7_worthOf n h v0 v3).bind fun q6 =>
        x_add q6.2.1 q6.2.2 <|
        if v1 = (-1 : Int32) then
          (some (v3 + (1 : Int32))).bind fun x9 =>
          f_X7_spare_L6 n v0 k v3 q6.1.1 x9 q6.1.2
        else
          if v2 ≤ q6.1.1 then
            (some (v3 + (1 : Int32))).bind fun x10 =>
            f_X7_spare_L6 n v0 k v1 v2 x10 q6.1.2
          else
            (some (v3 + (1 : Int32))).bind fun x11 =>
            f_X7_spare_L6 n v0 k v3 q6.1.1 x11 q6.1.2
set_option maxRecDepth 100000 in
set_option maxHeartbeats 4000000 in
theorem l_X7_spare_6 {S : Nat × (Nat → Int32)} {rv : Option Value} {h0 h1 : xH} {mc ms : Nat} {tc ts : Nat} (n : Nat) (v0 : Nat) : ∀ (k : Nat) (v1 : Int32) (v2 : Int32) (v3 : Int32) (h : xH) (res : Int32 × xH) (c9 s9 cells slots : Nat), f_X7_spare_L6 n v0 k v1 v2 v3 h = some (res, c9, s9) → cells + c9 = tc → slots + s9 = ts → (tc ≤ mc ∧ ts ≤ ms) → (∀ r9, res = r9 → Y S M_X7_spare h0 rv h1 mc ms 54 [(0, .ref v0), (1, .int r9.1)] [] r9.2 tc ts) → Y S M_X7_spare h0 rv h1 mc ms 6 [(0, .ref v0), (1, .int v1), (2, .int v2), (3, .int v3)] [] h cells slots := by
  intro k
  induction k with
  | zero =>
    intro _ _ _ _ _ _ _ _ _ hE
    cases hE
  | succ k ih =>
    intro v1 v2 v3 h res c9 s9 cells slots hE hc9 hs9 hm K
    unfold f_X7_spare_L6 at hE
    refine y_iload_n dX7_spare_6 3 rfl ?_
    refine y_aload_n dX7_spare_7 0 rfl ?_
    obtain ⟨x1, ex1, hE⟩ := Option.bind_eq_some_iff.mp hE
    refine y_getI fl_X7_61 ex1 dX7_spare_8 ?_
    refine y_icmp_ge (tgt := 54) dX7_spare_11 (by decide) (fun hc15 => ?_) (fun hc15 => ?_)
    · rw [if_pos hc15] at hE
      obtain ⟨rfl, rfl, rfl⟩ := x_inj3 hE
      refine y_cnt (c2 := tc) (s2 := ts) (by omega) (by omega) ?_
      exact y_pick [0, 1] rfl (K _ rfl)
    · rw [if_neg hc15] at hE
      refine y_aload_n dX7_spare_14 0 rfl ?_
      obtain ⟨x2, ex2, hE⟩ := Option.bind_eq_some_iff.mp hE
      refine y_getI fl_X7_108 ex2 dX7_spare_15 ?_
      refine y_iload_n dX7_spare_18 3 rfl ?_
      obtain ⟨q3, eq3, hE⟩ := Option.bind_eq_some_iff.mp hE
      refine y_cSi0 (st := []) (as := [.int x2, .int v3]) (c_X7_has eq3) lk_X7_116 st_X7_has ⟨Nat.le_of_ble_eq_true rfl, Nat.le_of_ble_eq_true rfl⟩ (Nat.le_of_ble_eq_true rfl) dX7_spare_19 ⟨by omega, by omega⟩ rfl ?_
      refine y_if_eq (tgt := 48) dX7_spare_22 (by decide) (fun hc14 => ?_) (fun hc14 => ?_)
      · rw [if_pos hc14] at hE
        obtain ⟨x4, ex4, hE⟩ := Option.bind_eq_some_iff.mp hE
        refine y_iinc (ls' := [(3, .int x4), (0, .ref v0), (1, .int v1), (2, .int v2)]) dX7_spare_48 3 rfl (Option.some.inj ex4) (by decide) rfl ?_
        refine y_goto (tgt := 6) dX7_spare_51 (by decide) ?_
        refine y_pick [1, 2, 3, 0] rfl ?_
        exact ih _ _ _ _ _ _ _ _ _ hE (by omega) (by omega) hm K
      · rw [if_neg hc14] at hE
        refine y_aload_n dX7_spare_25 0 rfl ?_
        refine y_iload_n dX7_spare_26 3 rfl ?_
        obtain ⟨u5, eu5, hE⟩ := Option.bind_eq_some_iff.mp hE
        obtain ⟨q6, eq6, hE⟩ := Option.bind_eq_some_iff.mp hE
        obtain ⟨c7, s8, hN, ecc7, ess8⟩ := x_add.spec hE
        clear hE; have hE := hN; clear hN
        refine y_cVi1 (st := []) (as := [.int v3]) (c_X7_worthOf (eq6.trans (show some q6 = some ((q6.1.1, q6.1.2), q6.2.1, q6.2.2) from rfl))) lk_X7_334 in_X7_worthOf se_X7_worthOf rfl eu5 ⟨Nat.le_of_ble_eq_true rfl, Nat.le_of_ble_eq_true rfl⟩ (Nat.le_of_ble_eq_true rfl) dX7_spare_27 ⟨by omega, by omega⟩ rfl ?_
        refine y_istore (ls' := [(4, .int q6.1.1), (0, .ref v0), (1, .int v1), (2, .int v2), (3, .int v3)]) dX7_spare_30 (by decide) rfl rfl ?_
        refine y_iload_n dX7_spare_32 2 rfl ?_
        refine y_iconst (v := (-1 : Int32)) dX7_spare_33 (by decide) ?_
        refine y_icmp_eq (tgt := 43) dX7_spare_34 (by decide) (fun hc13 => ?_) (fun hc13 => ?_)
        · rw [if_pos hc13] at hE
          refine y_iload_n dX7_spare_43 4 rfl ?_
          refine y_istore_n (ls' := [(1, .int v3), (4, .int q6.1.1), (0, .ref v0), (2, .int v2), (3, .int v3)]) dX7_spare_44 (by decide) rfl rfl ?_
          refine y_iload dX7_spare_45 1 rfl ?_
          refine y_istore_n (ls' := [(2, .int q6.1.1), (1, .int v3), (4, .int q6.1.1), (0, .ref v0), (3, .int v3)]) dX7_spare_47 (by decide) rfl rfl ?_
          obtain ⟨x9, ex9, hE⟩ := Option.bind_eq_some_iff.mp hE
          refine y_iinc (ls' := [(3, .int x9), (2, .int q6.1.1), (1, .int v3), (4, .int q6.1.1), (0, .ref v0)]) dX7_spare_48 4 rfl (Option.some.inj ex9) (by decide) rfl ?_
          refine y_goto (tgt := 6) dX7_spare_51 (by decide) ?_
          refine y_pick [4, 2, 1, 0] rfl ?_
          exact ih _ _ _ _ _ _ _ _ _ hE (by omega) (by omega) hm K
        · rw [if_neg hc13] at hE
          refine y_iload dX7_spare_37 0 rfl ?_
          refine y_iload_n dX7_spare_39 3 rfl ?_
          refine y_icmp_ge (tgt := 48) dX7_spare_40 (by decide) (fun hc12 => ?_) (fun hc12 => ?_)
          · rw [if_pos hc12] at hE
            obtain ⟨x10, ex10, hE⟩ := Option.bind_eq_some_iff.mp hE
            refine y_iinc (ls' := [(3, .int x10), (4, .int q6.1.1), (0, .ref v0), (1, .int v1), (2, .int v2)]) dX7_spare_48 4 rfl (Option.some.inj ex10) (by decide) rfl ?_
            refine y_goto (tgt := 6) dX7_spare_51 (by decide) ?_
            refine y_pick [2, 3, 4, 0] rfl ?_
            exact ih _ _ _ _ _ _ _ _ _ hE (by omega) (by omega) hm K
          · rw [if_neg hc12] at hE
            refine y_iload_n dX7_spare_43 4 rfl ?_
            refine y_istore_n (ls' := [(1, .int v3), (4, .int q6.1.1), (0, .ref v0), (2, .int v2), (3, .int v3)]) dX7_spare_44 (by decide) rfl rfl ?_
            refine y_iload dX7_spare_45 1 rfl ?_
            refine y_istore_n (ls' := [(2, .int q6.1.1), (1, .int v3), (4, .int q6.1.1), (0, .ref v0), (3, .int v3)]) dX7_spare_47 (by decide) rfl rfl ?_
            obtain ⟨x11, ex11, hE⟩ := Option.bind_eq_some_iff.mp hE
            refine y_iinc (ls' := [(3, .int x11), (2, .int q6.1.1), (1, .int v3), (4, .int q6.1.1), (0, .ref v0)]) dX7_spare_48 4 rfl (Option.some.inj ex11) (by decide) rfl ?_
            refine y_goto (tgt := 6) dX7_spare_51 (by decide) ?_
            refine y_pick [4, 2, 1, 0] rfl ?_
            exact ih _ _ _ _ _ _ _ _ _ hE (by omega) (by omega) hm K
def f_X7_spare (n : Nat) (h : xH) (a0 : Nat) : Option ((Int32 × xH) × Nat × Nat) :=
  (f_X7_spare_L6 n a0 n (-1 : Int32) (0 : Int32) (0 : Int32) h).bind fun q16 =>
  x_add q16.2.1 q16.2.2 <|
  if q16.1.1 = (-1 : Int32) then
    (x_ob q16.1.2 a0 7).bind fun u19 =>
    (f_X7_refuse q16.1.2 a0 (-5 : Int32)).bind fun q20 =>
    some ((q20.1, q20.2), 0, 0)
  else
    some ((q16.1.1, q16.1.2), 0, 0)
set_option maxRecDepth 100000 in
set_option maxHeartbeats 4000000 in
theorem c_X7_spare {n : Nat} {h : xH} {a0 : Nat} {r9 : Int32} {hz : xH} {c9 s9 : Nat} (hE : f_X7_spare n h a0 = some ((r9, hz), c9, s9)) : Ctr M_X7_spare [.ref a0] h (some (.int r9)) hz c9 s9 := by
  refine ctr_of (by decide) (fun _ _ => Nat.le_of_ble_eq_true rfl) (fun S => ?_)
  show Y S M_X7_spare h (some (.int r9)) hz c9 s9 0 [(0, .ref a0)] [] h 0 0
  unfold f_X7_spare at hE
  refine y_iconst (v := (-1 : Int32)) dX7_spare_0 (by decide) ?_
  refine y_istore_n (ls' := [(1, .int (-1 : Int32)), (0, .ref a0)]) dX7_spare_1 (by decide) rfl rfl ?_
  refine y_iconst (v := (0 : Int32)) dX7_spare_2 (by decide) ?_
  refine y_istore_n (ls' := [(2, .int (0 : Int32)), (1, .int (-1 : Int32)), (0, .ref a0)]) dX7_spare_3 (by decide) rfl rfl ?_
  refine y_iconst (v := (0 : Int32)) dX7_spare_4 (by decide) ?_
  refine y_istore_n (ls' := [(3, .int (0 : Int32)), (2, .int (0 : Int32)), (1, .int (-1 : Int32)), (0, .ref a0)]) dX7_spare_5 (by decide) rfl rfl ?_
  obtain ⟨q16, eq16, hE⟩ := Option.bind_eq_some_iff.mp hE
  obtain ⟨c17, s18, hN, ecc17, ess18⟩ := x_add.spec hE
  clear hE; have hE := hN; clear hN
  refine y_pick [3, 2, 1, 0] rfl ?_
  refine l_X7_spare_6 (S := S) n a0 n (-1 : Int32) (0 : Int32) (0 : Int32) h _ _ _ _ _ (eq16.trans (show some q16 = some (q16.1, q16.2.1, q16.2.2) from rfl)) rfl rfl ⟨by omega, by omega⟩ (fun r8 hr8 => ?_)
  subst hr8
  refine y_iload_n dX7_spare_54 1 rfl ?_
  refine y_iconst (v := (-1 : Int32)) dX7_spare_55 (by decide) ?_
  refine y_icmp_ne (tgt := 68) dX7_spare_56 (by decide) (fun hc21 => ?_) (fun hc21 => ?_)
  · rw [if_pos hc21] at hE
    refine y_aload_n dX7_spare_59 0 rfl ?_
    refine y_bipush (v := (-5 : Int32)) dX7_spare_60 (by decide) ?_
    obtain ⟨u19, eu19, hE⟩ := Option.bind_eq_some_iff.mp hE
    obtain ⟨q20, eq20, hE⟩ := Option.bind_eq_some_iff.mp hE
    refine y_cVi0 (st := []) (as := [.int (-5 : Int32)]) (c_X7_refuse eq20) lk_X7_77 in_X7_refuse se_X7_refuse rfl eu19 ⟨Nat.le_of_ble_eq_true rfl, Nat.le_of_ble_eq_true rfl⟩ (Nat.le_of_ble_eq_true rfl) dX7_spare_62 ⟨by omega, by omega⟩ rfl ?_
    refine y_goto (tgt := 69) dX7_spare_65 (by decide) ?_
    obtain ⟨rfl, rfl, rfl, rfl⟩ := x_inj4 hE
    exact y_ret dX7_spare_69 (by omega) (by omega) ⟨_, rfl, rfl⟩
  · rw [if_neg hc21] at hE
    refine y_iload_n dX7_spare_68 1 rfl ?_
    obtain ⟨rfl, rfl, rfl, rfl⟩ := x_inj4 hE
    exact y_ret dX7_spare_69 (by omega) (by omega) ⟨_, rfl, rfl⟩
def f_X7_endless_L4 (n : Nat) (v0 : Nat) : Nat → Int32 → Int32 → xH → Option ((Int32 × xH) × Nat × Nat)
  | 0, _, _, _ => none
  | k + 1, v1, v2, h =>
    if (4 : Int32) < v2 then
      some ((v1, h), 0, 0)
    else
      (x_ob h v0 7).bind fun u1 =>
      (f_X7_lastsBy n h v0 v2 (0 : Int32)).bind fun q2 =>
      x_add q2.2.1 q2.2.2 <|
      if q2.1.1 = (99 : Int32) then
        (some (v1 ||| (i_shl (1 : Int32) v2))).bind fun x5 =>
        (some (v2 + (1 : Int32))).bind fun x6 =>
        f_X7_endless_L4 n v0 k x5 x6 q2.1.2
      else
        (some (v1 ||| (0 : Int32))).bind fun x7 =>
        (some (v2 + (1 : Int32))).bind fun x8 =>
        f_X7_endless_L4 n v0 k x7 x8 q2.1.2
set_option maxRecDepth 100000 in
set_option maxHeartbeats 4000000 in
theorem l_X7_endless_4 {S : Nat × (Nat → Int32)} {rv : Option Value} {h0 h1 : xH} {mc ms : Nat} {tc ts : Nat} (n : Nat) (v0 : Nat) : ∀ (k : Nat) (v1 : Int32) (v2 : Int32) (h : xH) (res : Int32 × xH) (c9 s9 cells slots : Nat), f_X7_endless_L4 n v0 k v1 v2 h = some (res, c9, s9) → cells + c9 = tc → slots + s9 = ts → (tc ≤ mc ∧ ts ≤ ms) → (∀ r9, res = r9 → Y S M_X7_endless h0 rv h1 mc ms 36 [(1, .int r9.1)] [] r9.2 tc ts) → Y S M_X7_endless h0 rv h1 mc ms 4 [(0, .ref v0), (1, .int v1), (2, .int v2)] [] h cells slots := by
  intro k
  induction k with
  | zero =>
    intro _ _ _ _ _ _ _ _ hE
    cases hE
  | succ k ih =>
    intro v1 v2 h res c9 s9 cells slots hE hc9 hs9 hm K
    unfold f_X7_endless_L4 at hE
    refine y_iload_n dX7_endless_4 2 rfl ?_
    refine y_iconst (v := (4 : Int32)) dX7_endless_5 (by decide) ?_
    refine y_icmp_gt (tgt := 36) dX7_endless_6 (by decide) (fun hc10 => ?_) (fun hc10 => ?_)
    · rw [if_pos hc10] at hE
      obtain ⟨rfl, rfl, rfl⟩ := x_inj3 hE
      refine y_cnt (c2 := tc) (s2 := ts) (by omega) (by omega) ?_
      exact y_pick [1] rfl (K _ rfl)
    · rw [if_neg hc10] at hE
      refine y_iload_n dX7_endless_9 1 rfl ?_
      refine y_aload_n dX7_endless_10 0 rfl ?_
      refine y_iload_n dX7_endless_11 2 rfl ?_
      refine y_iconst (v := (0 : Int32)) dX7_endless_12 (by decide) ?_
      obtain ⟨u1, eu1, hE⟩ := Option.bind_eq_some_iff.mp hE
      obtain ⟨q2, eq2, hE⟩ := Option.bind_eq_some_iff.mp hE
      obtain ⟨c3, s4, hN, ecc3, ess4⟩ := x_add.spec hE
      clear hE; have hE := hN; clear hN
      refine y_cVi1 (st := [.int v1]) (as := [.int v2, .int (0 : Int32)]) (c_X7_lastsBy (eq2.trans (show some q2 = some ((q2.1.1, q2.1.2), q2.2.1, q2.2.2) from rfl))) lk_X7_330 in_X7_lastsBy se_X7_lastsBy rfl eu1 ⟨Nat.le_of_ble_eq_true rfl, Nat.le_of_ble_eq_true rfl⟩ (Nat.le_of_ble_eq_true rfl) dX7_endless_13 ⟨by omega, by omega⟩ rfl ?_
      refine y_bipush (v := (99 : Int32)) dX7_endless_16 (by decide) ?_
      refine y_icmp_ne (tgt := 27) dX7_endless_18 (by decide) (fun hc9 => ?_) (fun hc9 => ?_)
      · rw [if_pos hc9] at hE
        refine y_iconst (v := (1 : Int32)) dX7_endless_21 (by decide) ?_
        refine y_iload_n dX7_endless_22 2 rfl ?_
        refine y_ishl dX7_endless_23 ?_
        refine y_goto (tgt := 28) dX7_endless_24 (by decide) ?_
        refine y_ior dX7_endless_28 ?_
        obtain ⟨x5, ex5, hE⟩ := Option.bind_eq_some_iff.mp hE
        refine y_istore_n (ls' := [(1, .int x5), (0, .ref v0), (2, .int v2)]) dX7_endless_29 (by decide) (Option.some.inj ex5) rfl ?_
        obtain ⟨x6, ex6, hE⟩ := Option.bind_eq_some_iff.mp hE
        refine y_iinc (ls' := [(2, .int x6), (1, .int x5), (0, .ref v0)]) dX7_endless_30 2 rfl (Option.some.inj ex6) (by decide) rfl ?_
        refine y_goto (tgt := 4) dX7_endless_33 (by decide) ?_
        refine y_pick [2, 1, 0] rfl ?_
        exact ih _ _ _ _ _ _ _ _ hE (by omega) (by omega) hm K
      · rw [if_neg hc9] at hE
        refine y_iconst (v := (0 : Int32)) dX7_endless_27 (by decide) ?_
        refine y_ior dX7_endless_28 ?_
        obtain ⟨x7, ex7, hE⟩ := Option.bind_eq_some_iff.mp hE
        refine y_istore_n (ls' := [(1, .int x7), (0, .ref v0), (2, .int v2)]) dX7_endless_29 (by decide) (Option.some.inj ex7) rfl ?_
        obtain ⟨x8, ex8, hE⟩ := Option.bind_eq_some_iff.mp hE
        refine y_iinc (ls' := [(2, .int x8), (1, .int x7), (0, .ref v0)]) dX7_endless_30 2 rfl (Option.some.inj ex8) (by decide) rfl ?_
        refine y_goto (tgt := 4) dX7_endless_33 (by decide) ?_
        refine y_pick [2, 1, 0] rfl ?_
        exact ih _ _ _ _ _ _ _ _ hE (by omega) (by omega) hm K
def f_X7_endless (n : Nat) (h : xH) (a0 : Nat) : Option ((Int32 × xH) × Nat × Nat) :=
  (f_X7_endless_L4 n a0 n (0 : Int32) (1 : Int32) h).bind fun q11 =>
  x_add q11.2.1 q11.2.2 <|
  some ((q11.1.1, q11.1.2), 0, 0)
set_option maxRecDepth 100000 in
set_option maxHeartbeats 4000000 in
theorem c_X7_endless {n : Nat} {h : xH} {a0 : Nat} {r9 : Int32} {hz : xH} {c9 s9 : Nat} (hE : f_X7_endless n h a0 = some ((r9, hz), c9, s9)) : Ctr M_X7_endless [.ref a0] h (some (.int r9)) hz c9 s9 := by
  refine ctr_of (by decide) (fun _ _ => Nat.le_of_ble_eq_true rfl) (fun S => ?_)
  show Y S M_X7_endless h (some (.int r9)) hz c9 s9 0 [(0, .ref a0)] [] h 0 0
  unfold f_X7_endless at hE
  refine y_iconst (v := (0 : Int32)) dX7_endless_0 (by decide) ?_
  refine y_istore_n (ls' := [(1, .int (0 : Int32)), (0, .ref a0)]) dX7_endless_1 (by decide) rfl rfl ?_
  refine y_iconst (v := (1 : Int32)) dX7_endless_2 (by decide) ?_
  refine y_istore_n (ls' := [(2, .int (1 : Int32)), (1, .int (0 : Int32)), (0, .ref a0)]) dX7_endless_3 (by decide) rfl rfl ?_
  obtain ⟨q11, eq11, hE⟩ := Option.bind_eq_some_iff.mp hE
  obtain ⟨c12, s13, hN, ecc12, ess13⟩ := x_add.spec hE
  clear hE; have hE := hN; clear hN
  refine y_pick [2, 1, 0] rfl ?_
  refine l_X7_endless_4 (S := S) n a0 n (0 : Int32) (1 : Int32) h _ _ _ _ _ (eq11.trans (show some q11 = some (q11.1, q11.2.1, q11.2.2) from rfl)) rfl rfl ⟨by omega, by omega⟩ (fun r8 hr8 => ?_)
  subst hr8
  refine y_iload_n dX7_endless_36 0 rfl ?_
  obtain ⟨rfl, rfl, rfl, rfl⟩ := x_inj4 hE
  exact y_ret dX7_endless_37 (by omega) (by omega) ⟨_, rfl, rfl⟩
def f_X7_boxes_L21 (n : Nat) (v0 : Nat) (v1 : Int32) : Nat → Int32 → xH → Option ((Sum (Int32 × xH) (xH)) × Nat × Nat)
  | 0, _, _ => none
  | k + 1, v2, h =>
    if (20 : Int32) < v2 then
      some ((.inr h), 0, 0)
    else
      (x_gI h v0 7 14).bind fun x4 =>
      (x_ob h v0 7).bind fun u5 =>
      (f_X7_lastsBy n h v0 x4 v2).bind fun q6 =>
      x_add q6.2.1 q6.2.2 <|
      if q6.1.1 < v1 then
        (some (v2 + (1 : Int32))).bind fun x9 =>
        f_X7_boxes_L21 n v0 v1 k x9 q6.1.2
      else
        some ((.inl (v2, q6.1.2)), 0, 0)
set_option maxRecDepth 100000 in
set_option maxHeartbeats 4000000 in
theorem l_X7_boxes_21 {S : Nat × (Nat → Int32)} {rv : Option Value} {h0 h1 : xH} {mc ms : Nat} {tc ts : Nat} (n : Nat) (v0 : Nat) (v1 : Int32) : ∀ (k : Nat) (v2 : Int32) (h : xH) (res : Sum (Int32 × xH) (xH)) (c9 s9 cells slots : Nat), f_X7_boxes_L21 n v0 v1 k v2 h = some (res, c9, s9) → cells + c9 = tc → slots + s9 = ts → (tc ≤ mc ∧ ts ≤ ms) → (∀ r9, res = .inl r9 → rv = some (.int r9.1) ∧ h1 = r9.2) → (∀ r9, res = .inr r9 → Y S M_X7_boxes h0 rv h1 mc ms 48 [] [] r9 tc ts) → Y S M_X7_boxes h0 rv h1 mc ms 21 [(0, .ref v0), (1, .int v1), (2, .int v2)] [] h cells slots := by
  intro k
  induction k with
  | zero =>
    intro _ _ _ _ _ _ _ hE
    cases hE
  | succ k ih =>
    intro v2 h res c9 s9 cells slots hE hc9 hs9 hm KR K
    unfold f_X7_boxes_L21 at hE
    refine y_iload_n dX7_boxes_21 2 rfl ?_
    refine y_bipush (v := (20 : Int32)) dX7_boxes_22 (by decide) ?_
    refine y_icmp_gt (tgt := 48) dX7_boxes_24 (by decide) (fun hc11 => ?_) (fun hc11 => ?_)
    · rw [if_pos hc11] at hE
      obtain ⟨rfl, rfl, rfl⟩ := x_inj3 hE
      refine y_cnt (c2 := tc) (s2 := ts) (by omega) (by omega) ?_
      exact y_pick [] rfl (K _ rfl)
    · rw [if_neg hc11] at hE
      refine y_aload_n dX7_boxes_27 0 rfl ?_
      refine y_aload_n dX7_boxes_28 0 rfl ?_
      obtain ⟨x4, ex4, hE⟩ := Option.bind_eq_some_iff.mp hE
      refine y_getI fl_X7_45 ex4 dX7_boxes_29 ?_
      refine y_iload_n dX7_boxes_32 2 rfl ?_
      obtain ⟨u5, eu5, hE⟩ := Option.bind_eq_some_iff.mp hE
      obtain ⟨q6, eq6, hE⟩ := Option.bind_eq_some_iff.mp hE
      obtain ⟨c7, s8, hN, ecc7, ess8⟩ := x_add.spec hE
      clear hE; have hE := hN; clear hN
      refine y_cVi1 (st := []) (as := [.int x4, .int v2]) (c_X7_lastsBy (eq6.trans (show some q6 = some ((q6.1.1, q6.1.2), q6.2.1, q6.2.2) from rfl))) lk_X7_330 in_X7_lastsBy se_X7_lastsBy rfl eu5 ⟨Nat.le_of_ble_eq_true rfl, Nat.le_of_ble_eq_true rfl⟩ (Nat.le_of_ble_eq_true rfl) dX7_boxes_33 ⟨by omega, by omega⟩ rfl ?_
      refine y_iload_n dX7_boxes_36 1 rfl ?_
      refine y_icmp_lt (tgt := 42) dX7_boxes_37 (by decide) (fun hc10 => ?_) (fun hc10 => ?_)
      · rw [if_pos hc10] at hE
        obtain ⟨x9, ex9, hE⟩ := Option.bind_eq_some_iff.mp hE
        refine y_iinc (ls' := [(2, .int x9), (0, .ref v0), (1, .int v1)]) dX7_boxes_42 2 rfl (Option.some.inj ex9) (by decide) rfl ?_
        refine y_goto (tgt := 21) dX7_boxes_45 (by decide) ?_
        refine y_pick [1, 2, 0] rfl ?_
        exact ih _ _ _ _ _ _ _ hE (by omega) (by omega) hm KR K
      · rw [if_neg hc10] at hE
        refine y_iload_n dX7_boxes_40 2 rfl ?_
        obtain ⟨rfl, rfl, rfl⟩ := x_inj3 hE
        obtain ⟨rfl, rfl⟩ := KR _ rfl
        dsimp only
        exact y_ret dX7_boxes_41 (by omega) (by omega) ⟨_, rfl, rfl⟩
def f_X7_boxes (n : Nat) (h : xH) (a0 : Nat) (p1 : Int32) : Option ((Int32 × xH) × Nat × Nat) :=
  (f_X7_in h p1.toInt64 (1 : Int64) (98 : Int64)).bind fun q1 =>
  if q1 = 0 then
    (x_ob h a0 7).bind fun u2 =>
    (f_X7_refuse h a0 (-2 : Int32)).bind fun q3 =>
    some ((q3.1, q3.2), 0, 0)
  else
    (f_X7_boxes_L21 n a0 p1 n (0 : Int32) h).bind fun q12 =>
    x_add q12.2.1 q12.2.2 <|
    match q12.1 with
    | .inl r15 => some (r15, 0, 0)
    | .inr e16 =>
      some (((-1 : Int32), e16), 0, 0)
set_option maxRecDepth 100000 in
set_option maxHeartbeats 4000000 in
theorem c_X7_boxes {n : Nat} {h : xH} {a0 : Nat} {p1 : Int32} {r9 : Int32} {hz : xH} {c9 s9 : Nat} (hE : f_X7_boxes n h a0 p1 = some ((r9, hz), c9, s9)) : Ctr M_X7_boxes [.ref a0, .int p1] h (some (.int r9)) hz c9 s9 := by
  refine ctr_of (by decide) (fun _ _ => Nat.le_of_ble_eq_true rfl) (fun S => ?_)
  show Y S M_X7_boxes h (some (.int r9)) hz c9 s9 0 [(0, .ref a0), (1, .int p1)] [] h 0 0
  unfold f_X7_boxes at hE
  refine y_iload_n dX7_boxes_0 1 rfl ?_
  refine y_i2l dX7_boxes_1 ?_
  refine y_lconst (v := (1 : Int64)) dX7_boxes_2 (by decide) ?_
  refine y_ldc2 (v := (98 : Int64)) (x_wt (tb 1409 (by decide +kernel)) rfl) dX7_boxes_3 ?_
  obtain ⟨q1, eq1, hE⟩ := Option.bind_eq_some_iff.mp hE
  refine y_cSi0 (st := []) (as := [.long p1.toInt64, .long (1 : Int64), .long (98 : Int64)]) (c_X7_in eq1) lk_X7_64 st_X7_in ⟨Nat.le_of_ble_eq_true rfl, Nat.le_of_ble_eq_true rfl⟩ (Nat.le_of_ble_eq_true rfl) dX7_boxes_6 ⟨by omega, by omega⟩ rfl ?_
  refine y_if_ne (tgt := 19) dX7_boxes_9 (by decide) (fun hc17 => ?_) (fun hc17 => ?_)
  · rw [if_pos hc17] at hE
    refine y_aload_n dX7_boxes_12 0 rfl ?_
    refine y_bipush (v := (-2 : Int32)) dX7_boxes_13 (by decide) ?_
    obtain ⟨u2, eu2, hE⟩ := Option.bind_eq_some_iff.mp hE
    obtain ⟨q3, eq3, hE⟩ := Option.bind_eq_some_iff.mp hE
    refine y_cVi0 (st := []) (as := [.int (-2 : Int32)]) (c_X7_refuse eq3) lk_X7_77 in_X7_refuse se_X7_refuse rfl eu2 ⟨Nat.le_of_ble_eq_true rfl, Nat.le_of_ble_eq_true rfl⟩ (Nat.le_of_ble_eq_true rfl) dX7_boxes_15 ⟨by omega, by omega⟩ rfl ?_
    obtain ⟨rfl, rfl, rfl, rfl⟩ := x_inj4 hE
    exact y_ret dX7_boxes_18 (by omega) (by omega) ⟨_, rfl, rfl⟩
  · rw [if_neg hc17] at hE
    refine y_iconst (v := (0 : Int32)) dX7_boxes_19 (by decide) ?_
    refine y_istore_n (ls' := [(2, .int (0 : Int32)), (0, .ref a0), (1, .int p1)]) dX7_boxes_20 (by decide) rfl rfl ?_
    obtain ⟨⟨q12_1, q12_c, q12_s⟩, eq12, hE⟩ := Option.bind_eq_some_iff.mp hE
    dsimp only at hE
    obtain ⟨c13, s14, hN, ecc13, ess14⟩ := x_add.spec hE
    clear hE; have hE := hN; clear hN
    refine y_pick [1, 2, 0] rfl ?_
    cases q12_1 with
    | inl r15 =>
      dsimp only at hE
      cases hE
      exact l_X7_boxes_21 (S := S) n a0 p1 n (0 : Int32) h _ _ _ _ _ eq12 rfl rfl ⟨by omega, by omega⟩ (fun r8 hr8 => by cases hr8; exact ⟨rfl, rfl⟩) (fun r8 hr8 => by cases hr8)
    | inr e16 =>
      dsimp only at hE
      refine l_X7_boxes_21 (S := S) n a0 p1 n (0 : Int32) h _ _ _ _ _ eq12 rfl rfl ⟨by omega, by omega⟩ (fun r8 hr8 => by cases hr8) (fun r8 hr8 => ?_)
      cases hr8
      refine y_iconst (v := (-1 : Int32)) dX7_boxes_48 (by decide) ?_
      obtain ⟨rfl, rfl, rfl, rfl⟩ := x_inj4 hE
      exact y_ret dX7_boxes_49 (by omega) (by omega) ⟨_, rfl, rfl⟩
def f_X7_does (n : Nat) (h : xH) (a0 : Nat) (p1 : Int64) : Option (Int32 × xH) :=
  (some ((p1 &&& (65535 : Int64)).toInt32)).bind fun x1 =>
  (some (((l_shr p1 (16 : Int32)) &&& (15 : Int64)).toInt32)).bind fun x2 =>
  (some (((l_shr p1 (20 : Int32)) &&& (3 : Int64)).toInt32)).bind fun x3 =>
  (some (((l_shr p1 (22 : Int32)) &&& (3 : Int64)).toInt32)).bind fun x4 =>
  if x4 = (3 : Int32) then
    some ((1 : Int32), h)
  else
    (x_ob h a0 7).bind fun u5 =>
    (f_X7_isDoor h a0 x2).bind fun q6 =>
    if q6 = 0 then
      some ((0 : Int32), h)
    else
      (x_ob h a0 7).bind fun u7 =>
      (f_X7_isOne h a0 x3).bind fun q8 =>
      if q8 = 0 then
        some ((0 : Int32), h)
      else
        if x4 = (0 : Int32) then
          (x_gR h a0 7 13).bind fun a9 =>
          (x_ld h a9 x3).bind fun x10 =>
          (x_ob h a0 7).bind fun u11 =>
          (f_X7_mayWalk h a0 x2 x10).bind fun q12 =>
          if q12 = 0 then
            some ((0 : Int32), h)
          else
            (x_gR h a0 7 13).bind fun a13 =>
            (x_gR h a0 7 13).bind fun a14 =>
            (x_ld h a14 x3).bind fun x15 =>
            (x_ob h a0 7).bind fun u16 =>
            (f_X7_beyond h a0 x2 x15).bind fun q17 =>
            (x_st h a13 x3 q17).bind fun h18 =>
            some ((1 : Int32), h18)
        else
        if x4 = (1 : Int32) then
          (x_ob h a0 7).bind fun u21 =>
          (f_X7_isSet h a0 x1).bind fun q22 =>
          if q22 = 0 then
            some ((0 : Int32), h)
          else
            (x_ob h a0 7).bind fun u23 =>
            (f_X7_mayOpenBy n h a0 x3 x2 x1).bind fun q24 =>
            if q24 = 0 then
              some ((0 : Int32), h)
            else
              (x_ob h a0 7).bind fun u25 =>
              (f_X7_opens h a0 x2 x1).bind fun q26 =>
              some ((1 : Int32), q26)
        else
        (x_gR h a0 7 13).bind fun a30 =>
        (x_ld h a30 x3).bind fun x31 =>
        (x_ob h a0 7).bind fun u32 =>
        (f_X7_mayShut h a0 x2 x31).bind fun q33 =>
        if q33 = 0 then
          some ((0 : Int32), h)
        else
          (x_gI h a0 7 11).bind fun x34 =>
          (x_put h a0 7 11 (.int (x34 &&& ((i_shl (1 : Int32) x2) ^^^ (-1 : Int32))))).bind fun h35 =>
          some ((1 : Int32), h35)
set_option maxRecDepth 100000 in
set_option maxHeartbeats 4000000 in
theorem c_X7_does {n : Nat} {h : xH} {a0 : Nat} {p1 : Int64} {r9 : Int32} {hz : xH} (hE : f_X7_does n h a0 p1 = some (r9, hz)) : Ctr M_X7_does [.ref a0, .long p1] h (some (.int r9)) hz 0 0 := by
  refine ctr_of (by decide) (fun _ _ => Nat.le_of_ble_eq_true rfl) (fun S => ?_)
  show Y S M_X7_does h (some (.int r9)) hz 0 0 0 [(0, .ref a0), (1, .long p1)] [] h 0 0
  unfold f_X7_does at hE
  refine y_lload_n dX7_does_0 1 rfl ?_
  refine y_ldc2 (v := (65535 : Int64)) (x_wt (tb 1422 (by decide +kernel)) rfl) dX7_does_1 ?_
  refine y_land dX7_does_4 ?_
  refine y_l2i dX7_does_5 ?_
  obtain ⟨x1, ex1, hE⟩ := Option.bind_eq_some_iff.mp hE
  refine y_istore_n (ls' := [(3, .int x1), (0, .ref a0), (1, .long p1)]) dX7_does_6 (by decide) (Option.some.inj ex1) rfl ?_
  refine y_lload_n dX7_does_7 2 rfl ?_
  refine y_bipush (v := (16 : Int32)) dX7_does_8 (by decide) ?_
  refine y_lshr dX7_does_10 ?_
  refine y_ldc2 (v := (15 : Int64)) (x_wt (tb 1423 (by decide +kernel)) rfl) dX7_does_11 ?_
  refine y_land dX7_does_14 ?_
  refine y_l2i dX7_does_15 ?_
  obtain ⟨x2, ex2, hE⟩ := Option.bind_eq_some_iff.mp hE
  refine y_istore (ls' := [(4, .int x2), (3, .int x1), (0, .ref a0), (1, .long p1)]) dX7_does_16 (by decide) (Option.some.inj ex2) rfl ?_
  refine y_lload_n dX7_does_18 3 rfl ?_
  refine y_bipush (v := (20 : Int32)) dX7_does_19 (by decide) ?_
  refine y_lshr dX7_does_21 ?_
  refine y_ldc2 (v := (3 : Int64)) (x_wt (tb 1424 (by decide +kernel)) rfl) dX7_does_22 ?_
  refine y_land dX7_does_25 ?_
  refine y_l2i dX7_does_26 ?_
  obtain ⟨x3, ex3, hE⟩ := Option.bind_eq_some_iff.mp hE
  refine y_istore (ls' := [(5, .int x3), (4, .int x2), (3, .int x1), (0, .ref a0), (1, .long p1)]) dX7_does_27 (by decide) (Option.some.inj ex3) rfl ?_
  refine y_lload_n dX7_does_29 4 rfl ?_
  refine y_bipush (v := (22 : Int32)) dX7_does_30 (by decide) ?_
  refine y_lshr dX7_does_32 ?_
  refine y_ldc2 (v := (3 : Int64)) (x_wt (tb 1424 (by decide +kernel)) rfl) dX7_does_33 ?_
  refine y_land dX7_does_36 ?_
  refine y_l2i dX7_does_37 ?_
  obtain ⟨x4, ex4, hE⟩ := Option.bind_eq_some_iff.mp hE
  refine y_istore (ls' := [(6, .int x4), (5, .int x3), (4, .int x2), (3, .int x1), (0, .ref a0), (1, .long p1)]) dX7_does_38 (by decide) (Option.some.inj ex4) rfl ?_
  refine y_iload dX7_does_40 0 rfl ?_
  refine y_iconst (v := (3 : Int32)) dX7_does_42 (by decide) ?_
  refine y_icmp_ne (tgt := 48) dX7_does_43 (by decide) (fun hc39 => ?_) (fun hc39 => ?_)
  · rw [if_pos hc39] at hE
    refine y_iconst (v := (1 : Int32)) dX7_does_46 (by decide) ?_
    obtain ⟨rfl, rfl⟩ := x_inj2 hE
    exact y_ret dX7_does_47 (Nat.le_refl _) (Nat.le_refl _) ⟨_, rfl, rfl⟩
  · rw [if_neg hc39] at hE
    refine y_aload_n dX7_does_48 4 rfl ?_
    refine y_iload dX7_does_49 2 rfl ?_
    obtain ⟨u5, eu5, hE⟩ := Option.bind_eq_some_iff.mp hE
    obtain ⟨q6, eq6, hE⟩ := Option.bind_eq_some_iff.mp hE
    refine y_cVi0 (st := []) (as := [.int x2]) (c_X7_isDoor eq6) lk_X7_88 in_X7_isDoor se_X7_isDoor rfl eu5 ⟨Nat.le_of_ble_eq_true rfl, Nat.le_of_ble_eq_true rfl⟩ (Nat.le_of_ble_eq_true rfl) dX7_does_51 ⟨Nat.le_refl _, Nat.le_refl _⟩ rfl ?_
    refine y_if_eq (tgt := 66) dX7_does_54 (by decide) (fun hc38 => ?_) (fun hc38 => ?_)
    · rw [if_pos hc38] at hE
      refine y_iconst (v := (0 : Int32)) dX7_does_66 (by decide) ?_
      obtain ⟨rfl, rfl⟩ := x_inj2 hE
      exact y_ret dX7_does_67 (Nat.le_refl _) (Nat.le_refl _) ⟨_, rfl, rfl⟩
    · rw [if_neg hc38] at hE
      refine y_aload_n dX7_does_57 4 rfl ?_
      refine y_iload dX7_does_58 1 rfl ?_
      obtain ⟨u7, eu7, hE⟩ := Option.bind_eq_some_iff.mp hE
      obtain ⟨q8, eq8, hE⟩ := Option.bind_eq_some_iff.mp hE
      refine y_cVi0 (st := []) (as := [.int x3]) (c_X7_isOne eq8) lk_X7_120 in_X7_isOne se_X7_isOne rfl eu7 ⟨Nat.le_of_ble_eq_true rfl, Nat.le_of_ble_eq_true rfl⟩ (Nat.le_of_ble_eq_true rfl) dX7_does_60 ⟨Nat.le_refl _, Nat.le_refl _⟩ rfl ?_
      refine y_if_ne (tgt := 68) dX7_does_63 (by decide) (fun hc37 => ?_) (fun hc37 => ?_)
      · rw [if_pos hc37] at hE
        refine y_iconst (v := (0 : Int32)) dX7_does_66 (by decide) ?_
        obtain ⟨rfl, rfl⟩ := x_inj2 hE
        exact y_ret dX7_does_67 (Nat.le_refl _) (Nat.le_refl _) ⟨_, rfl, rfl⟩
      · rw [if_neg hc37] at hE
        refine y_iload dX7_does_68 0 rfl ?_
        by_cases hc20 : x4 = (0 : Int32)
        · rw [if_pos hc20] at hE
          have hk := hc20
          refine y_lookup (off := 26) (tgt := 96) dX7_does_70 (by decide) (by rw [hk]; try rfl) (by decide) ?_
          refine y_aload_n dX7_does_96 4 rfl ?_
          refine y_iload dX7_does_97 2 rfl ?_
          refine y_aload_n dX7_does_99 4 rfl ?_
          obtain ⟨a9, ea9, hE⟩ := Option.bind_eq_some_iff.mp hE
          refine y_getR fl_X7_42 ea9 dX7_does_100 ?_
          refine y_iload dX7_does_103 1 rfl ?_
          obtain ⟨x10, ex10, hE⟩ := Option.bind_eq_some_iff.mp hE
          refine y_iald ex10 dX7_does_105 ?_
          obtain ⟨u11, eu11, hE⟩ := Option.bind_eq_some_iff.mp hE
          obtain ⟨q12, eq12, hE⟩ := Option.bind_eq_some_iff.mp hE
          refine y_cVi0 (st := []) (as := [.int x2, .int x10]) (c_X7_mayWalk eq12) lk_X7_230 in_X7_mayWalk se_X7_mayWalk rfl eu11 ⟨Nat.le_of_ble_eq_true rfl, Nat.le_of_ble_eq_true rfl⟩ (Nat.le_of_ble_eq_true rfl) dX7_does_106 ⟨Nat.le_refl _, Nat.le_refl _⟩ rfl ?_
          refine y_if_ne (tgt := 114) dX7_does_109 (by decide) (fun hc19 => ?_) (fun hc19 => ?_)
          · rw [if_pos hc19] at hE
            refine y_iconst (v := (0 : Int32)) dX7_does_112 (by decide) ?_
            obtain ⟨rfl, rfl⟩ := x_inj2 hE
            exact y_ret dX7_does_113 (Nat.le_refl _) (Nat.le_refl _) ⟨_, rfl, rfl⟩
          · rw [if_neg hc19] at hE
            refine y_aload_n dX7_does_114 4 rfl ?_
            obtain ⟨a13, ea13, hE⟩ := Option.bind_eq_some_iff.mp hE
            refine y_getR fl_X7_42 ea13 dX7_does_115 ?_
            refine y_iload dX7_does_118 1 rfl ?_
            refine y_aload_n dX7_does_120 4 rfl ?_
            refine y_iload dX7_does_121 2 rfl ?_
            refine y_aload_n dX7_does_123 4 rfl ?_
            obtain ⟨a14, ea14, hE⟩ := Option.bind_eq_some_iff.mp hE
            refine y_getR fl_X7_42 ea14 dX7_does_124 ?_
            refine y_iload dX7_does_127 1 rfl ?_
            obtain ⟨x15, ex15, hE⟩ := Option.bind_eq_some_iff.mp hE
            refine y_iald ex15 dX7_does_129 ?_
            obtain ⟨u16, eu16, hE⟩ := Option.bind_eq_some_iff.mp hE
            obtain ⟨q17, eq17, hE⟩ := Option.bind_eq_some_iff.mp hE
            refine y_cVi0 (st := [.int x3, .ref a13]) (as := [.int x2, .int x15]) (c_X7_beyond eq17) lk_X7_239 in_X7_beyond se_X7_beyond rfl eu16 ⟨Nat.le_of_ble_eq_true rfl, Nat.le_of_ble_eq_true rfl⟩ (Nat.le_of_ble_eq_true rfl) dX7_does_130 ⟨Nat.le_refl _, Nat.le_refl _⟩ rfl ?_
            obtain ⟨h18, eh18, hE⟩ := Option.bind_eq_some_iff.mp hE
            refine y_iast eh18 dX7_does_133 ?_
            refine y_iconst (v := (1 : Int32)) dX7_does_134 (by decide) ?_
            obtain ⟨rfl, rfl⟩ := x_inj2 hE
            exact y_ret dX7_does_135 (Nat.le_refl _) (Nat.le_refl _) ⟨_, rfl, rfl⟩
        · rw [if_neg hc20] at hE
          by_cases hc29 : x4 = (1 : Int32)
          · rw [if_pos hc29] at hE
            have hk := hc29
            refine y_lookup (off := 66) (tgt := 136) dX7_does_70 (by decide) (by rw [hk]; try rfl) (by decide) ?_
            refine y_aload_n dX7_does_136 4 rfl ?_
            refine y_iload_n dX7_does_137 3 rfl ?_
            obtain ⟨u21, eu21, hE⟩ := Option.bind_eq_some_iff.mp hE
            obtain ⟨q22, eq22, hE⟩ := Option.bind_eq_some_iff.mp hE
            refine y_cVi0 (st := []) (as := [.int x1]) (c_X7_isSet eq22) lk_X7_233 in_X7_isSet se_X7_isSet rfl eu21 ⟨Nat.le_of_ble_eq_true rfl, Nat.le_of_ble_eq_true rfl⟩ (Nat.le_of_ble_eq_true rfl) dX7_does_138 ⟨Nat.le_refl _, Nat.le_refl _⟩ rfl ?_
            refine y_if_eq (tgt := 156) dX7_does_141 (by decide) (fun hc28 => ?_) (fun hc28 => ?_)
            · rw [if_pos hc28] at hE
              refine y_iconst (v := (0 : Int32)) dX7_does_156 (by decide) ?_
              obtain ⟨rfl, rfl⟩ := x_inj2 hE
              exact y_ret dX7_does_157 (Nat.le_refl _) (Nat.le_refl _) ⟨_, rfl, rfl⟩
            · rw [if_neg hc28] at hE
              refine y_aload_n dX7_does_144 4 rfl ?_
              refine y_iload dX7_does_145 1 rfl ?_
              refine y_iload dX7_does_147 2 rfl ?_
              refine y_iload_n dX7_does_149 3 rfl ?_
              obtain ⟨u23, eu23, hE⟩ := Option.bind_eq_some_iff.mp hE
              obtain ⟨q24, eq24, hE⟩ := Option.bind_eq_some_iff.mp hE
              refine y_cVi0 (st := []) (as := [.int x3, .int x2, .int x1]) (c_X7_mayOpenBy eq24) lk_X7_236 in_X7_mayOpenBy se_X7_mayOpenBy rfl eu23 ⟨Nat.le_of_ble_eq_true rfl, Nat.le_of_ble_eq_true rfl⟩ (Nat.le_of_ble_eq_true rfl) dX7_does_150 ⟨Nat.le_refl _, Nat.le_refl _⟩ rfl ?_
              refine y_if_ne (tgt := 158) dX7_does_153 (by decide) (fun hc27 => ?_) (fun hc27 => ?_)
              · rw [if_pos hc27] at hE
                refine y_iconst (v := (0 : Int32)) dX7_does_156 (by decide) ?_
                obtain ⟨rfl, rfl⟩ := x_inj2 hE
                exact y_ret dX7_does_157 (Nat.le_refl _) (Nat.le_refl _) ⟨_, rfl, rfl⟩
              · rw [if_neg hc27] at hE
                refine y_aload_n dX7_does_158 4 rfl ?_
                refine y_iload dX7_does_159 2 rfl ?_
                refine y_iload_n dX7_does_161 3 rfl ?_
                obtain ⟨u25, eu25, hE⟩ := Option.bind_eq_some_iff.mp hE
                obtain ⟨q26, eq26, hE⟩ := Option.bind_eq_some_iff.mp hE
                refine y_cVv0 (st := []) (as := [.int x2, .int x1]) (c_X7_opens eq26) lk_X7_249 in_X7_opens se_X7_opens rfl eu25 ⟨Nat.le_of_ble_eq_true rfl, Nat.le_of_ble_eq_true rfl⟩ (Nat.le_of_ble_eq_true rfl) dX7_does_162 ⟨Nat.le_refl _, Nat.le_refl _⟩ rfl ?_
                refine y_iconst (v := (1 : Int32)) dX7_does_165 (by decide) ?_
                obtain ⟨rfl, rfl⟩ := x_inj2 hE
                exact y_ret dX7_does_166 (Nat.le_refl _) (Nat.le_refl _) ⟨_, rfl, rfl⟩
          · rw [if_neg hc29] at hE
            refine y_lookup (off := 97) (tgt := 167) dX7_does_70 (by decide) (by rw [lv_osw (hc20) (by decide), lv_osw (hc29) (by decide)]; try rfl) (by decide) ?_
            refine y_aload_n dX7_does_167 4 rfl ?_
            refine y_iload dX7_does_168 2 rfl ?_
            refine y_aload_n dX7_does_170 4 rfl ?_
            obtain ⟨a30, ea30, hE⟩ := Option.bind_eq_some_iff.mp hE
            refine y_getR fl_X7_42 ea30 dX7_does_171 ?_
            refine y_iload dX7_does_174 1 rfl ?_
            obtain ⟨x31, ex31, hE⟩ := Option.bind_eq_some_iff.mp hE
            refine y_iald ex31 dX7_does_176 ?_
            obtain ⟨u32, eu32, hE⟩ := Option.bind_eq_some_iff.mp hE
            obtain ⟨q33, eq33, hE⟩ := Option.bind_eq_some_iff.mp hE
            refine y_cVi0 (st := []) (as := [.int x2, .int x31]) (c_X7_mayShut eq33) lk_X7_213 in_X7_mayShut se_X7_mayShut rfl eu32 ⟨Nat.le_of_ble_eq_true rfl, Nat.le_of_ble_eq_true rfl⟩ (Nat.le_of_ble_eq_true rfl) dX7_does_177 ⟨Nat.le_refl _, Nat.le_refl _⟩ rfl ?_
            refine y_if_ne (tgt := 185) dX7_does_180 (by decide) (fun hc36 => ?_) (fun hc36 => ?_)
            · rw [if_pos hc36] at hE
              refine y_iconst (v := (0 : Int32)) dX7_does_183 (by decide) ?_
              obtain ⟨rfl, rfl⟩ := x_inj2 hE
              exact y_ret dX7_does_184 (Nat.le_refl _) (Nat.le_refl _) ⟨_, rfl, rfl⟩
            · rw [if_neg hc36] at hE
              refine y_aload_n dX7_does_185 4 rfl ?_
              refine y_dup dX7_does_186 rfl ?_
              obtain ⟨x34, ex34, hE⟩ := Option.bind_eq_some_iff.mp hE
              refine y_getI fl_X7_108 ex34 dX7_does_187 ?_
              refine y_iconst (v := (1 : Int32)) dX7_does_190 (by decide) ?_
              refine y_iload dX7_does_191 2 rfl ?_
              refine y_ishl dX7_does_193 ?_
              refine y_iconst (v := (-1 : Int32)) dX7_does_194 (by decide) ?_
              refine y_ixor dX7_does_195 ?_
              refine y_iand dX7_does_196 ?_
              obtain ⟨h35, eh35, hE⟩ := Option.bind_eq_some_iff.mp hE
              refine y_putI fp_X7_108 eh35 dX7_does_197 ?_
              refine y_iconst (v := (1 : Int32)) dX7_does_200 (by decide) ?_
              obtain ⟨rfl, rfl⟩ := x_inj2 hE
              exact y_ret dX7_does_201 (Nat.le_refl _) (Nat.le_refl _) ⟨_, rfl, rfl⟩
def f_X7_goThrough_L8 (n : Nat) (v0 : Nat) (v1 : Int32) (v2 : Int32) (v3 : Nat) : Nat → Int32 → xH → Option (Sum (Int32 × xH) (xH))
  | 0, _, _ => none
  | k + 1, v4, h =>
    if v2 ≤ v4 then
      some (.inr h)
    else
      (x_gR h v0 7 3).bind fun a5 =>
      (x_ldQ h a5 v1).bind fun a6 =>
      (x_ldL h a6 v4).bind fun x7 =>
      (x_ob h v3 7).bind fun u8 =>
      (f_X7_does n h v3 x7).bind fun q9 =>
      if q9.1 = 0 then
        some (.inl (v4, q9.2))
      else
        (some (v4 + (1 : Int32))).bind fun x10 =>
        f_X7_goThrough_L8 n v0 v1 v2 v3 k x10 q9.2
set_option maxRecDepth 100000 in
set_option maxHeartbeats 4000000 in
theorem l_X7_goThrough_8 {S : Nat × (Nat → Int32)} {rv : Option Value} {h0 h1 : xH} {mc ms : Nat} {cells slots : Nat} (hm : cells ≤ mc ∧ slots ≤ ms) (n : Nat) (v0 : Nat) (v1 : Int32) (v2 : Int32) (v3 : Nat) : ∀ (k : Nat) (v4 : Int32) (h : xH) (res : Sum (Int32 × xH) (xH)), f_X7_goThrough_L8 n v0 v1 v2 v3 k v4 h = some res → (∀ r9, res = .inl r9 → rv = some (.int r9.1) ∧ h1 = r9.2) → (∀ r9, res = .inr r9 → Y S M_X7_goThrough h0 rv h1 mc ms 39 [] [] r9 cells slots) → Y S M_X7_goThrough h0 rv h1 mc ms 8 [(0, .ref v0), (1, .int v1), (2, .int v2), (3, .ref v3), (4, .int v4)] [] h cells slots := by
  intro k
  induction k with
  | zero =>
    intro _ _ _ hE
    cases hE
  | succ k ih =>
    intro v4 h res hE KR K
    unfold f_X7_goThrough_L8 at hE
    refine y_iload dX7_goThrough_8 4 rfl ?_
    refine y_iload_n dX7_goThrough_10 2 rfl ?_
    refine y_icmp_ge (tgt := 39) dX7_goThrough_11 (by decide) (fun hc12 => ?_) (fun hc12 => ?_)
    · rw [if_pos hc12] at hE
      obtain rfl := Option.some.inj hE
      exact y_pick [] rfl (K _ rfl)
    · rw [if_neg hc12] at hE
      refine y_aload_n dX7_goThrough_14 3 rfl ?_
      refine y_aload_n dX7_goThrough_15 0 rfl ?_
      obtain ⟨a5, ea5, hE⟩ := Option.bind_eq_some_iff.mp hE
      refine y_getR fl_X7_21 ea5 dX7_goThrough_16 ?_
      refine y_iload_n dX7_goThrough_19 1 rfl ?_
      obtain ⟨a6, ea6, hE⟩ := Option.bind_eq_some_iff.mp hE
      refine y_aald ea6 dX7_goThrough_20 ?_
      refine y_iload dX7_goThrough_21 4 rfl ?_
      obtain ⟨x7, ex7, hE⟩ := Option.bind_eq_some_iff.mp hE
      refine y_lald ex7 dX7_goThrough_23 ?_
      obtain ⟨u8, eu8, hE⟩ := Option.bind_eq_some_iff.mp hE
      obtain ⟨q9, eq9, hE⟩ := Option.bind_eq_some_iff.mp hE
      refine y_cVi0 (st := []) (as := [.long x7]) (c_X7_does eq9) lk_X7_350 in_X7_does se_X7_does rfl eu8 ⟨Nat.le_of_ble_eq_true rfl, Nat.le_of_ble_eq_true rfl⟩ (Nat.le_of_ble_eq_true rfl) dX7_goThrough_24 hm rfl ?_
      refine y_if_ne (tgt := 33) dX7_goThrough_27 (by decide) (fun hc11 => ?_) (fun hc11 => ?_)
      · rw [if_pos hc11] at hE
        refine y_iload dX7_goThrough_30 4 rfl ?_
        obtain rfl := Option.some.inj hE
        obtain ⟨rfl, rfl⟩ := KR _ rfl
        dsimp only
        exact y_ret dX7_goThrough_32 hm.1 hm.2 ⟨_, rfl, rfl⟩
      · rw [if_neg hc11] at hE
        obtain ⟨x10, ex10, hE⟩ := Option.bind_eq_some_iff.mp hE
        refine y_iinc (ls' := [(4, .int x10), (0, .ref v0), (1, .int v1), (2, .int v2), (3, .ref v3)]) dX7_goThrough_33 4 rfl (Option.some.inj ex10) (by decide) rfl ?_
        refine y_goto (tgt := 8) dX7_goThrough_36 (by decide) ?_
        refine y_pick [1, 2, 3, 4, 0] rfl ?_
        exact ih _ _ _ hE KR K
def f_X7_goThrough (n : Nat) (h : xH) (a0 : Nat) (p1 : Int32) (p2 : Int32) : Option ((Int32 × xH) × Nat × Nat) :=
  (x_ob h a0 7).bind fun u1 =>
  (f_X7_fresh n h a0).bind fun q2 =>
  x_add q2.2.1 q2.2.2 <|
  (f_X7_goThrough_L8 n a0 p1 p2 q2.1.1 n (0 : Int32) q2.1.2).bind fun q13 =>
  match q13 with
  | .inl r14 => some (r14, 0, 0)
  | .inr e15 =>
    some (((-1 : Int32), e15), 0, 0)
set_option maxRecDepth 100000 in
set_option maxHeartbeats 4000000 in
theorem c_X7_goThrough {n : Nat} {h : xH} {a0 : Nat} {p1 : Int32} {p2 : Int32} {r9 : Int32} {hz : xH} {c9 s9 : Nat} (hE : f_X7_goThrough n h a0 p1 p2 = some ((r9, hz), c9, s9)) : Ctr M_X7_goThrough [.ref a0, .int p1, .int p2] h (some (.int r9)) hz c9 s9 := by
  refine ctr_of (by decide) (fun _ _ => Nat.le_of_ble_eq_true rfl) (fun S => ?_)
  show Y S M_X7_goThrough h (some (.int r9)) hz c9 s9 0 [(0, .ref a0), (1, .int p1), (2, .int p2)] [] h 0 0
  unfold f_X7_goThrough at hE
  refine y_aload_n dX7_goThrough_0 0 rfl ?_
  obtain ⟨u1, eu1, hE⟩ := Option.bind_eq_some_iff.mp hE
  obtain ⟨q2, eq2, hE⟩ := Option.bind_eq_some_iff.mp hE
  obtain ⟨c3, s4, hN, ecc3, ess4⟩ := x_add.spec hE
  clear hE; have hE := hN; clear hN
  refine y_cVr1 (st := []) (as := []) (c_X7_fresh (eq2.trans (show some q2 = some ((q2.1.1, q2.1.2), q2.2.1, q2.2.2) from rfl))) lk_X7_199 in_X7_fresh se_X7_fresh rfl eu1 ⟨Nat.le_of_ble_eq_true rfl, Nat.le_of_ble_eq_true rfl⟩ (Nat.le_of_ble_eq_true rfl) dX7_goThrough_1 ⟨by omega, by omega⟩ rfl ?_
  refine y_astore_n (ls' := [(3, .ref q2.1.1), (0, .ref a0), (1, .int p1), (2, .int p2)]) dX7_goThrough_4 (by decide) rfl rfl ?_
  refine y_iconst (v := (0 : Int32)) dX7_goThrough_5 (by decide) ?_
  refine y_istore (ls' := [(4, .int (0 : Int32)), (3, .ref q2.1.1), (0, .ref a0), (1, .int p1), (2, .int p2)]) dX7_goThrough_6 (by decide) rfl rfl ?_
  obtain ⟨q13, eq13, hE⟩ := Option.bind_eq_some_iff.mp hE
  refine y_pick [2, 3, 4, 1, 0] rfl ?_
  cases q13 with
  | inl r14 =>
    dsimp only at hE
    cases hE
    exact l_X7_goThrough_8 (S := S) ⟨by omega, by omega⟩ n a0 p1 p2 q2.1.1 n (0 : Int32) q2.1.2 _ eq13 (fun r8 hr8 => by cases hr8; exact ⟨rfl, rfl⟩) (fun r8 hr8 => by cases hr8)
  | inr e15 =>
    dsimp only at hE
    refine l_X7_goThrough_8 (S := S) ⟨by omega, by omega⟩ n a0 p1 p2 q2.1.1 n (0 : Int32) q2.1.2 _ eq13 (fun r8 hr8 => by cases hr8) (fun r8 hr8 => ?_)
    cases hr8
    refine y_iconst (v := (-1 : Int32)) dX7_goThrough_39 (by decide) ?_
    obtain ⟨rfl, rfl, rfl, rfl⟩ := x_inj4 hE
    exact y_ret dX7_goThrough_40 (by omega) (by omega) ⟨_, rfl, rfl⟩
def f_X7_judge (n : Nat) (h : xH) (a0 : Nat) (p1 : Int32) (p2 : Int32) : Option ((Int32 × xH) × Nat × Nat) :=
  (x_ob h a0 7).bind fun u1 =>
  (f_X7_noTold h a0 p1 p2 (20 : Int32)).bind fun q2 =>
  if q2.1 = 0 then
    (x_ob q2.2 a0 7).bind fun u3 =>
    (f_X7_goThrough n q2.2 a0 p1 p2).bind fun q4 =>
    x_add q4.2.1 q4.2.2 <|
    some ((q4.1.1, q4.1.2), 0, 0)
  else
    some ((q2.1, q2.2), 0, 0)
set_option maxRecDepth 100000 in
set_option maxHeartbeats 4000000 in
theorem c_X7_judge {n : Nat} {h : xH} {a0 : Nat} {p1 : Int32} {p2 : Int32} {r9 : Int32} {hz : xH} {c9 s9 : Nat} (hE : f_X7_judge n h a0 p1 p2 = some ((r9, hz), c9, s9)) : Ctr M_X7_judge [.ref a0, .int p1, .int p2] h (some (.int r9)) hz c9 s9 := by
  refine ctr_of (by decide) (fun _ _ => Nat.le_of_ble_eq_true rfl) (fun S => ?_)
  show Y S M_X7_judge h (some (.int r9)) hz c9 s9 0 [(0, .ref a0), (1, .int p1), (2, .int p2)] [] h 0 0
  unfold f_X7_judge at hE
  refine y_aload_n dX7_judge_0 0 rfl ?_
  refine y_iload_n dX7_judge_1 1 rfl ?_
  refine y_iload_n dX7_judge_2 2 rfl ?_
  refine y_bipush (v := (20 : Int32)) dX7_judge_3 (by decide) ?_
  obtain ⟨u1, eu1, hE⟩ := Option.bind_eq_some_iff.mp hE
  obtain ⟨q2, eq2, hE⟩ := Option.bind_eq_some_iff.mp hE
  refine y_cVi0 (st := []) (as := [.int p1, .int p2, .int (20 : Int32)]) (c_X7_noTold eq2) lk_X7_293 in_X7_noTold se_X7_noTold rfl eu1 ⟨Nat.le_of_ble_eq_true rfl, Nat.le_of_ble_eq_true rfl⟩ (Nat.le_of_ble_eq_true rfl) dX7_judge_5 ⟨by omega, by omega⟩ rfl ?_
  refine y_istore_n (ls' := [(3, .int q2.1), (0, .ref a0), (1, .int p1), (2, .int p2)]) dX7_judge_8 (by decide) rfl rfl ?_
  refine y_iload_n dX7_judge_9 0 rfl ?_
  refine y_if_eq (tgt := 17) dX7_judge_10 (by decide) (fun hc7 => ?_) (fun hc7 => ?_)
  · rw [if_pos hc7] at hE
    refine y_aload_n dX7_judge_17 1 rfl ?_
    refine y_iload_n dX7_judge_18 2 rfl ?_
    refine y_iload_n dX7_judge_19 3 rfl ?_
    obtain ⟨u3, eu3, hE⟩ := Option.bind_eq_some_iff.mp hE
    obtain ⟨q4, eq4, hE⟩ := Option.bind_eq_some_iff.mp hE
    obtain ⟨c5, s6, hN, ecc5, ess6⟩ := x_add.spec hE
    clear hE; have hE := hN; clear hN
    refine y_cVi1 (st := []) (as := [.int p1, .int p2]) (c_X7_goThrough (eq4.trans (show some q4 = some ((q4.1.1, q4.1.2), q4.2.1, q4.2.2) from rfl))) lk_X7_353 in_X7_goThrough se_X7_goThrough rfl eu3 ⟨Nat.le_of_ble_eq_true rfl, Nat.le_of_ble_eq_true rfl⟩ (Nat.le_of_ble_eq_true rfl) dX7_judge_20 ⟨by omega, by omega⟩ rfl ?_
    obtain ⟨rfl, rfl, rfl, rfl⟩ := x_inj4 hE
    exact y_ret dX7_judge_23 (by omega) (by omega) ⟨_, rfl, rfl⟩
  · rw [if_neg hc7] at hE
    refine y_iload_n dX7_judge_13 0 rfl ?_
    refine y_goto (tgt := 23) dX7_judge_14 (by decide) ?_
    obtain ⟨rfl, rfl, rfl, rfl⟩ := x_inj4 hE
    exact y_ret dX7_judge_23 (by omega) (by omega) ⟨_, rfl, rfl⟩
def f_X7_told_J38 (n : Nat) (h : xH) (v0 : Nat) (v1 : Int32) (v2 : Int32) (v3 : Int32) : Option ((Int32 × xH) × Nat × Nat) :=
  (x_ob h v0 7).bind fun u6 =>
  (f_X7_noTold h v0 v1 v2 (20 : Int32)).bind fun q7 =>
  if q7.1 = 0 then
    (x_ob q7.2 v0 7).bind fun u8 =>
    (f_X7_goThrough n q7.2 v0 v1 v2).bind fun q9 =>
    x_add q9.2.1 q9.2.2 <|
    if q9.1.1 = (-1 : Int32) then
      if v3 = (0 : Int32) then
        (x_gR q9.1.2 v0 7 19).bind fun a12 =>
        (x_gI q9.1.2 a12 7 11).bind fun x13 =>
        some ((x13, q9.1.2), 0, 0)
      else
      if v3 = (1 : Int32) then
        (x_gR q9.1.2 v0 7 19).bind fun a15 =>
        (x_gI q9.1.2 a15 7 16).bind fun x16 =>
        (x_gI q9.1.2 v0 7 16).bind fun x17 =>
        some (((x16 - x17), q9.1.2), 0, 0)
      else
      if v3 = (2 : Int32) then
        (x_gR q9.1.2 v0 7 19).bind fun a19 =>
        (x_ob q9.1.2 a19 7).bind fun u20 =>
        (f_X7_shutIn n q9.1.2 a19).bind fun q21 =>
        some ((q21, q9.1.2), 0, 0)
      else
      (x_gR q9.1.2 v0 7 19).bind fun a23 =>
      (x_gR q9.1.2 a23 7 13).bind fun a24 =>
      (x_ld q9.1.2 a24 (v3 - (10 : Int32))).bind fun x25 =>
      some ((x25, q9.1.2), 0, 0)
    else
      (x_ob q9.1.2 v0 7).bind fun u26 =>
      (f_X7_refuse q9.1.2 v0 (-5 : Int32)).bind fun q27 =>
      some ((q27.1, q27.2), 0, 0)
  else
    some ((q7.1, q7.2), 0, 0)
set_option maxRecDepth 100000 in
set_option maxHeartbeats 4000000 in
theorem j_X7_told_38 {S : Nat × (Nat → Int32)} {h0 : xH} {mc ms cells slots : Nat} {n : Nat} {h : xH} {v0 : Nat} {v1 : Int32} {v2 : Int32} {v3 : Int32} {r9 : Int32} {hz : xH} {c9 s9 : Nat} (hE : f_X7_told_J38 n h v0 v1 v2 v3 = some ((r9, hz), c9, s9)) (hm : cells + c9 ≤ mc ∧ slots + s9 ≤ ms) : Y S M_X7_told h0 (some (.int r9)) hz mc ms 38 [(0, .ref v0), (1, .int v1), (2, .int v2), (3, .int v3)] [] h cells slots := by
  unfold f_X7_told_J38 at hE
  refine y_aload_n dX7_told_38 0 rfl ?_
  refine y_iload_n dX7_told_39 1 rfl ?_
  refine y_iload_n dX7_told_40 2 rfl ?_
  refine y_bipush (v := (20 : Int32)) dX7_told_41 (by decide) ?_
  obtain ⟨u6, eu6, hE⟩ := Option.bind_eq_some_iff.mp hE
  obtain ⟨q7, eq7, hE⟩ := Option.bind_eq_some_iff.mp hE
  refine y_cVi0 (st := []) (as := [.int v1, .int v2, .int (20 : Int32)]) (c_X7_noTold eq7) lk_X7_293 in_X7_noTold se_X7_noTold rfl eu6 ⟨Nat.le_of_ble_eq_true rfl, Nat.le_of_ble_eq_true rfl⟩ (Nat.le_of_ble_eq_true rfl) dX7_told_43 ⟨by omega, by omega⟩ rfl ?_
  refine y_istore (ls' := [(4, .int q7.1), (0, .ref v0), (1, .int v1), (2, .int v2), (3, .int v3)]) dX7_told_46 (by decide) rfl rfl ?_
  refine y_iload dX7_told_48 0 rfl ?_
  refine y_if_eq (tgt := 56) dX7_told_50 (by decide) (fun hc29 => ?_) (fun hc29 => ?_)
  · rw [if_pos hc29] at hE
    refine y_aload_n dX7_told_56 1 rfl ?_
    refine y_iload_n dX7_told_57 2 rfl ?_
    refine y_iload_n dX7_told_58 3 rfl ?_
    obtain ⟨u8, eu8, hE⟩ := Option.bind_eq_some_iff.mp hE
    obtain ⟨q9, eq9, hE⟩ := Option.bind_eq_some_iff.mp hE
    obtain ⟨c10, s11, hN, ecc10, ess11⟩ := x_add.spec hE
    clear hE; have hE := hN; clear hN
    refine y_cVi1 (st := []) (as := [.int v1, .int v2]) (c_X7_goThrough (eq9.trans (show some q9 = some ((q9.1.1, q9.1.2), q9.2.1, q9.2.2) from rfl))) lk_X7_353 in_X7_goThrough se_X7_goThrough rfl eu8 ⟨Nat.le_of_ble_eq_true rfl, Nat.le_of_ble_eq_true rfl⟩ (Nat.le_of_ble_eq_true rfl) dX7_told_59 ⟨by omega, by omega⟩ rfl ?_
    refine y_iconst (v := (-1 : Int32)) dX7_told_62 (by decide) ?_
    refine y_icmp_eq (tgt := 73) dX7_told_63 (by decide) (fun hc28 => ?_) (fun hc28 => ?_)
    · rw [if_pos hc28] at hE
      refine y_iload_n dX7_told_73 4 rfl ?_
      by_cases hc14 : v3 = (0 : Int32)
      · rw [if_pos hc14] at hE
        have hk := hc14
        refine y_tabIn (tgt := 100) dX7_told_74 (by rw [hk]; decide) (by rw [hk]; decide) (by rw [hk]; rfl) (by decide) ?_
        refine y_aload_n dX7_told_100 1 rfl ?_
        obtain ⟨a12, ea12, hE⟩ := Option.bind_eq_some_iff.mp hE
        refine y_getR fl_X7_339 ea12 dX7_told_101 ?_
        obtain ⟨x13, ex13, hE⟩ := Option.bind_eq_some_iff.mp hE
        refine y_getI fl_X7_108 ex13 dX7_told_104 ?_
        obtain ⟨rfl, rfl, rfl, rfl⟩ := x_inj4 hE
        exact y_ret dX7_told_107 (by omega) (by omega) ⟨_, rfl, rfl⟩
      · rw [if_neg hc14] at hE
        by_cases hc18 : v3 = (1 : Int32)
        · rw [if_pos hc18] at hE
          have hk := hc18
          refine y_tabIn (tgt := 108) dX7_told_74 (by rw [hk]; decide) (by rw [hk]; decide) (by rw [hk]; rfl) (by decide) ?_
          refine y_aload_n dX7_told_108 1 rfl ?_
          obtain ⟨a15, ea15, hE⟩ := Option.bind_eq_some_iff.mp hE
          refine y_getR fl_X7_339 ea15 dX7_told_109 ?_
          obtain ⟨x16, ex16, hE⟩ := Option.bind_eq_some_iff.mp hE
          refine y_getI fl_X7_246 ex16 dX7_told_112 ?_
          refine y_aload_n dX7_told_115 1 rfl ?_
          obtain ⟨x17, ex17, hE⟩ := Option.bind_eq_some_iff.mp hE
          refine y_getI fl_X7_246 ex17 dX7_told_116 ?_
          refine y_isub dX7_told_119 ?_
          obtain ⟨rfl, rfl, rfl, rfl⟩ := x_inj4 hE
          exact y_ret dX7_told_120 (by omega) (by omega) ⟨_, rfl, rfl⟩
        · rw [if_neg hc18] at hE
          by_cases hc22 : v3 = (2 : Int32)
          · rw [if_pos hc22] at hE
            have hk := hc22
            refine y_tabIn (tgt := 121) dX7_told_74 (by rw [hk]; decide) (by rw [hk]; decide) (by rw [hk]; rfl) (by decide) ?_
            refine y_aload_n dX7_told_121 1 rfl ?_
            obtain ⟨a19, ea19, hE⟩ := Option.bind_eq_some_iff.mp hE
            refine y_getR fl_X7_339 ea19 dX7_told_122 ?_
            obtain ⟨u20, eu20, hE⟩ := Option.bind_eq_some_iff.mp hE
            obtain ⟨q21, eq21, hE⟩ := Option.bind_eq_some_iff.mp hE
            refine y_cVi0 (st := []) (as := []) (c_X7_shutIn eq21) lk_X7_358 in_X7_shutIn se_X7_shutIn rfl eu20 ⟨Nat.le_of_ble_eq_true rfl, Nat.le_of_ble_eq_true rfl⟩ (Nat.le_of_ble_eq_true rfl) dX7_told_125 ⟨by omega, by omega⟩ rfl ?_
            obtain ⟨rfl, rfl, rfl, rfl⟩ := x_inj4 hE
            exact y_ret dX7_told_128 (by omega) (by omega) ⟨_, rfl, rfl⟩
          · rw [if_neg hc22] at hE
            have hO : (v3).toInt < 0 ∨ 2 < (v3).toInt := by
              refine x_tabo (by decide) (by decide) (fun j g1 g2 => ?_)
              rcases (show j = 0 ∨ j = 1 ∨ j = 2 by omega) with rfl | rfl | rfl
              · exact hc14
              · exact hc18
              · exact hc22
            refine y_tabOut (tgt := 129) dX7_told_74 hO (by decide) ?_
            refine y_aload_n dX7_told_129 1 rfl ?_
            obtain ⟨a23, ea23, hE⟩ := Option.bind_eq_some_iff.mp hE
            refine y_getR fl_X7_339 ea23 dX7_told_130 ?_
            obtain ⟨a24, ea24, hE⟩ := Option.bind_eq_some_iff.mp hE
            refine y_getR fl_X7_42 ea24 dX7_told_133 ?_
            refine y_iload_n dX7_told_136 4 rfl ?_
            refine y_bipush (v := (10 : Int32)) dX7_told_137 (by decide) ?_
            refine y_isub dX7_told_139 ?_
            obtain ⟨x25, ex25, hE⟩ := Option.bind_eq_some_iff.mp hE
            refine y_iald ex25 dX7_told_140 ?_
            obtain ⟨rfl, rfl, rfl, rfl⟩ := x_inj4 hE
            exact y_ret dX7_told_141 (by omega) (by omega) ⟨_, rfl, rfl⟩
    · rw [if_neg hc28] at hE
      refine y_aload_n dX7_told_66 1 rfl ?_
      refine y_bipush (v := (-5 : Int32)) dX7_told_67 (by decide) ?_
      obtain ⟨u26, eu26, hE⟩ := Option.bind_eq_some_iff.mp hE
      obtain ⟨q27, eq27, hE⟩ := Option.bind_eq_some_iff.mp hE
      refine y_cVi0 (st := []) (as := [.int (-5 : Int32)]) (c_X7_refuse eq27) lk_X7_77 in_X7_refuse se_X7_refuse rfl eu26 ⟨Nat.le_of_ble_eq_true rfl, Nat.le_of_ble_eq_true rfl⟩ (Nat.le_of_ble_eq_true rfl) dX7_told_69 ⟨by omega, by omega⟩ rfl ?_
      obtain ⟨rfl, rfl, rfl, rfl⟩ := x_inj4 hE
      exact y_ret dX7_told_72 (by omega) (by omega) ⟨_, rfl, rfl⟩
  · rw [if_neg hc29] at hE
    refine y_iload dX7_told_53 0 rfl ?_
    obtain ⟨rfl, rfl, rfl, rfl⟩ := x_inj4 hE
    exact y_ret dX7_told_55 (by omega) (by omega) ⟨_, rfl, rfl⟩
def f_X7_told (n : Nat) (h : xH) (a0 : Nat) (p1 : Int32) (p2 : Int32) (p3 : Int32) : Option ((Int32 × xH) × Nat × Nat) :=
  (f_X7_in h p3.toInt64 (0 : Int64) (2 : Int64)).bind fun q1 =>
  if q1 = 0 then
    (x_gI h a0 7 12).bind fun x2 =>
    (f_X7_in h p3.toInt64 (10 : Int64) (((9 : Int32) + x2).toInt64)).bind fun q3 =>
    if q3 = 0 then
      (x_ob h a0 7).bind fun u4 =>
      (f_X7_refuse h a0 (-2 : Int32)).bind fun q5 =>
      some ((q5.1, q5.2), 0, 0)
    else
      f_X7_told_J38 n h a0 p1 p2 p3
  else
    f_X7_told_J38 n h a0 p1 p2 p3
set_option maxRecDepth 100000 in
set_option maxHeartbeats 4000000 in
theorem c_X7_told {n : Nat} {h : xH} {a0 : Nat} {p1 : Int32} {p2 : Int32} {p3 : Int32} {r9 : Int32} {hz : xH} {c9 s9 : Nat} (hE : f_X7_told n h a0 p1 p2 p3 = some ((r9, hz), c9, s9)) : Ctr M_X7_told [.ref a0, .int p1, .int p2, .int p3] h (some (.int r9)) hz c9 s9 := by
  refine ctr_of (by decide) (fun _ _ => Nat.le_of_ble_eq_true rfl) (fun S => ?_)
  show Y S M_X7_told h (some (.int r9)) hz c9 s9 0 [(0, .ref a0), (1, .int p1), (2, .int p2), (3, .int p3)] [] h 0 0
  unfold f_X7_told at hE
  refine y_iload_n dX7_told_0 3 rfl ?_
  refine y_i2l dX7_told_1 ?_
  refine y_lconst (v := (0 : Int64)) dX7_told_2 (by decide) ?_
  refine y_ldc2 (v := (2 : Int64)) (x_wt (tb 1231 (by decide +kernel)) rfl) dX7_told_3 ?_
  obtain ⟨q1, eq1, hE⟩ := Option.bind_eq_some_iff.mp hE
  refine y_cSi0 (st := []) (as := [.long p3.toInt64, .long (0 : Int64), .long (2 : Int64)]) (c_X7_in eq1) lk_X7_64 st_X7_in ⟨Nat.le_of_ble_eq_true rfl, Nat.le_of_ble_eq_true rfl⟩ (Nat.le_of_ble_eq_true rfl) dX7_told_6 ⟨by omega, by omega⟩ rfl ?_
  refine y_if_ne (tgt := 38) dX7_told_9 (by decide) (fun hc31 => ?_) (fun hc31 => ?_)
  · rw [if_pos hc31] at hE
    refine y_iload_n dX7_told_12 3 rfl ?_
    refine y_i2l dX7_told_13 ?_
    refine y_ldc2 (v := (10 : Int64)) (x_wt (tb 1429 (by decide +kernel)) rfl) dX7_told_14 ?_
    refine y_bipush (v := (9 : Int32)) dX7_told_17 (by decide) ?_
    refine y_aload_n dX7_told_19 0 rfl ?_
    obtain ⟨x2, ex2, hE⟩ := Option.bind_eq_some_iff.mp hE
    refine y_getI fl_X7_68 ex2 dX7_told_20 ?_
    refine y_iadd dX7_told_23 ?_
    refine y_i2l dX7_told_24 ?_
    obtain ⟨q3, eq3, hE⟩ := Option.bind_eq_some_iff.mp hE
    refine y_cSi0 (st := []) (as := [.long p3.toInt64, .long (10 : Int64), .long (((9 : Int32) + x2).toInt64)]) (c_X7_in eq3) lk_X7_64 st_X7_in ⟨Nat.le_of_ble_eq_true rfl, Nat.le_of_ble_eq_true rfl⟩ (Nat.le_of_ble_eq_true rfl) dX7_told_25 ⟨by omega, by omega⟩ rfl ?_
    refine y_if_ne (tgt := 38) dX7_told_28 (by decide) (fun hc30 => ?_) (fun hc30 => ?_)
    · rw [if_pos hc30] at hE
      refine y_aload_n dX7_told_31 0 rfl ?_
      refine y_bipush (v := (-2 : Int32)) dX7_told_32 (by decide) ?_
      obtain ⟨u4, eu4, hE⟩ := Option.bind_eq_some_iff.mp hE
      obtain ⟨q5, eq5, hE⟩ := Option.bind_eq_some_iff.mp hE
      refine y_cVi0 (st := []) (as := [.int (-2 : Int32)]) (c_X7_refuse eq5) lk_X7_77 in_X7_refuse se_X7_refuse rfl eu4 ⟨Nat.le_of_ble_eq_true rfl, Nat.le_of_ble_eq_true rfl⟩ (Nat.le_of_ble_eq_true rfl) dX7_told_34 ⟨by omega, by omega⟩ rfl ?_
      obtain ⟨rfl, rfl, rfl, rfl⟩ := x_inj4 hE
      exact y_ret dX7_told_37 (by omega) (by omega) ⟨_, rfl, rfl⟩
    · rw [if_neg hc30] at hE
      refine y_pick [0, 1, 2, 3] rfl ?_
      exact j_X7_told_38 hE ⟨by omega, by omega⟩
  · rw [if_neg hc31] at hE
    refine y_pick [0, 1, 2, 3] rfl ?_
    exact j_X7_told_38 hE ⟨by omega, by omega⟩
def f_X7_draw (h : xH) (a0 : Nat) (p1 : Int32) : Option (Int32 × xH) :=
  (x_gI h a0 7 17).bind fun x1 =>
  (x_put h a0 7 17 (.int ((x1 * (1103515245 : Int32)) + (12345 : Int32)))).bind fun h2 =>
  (x_gI h2 a0 7 17).bind fun x3 =>
  (x_irem (i_ushr x3 (16 : Int32)) p1).bind fun x4 =>
  some (x4, h2)
set_option maxRecDepth 100000 in
set_option maxHeartbeats 4000000 in
theorem c_X7_draw {h : xH} {a0 : Nat} {p1 : Int32} {r9 : Int32} {hz : xH} (hE : f_X7_draw h a0 p1 = some (r9, hz)) : Ctr M_X7_draw [.ref a0, .int p1] h (some (.int r9)) hz 0 0 := by
  refine ctr_of (by decide) (fun _ _ => Nat.le_of_ble_eq_true rfl) (fun S => ?_)
  show Y S M_X7_draw h (some (.int r9)) hz 0 0 0 [(0, .ref a0), (1, .int p1)] [] h 0 0
  unfold f_X7_draw at hE
  refine y_aload_n dX7_draw_0 0 rfl ?_
  refine y_aload_n dX7_draw_1 0 rfl ?_
  obtain ⟨x1, ex1, hE⟩ := Option.bind_eq_some_iff.mp hE
  refine y_getI fl_X7_49 ex1 dX7_draw_2 ?_
  refine y_ldc_w (v := (1103515245 : Int32)) (x_wt (tb 1440 (by decide +kernel)) rfl) dX7_draw_5 ?_
  refine y_imul dX7_draw_8 ?_
  refine y_sipush (v := (12345 : Int32)) dX7_draw_9 (by decide) ?_
  refine y_iadd dX7_draw_12 ?_
  obtain ⟨h2, eh2, hE⟩ := Option.bind_eq_some_iff.mp hE
  refine y_putI fp_X7_49 eh2 dX7_draw_13 ?_
  refine y_aload_n dX7_draw_16 0 rfl ?_
  obtain ⟨x3, ex3, hE⟩ := Option.bind_eq_some_iff.mp hE
  refine y_getI fl_X7_49 ex3 dX7_draw_17 ?_
  refine y_bipush (v := (16 : Int32)) dX7_draw_20 (by decide) ?_
  refine y_iushr dX7_draw_22 ?_
  refine y_iload_n dX7_draw_23 1 rfl ?_
  obtain ⟨x4, ex4, hE⟩ := Option.bind_eq_some_iff.mp hE
  refine y_rem ex4 dX7_draw_24 ?_
  obtain ⟨rfl, rfl⟩ := x_inj2 hE
  exact y_ret dX7_draw_25 (Nat.le_refl _) (Nat.le_refl _) ⟨_, rfl, rfl⟩
def f_X7_evening_L44 (n : Nat) (v0 : Nat) (v1 : Int32) : Nat → Int32 → Int32 → xH → Option (Int32 × xH)
  | 0, _, _, _ => none
  | k + 1, v2, v3, h =>
    if v1 ≤ v3 then
      some (v2, h)
    else
      (x_gI h v0 7 12).bind fun x10 =>
      (x_ob h v0 7).bind fun u11 =>
      (f_X7_draw h v0 x10).bind fun q12 =>
      (x_gI q12.2 v0 7 9).bind fun x13 =>
      (x_ob q12.2 v0 7).bind fun u14 =>
      (f_X7_draw q12.2 v0 x13).bind fun q15 =>
      (x_ob q15.2 v0 7).bind fun u16 =>
      (f_X7_waysOf n q15.2 v0 q12.1 q15.1 (1 : Int32)).bind fun q17 =>
      if q17 = (-1 : Int32) then
        (x_gR q15.2 v0 7 13).bind fun a18 =>
        (x_ld q15.2 a18 q12.1).bind fun x19 =>
        (x_ob q15.2 v0 7).bind fun u20 =>
        (f_X7_mayWalk q15.2 v0 q15.1 x19).bind fun q21 =>
        if q21 = 0 then
          (some (v3 + (1 : Int32))).bind fun x22 =>
          f_X7_evening_L44 n v0 v1 k v2 x22 q15.2
        else
          (x_gR q15.2 v0 7 13).bind fun a23 =>
          (x_gR q15.2 v0 7 13).bind fun a24 =>
          (x_ld q15.2 a24 q12.1).bind fun x25 =>
          (x_ob q15.2 v0 7).bind fun u26 =>
          (f_X7_beyond q15.2 v0 q15.1 x25).bind fun q27 =>
          (x_st q15.2 a23 q12.1 q27).bind fun h28 =>
          (some (v3 + (1 : Int32))).bind fun x29 =>
          f_X7_evening_L44 n v0 v1 k v2 x29 h28
      else
        (x_ob q15.2 v0 7).bind fun u31 =>
        (f_X7_opens q15.2 v0 q15.1 q17).bind fun q32 =>
        (some (v2 + (1 : Int32))).bind fun x33 =>
        (some (v3 + (1 : Int32))).bind fun x34 =>
        f_X7_evening_L44 n v0 v1 k x33 x34 q32
set_option maxRecDepth 100000 in
set_option maxHeartbeats 4000000 in
theorem l_X7_evening_44 {S : Nat × (Nat → Int32)} {rv : Option Value} {h0 h1 : xH} {mc ms : Nat} {cells slots : Nat} (hm : cells ≤ mc ∧ slots ≤ ms) (n : Nat) (v0 : Nat) (v1 : Int32) : ∀ (k : Nat) (v2 : Int32) (v3 : Int32) (h : xH) (res : Int32 × xH), f_X7_evening_L44 n v0 v1 k v2 v3 h = some res → (∀ r9, res = r9 → Y S M_X7_evening h0 rv h1 mc ms 142 [(2, .int r9.1)] [] r9.2 cells slots) → Y S M_X7_evening h0 rv h1 mc ms 44 [(0, .ref v0), (1, .int v1), (2, .int v2), (3, .int v3)] [] h cells slots := by
  intro k
  induction k with
  | zero =>
    intro _ _ _ _ hE
    cases hE
  | succ k ih =>
    intro v2 v3 h res hE K
    unfold f_X7_evening_L44 at hE
    refine y_iload_n dX7_evening_44 3 rfl ?_
    refine y_iload_n dX7_evening_45 1 rfl ?_
    refine y_icmp_ge (tgt := 142) dX7_evening_46 (by decide) (fun hc36 => ?_) (fun hc36 => ?_)
    · rw [if_pos hc36] at hE
      obtain rfl := Option.some.inj hE
      exact y_pick [2] rfl (K _ rfl)
    · rw [if_neg hc36] at hE
      refine y_aload_n dX7_evening_49 0 rfl ?_
      refine y_aload_n dX7_evening_50 0 rfl ?_
      obtain ⟨x10, ex10, hE⟩ := Option.bind_eq_some_iff.mp hE
      refine y_getI fl_X7_68 ex10 dX7_evening_51 ?_
      obtain ⟨u11, eu11, hE⟩ := Option.bind_eq_some_iff.mp hE
      obtain ⟨q12, eq12, hE⟩ := Option.bind_eq_some_iff.mp hE
      refine y_cVi0 (st := []) (as := [.int x10]) (c_X7_draw eq12) lk_X7_364 in_X7_draw se_X7_draw rfl eu11 ⟨Nat.le_of_ble_eq_true rfl, Nat.le_of_ble_eq_true rfl⟩ (Nat.le_of_ble_eq_true rfl) dX7_evening_54 hm rfl ?_
      refine y_istore (ls' := [(4, .int q12.1), (0, .ref v0), (1, .int v1), (2, .int v2), (3, .int v3)]) dX7_evening_57 (by decide) rfl rfl ?_
      refine y_aload_n dX7_evening_59 1 rfl ?_
      refine y_aload_n dX7_evening_60 1 rfl ?_
      obtain ⟨x13, ex13, hE⟩ := Option.bind_eq_some_iff.mp hE
      refine y_getI fl_X7_61 ex13 dX7_evening_61 ?_
      obtain ⟨u14, eu14, hE⟩ := Option.bind_eq_some_iff.mp hE
      obtain ⟨q15, eq15, hE⟩ := Option.bind_eq_some_iff.mp hE
      refine y_cVi0 (st := []) (as := [.int x13]) (c_X7_draw eq15) lk_X7_364 in_X7_draw se_X7_draw rfl eu14 ⟨Nat.le_of_ble_eq_true rfl, Nat.le_of_ble_eq_true rfl⟩ (Nat.le_of_ble_eq_true rfl) dX7_evening_64 hm rfl ?_
      refine y_istore (ls' := [(5, .int q15.1), (4, .int q12.1), (0, .ref v0), (1, .int v1), (2, .int v2), (3, .int v3)]) dX7_evening_67 (by decide) rfl rfl ?_
      refine y_aload_n dX7_evening_69 2 rfl ?_
      refine y_iload dX7_evening_70 1 rfl ?_
      refine y_iload dX7_evening_72 0 rfl ?_
      refine y_iconst (v := (1 : Int32)) dX7_evening_74 (by decide) ?_
      obtain ⟨u16, eu16, hE⟩ := Option.bind_eq_some_iff.mp hE
      obtain ⟨q17, eq17, hE⟩ := Option.bind_eq_some_iff.mp hE
      refine y_cVi0 (st := []) (as := [.int q12.1, .int q15.1, .int (1 : Int32)]) (c_X7_waysOf eq17) lk_X7_227 in_X7_waysOf se_X7_waysOf rfl eu16 ⟨Nat.le_of_ble_eq_true rfl, Nat.le_of_ble_eq_true rfl⟩ (Nat.le_of_ble_eq_true rfl) dX7_evening_75 hm rfl ?_
      refine y_istore (ls' := [(6, .int q17), (5, .int q15.1), (4, .int q12.1), (0, .ref v0), (1, .int v1), (2, .int v2), (3, .int v3)]) dX7_evening_78 (by decide) rfl rfl ?_
      refine y_iload dX7_evening_80 0 rfl ?_
      refine y_iconst (v := (-1 : Int32)) dX7_evening_82 (by decide) ?_
      refine y_icmp_eq (tgt := 100) dX7_evening_83 (by decide) (fun hc35 => ?_) (fun hc35 => ?_)
      · rw [if_pos hc35] at hE
        refine y_aload_n dX7_evening_100 3 rfl ?_
        refine y_iload dX7_evening_101 1 rfl ?_
        refine y_aload_n dX7_evening_103 3 rfl ?_
        obtain ⟨a18, ea18, hE⟩ := Option.bind_eq_some_iff.mp hE
        refine y_getR fl_X7_42 ea18 dX7_evening_104 ?_
        refine y_iload dX7_evening_107 2 rfl ?_
        obtain ⟨x19, ex19, hE⟩ := Option.bind_eq_some_iff.mp hE
        refine y_iald ex19 dX7_evening_109 ?_
        obtain ⟨u20, eu20, hE⟩ := Option.bind_eq_some_iff.mp hE
        obtain ⟨q21, eq21, hE⟩ := Option.bind_eq_some_iff.mp hE
        refine y_cVi0 (st := []) (as := [.int q15.1, .int x19]) (c_X7_mayWalk eq21) lk_X7_230 in_X7_mayWalk se_X7_mayWalk rfl eu20 ⟨Nat.le_of_ble_eq_true rfl, Nat.le_of_ble_eq_true rfl⟩ (Nat.le_of_ble_eq_true rfl) dX7_evening_110 hm rfl ?_
        refine y_if_eq (tgt := 136) dX7_evening_113 (by decide) (fun hc30 => ?_) (fun hc30 => ?_)
        · rw [if_pos hc30] at hE
          obtain ⟨x22, ex22, hE⟩ := Option.bind_eq_some_iff.mp hE
          refine y_iinc (ls' := [(3, .int x22), (6, .int q17), (5, .int q15.1), (4, .int q12.1), (0, .ref v0), (1, .int v1), (2, .int v2)]) dX7_evening_136 6 rfl (Option.some.inj ex22) (by decide) rfl ?_
          refine y_goto (tgt := 44) dX7_evening_139 (by decide) ?_
          refine y_pick [4, 5, 6, 0] rfl ?_
          exact ih _ _ _ _ hE K
        · rw [if_neg hc30] at hE
          refine y_aload_n dX7_evening_116 3 rfl ?_
          obtain ⟨a23, ea23, hE⟩ := Option.bind_eq_some_iff.mp hE
          refine y_getR fl_X7_42 ea23 dX7_evening_117 ?_
          refine y_iload dX7_evening_120 2 rfl ?_
          refine y_aload_n dX7_evening_122 3 rfl ?_
          refine y_iload dX7_evening_123 1 rfl ?_
          refine y_aload_n dX7_evening_125 3 rfl ?_
          obtain ⟨a24, ea24, hE⟩ := Option.bind_eq_some_iff.mp hE
          refine y_getR fl_X7_42 ea24 dX7_evening_126 ?_
          refine y_iload dX7_evening_129 2 rfl ?_
          obtain ⟨x25, ex25, hE⟩ := Option.bind_eq_some_iff.mp hE
          refine y_iald ex25 dX7_evening_131 ?_
          obtain ⟨u26, eu26, hE⟩ := Option.bind_eq_some_iff.mp hE
          obtain ⟨q27, eq27, hE⟩ := Option.bind_eq_some_iff.mp hE
          refine y_cVi0 (st := [.int q12.1, .ref a23]) (as := [.int q15.1, .int x25]) (c_X7_beyond eq27) lk_X7_239 in_X7_beyond se_X7_beyond rfl eu26 ⟨Nat.le_of_ble_eq_true rfl, Nat.le_of_ble_eq_true rfl⟩ (Nat.le_of_ble_eq_true rfl) dX7_evening_132 hm rfl ?_
          obtain ⟨h28, eh28, hE⟩ := Option.bind_eq_some_iff.mp hE
          refine y_iast eh28 dX7_evening_135 ?_
          obtain ⟨x29, ex29, hE⟩ := Option.bind_eq_some_iff.mp hE
          refine y_iinc (ls' := [(3, .int x29), (6, .int q17), (5, .int q15.1), (4, .int q12.1), (0, .ref v0), (1, .int v1), (2, .int v2)]) dX7_evening_136 6 rfl (Option.some.inj ex29) (by decide) rfl ?_
          refine y_goto (tgt := 44) dX7_evening_139 (by decide) ?_
          refine y_pick [4, 5, 6, 0] rfl ?_
          exact ih _ _ _ _ hE K
      · rw [if_neg hc35] at hE
        refine y_aload_n dX7_evening_86 3 rfl ?_
        refine y_iload dX7_evening_87 1 rfl ?_
        refine y_iload dX7_evening_89 0 rfl ?_
        obtain ⟨u31, eu31, hE⟩ := Option.bind_eq_some_iff.mp hE
        obtain ⟨q32, eq32, hE⟩ := Option.bind_eq_some_iff.mp hE
        refine y_cVv0 (st := []) (as := [.int q15.1, .int q17]) (c_X7_opens eq32) lk_X7_249 in_X7_opens se_X7_opens rfl eu31 ⟨Nat.le_of_ble_eq_true rfl, Nat.le_of_ble_eq_true rfl⟩ (Nat.le_of_ble_eq_true rfl) dX7_evening_91 hm rfl ?_
        obtain ⟨x33, ex33, hE⟩ := Option.bind_eq_some_iff.mp hE
        refine y_iinc (ls' := [(2, .int x33), (6, .int q17), (5, .int q15.1), (4, .int q12.1), (0, .ref v0), (1, .int v1), (3, .int v3)]) dX7_evening_94 5 rfl (Option.some.inj ex33) (by decide) rfl ?_
        refine y_goto (tgt := 136) dX7_evening_97 (by decide) ?_
        obtain ⟨x34, ex34, hE⟩ := Option.bind_eq_some_iff.mp hE
        refine y_iinc (ls' := [(3, .int x34), (2, .int x33), (6, .int q17), (5, .int q15.1), (4, .int q12.1), (0, .ref v0), (1, .int v1)]) dX7_evening_136 6 rfl (Option.some.inj ex34) (by decide) rfl ?_
        refine y_goto (tgt := 44) dX7_evening_139 (by decide) ?_
        refine y_pick [5, 6, 1, 0] rfl ?_
        exact ih _ _ _ _ hE K
def f_X7_evening (n : Nat) (h : xH) (a0 : Nat) (p1 : Int32) : Option (Int32 × xH) :=
  (f_X7_in h p1.toInt64 (1 : Int64) (60 : Int64)).bind fun q1 =>
  if q1 = 0 then
    (x_ob h a0 7).bind fun u2 =>
    (f_X7_refuse h a0 (-2 : Int32)).bind fun q3 =>
    some (q3.1, q3.2)
  else
    (x_gI h a0 7 9).bind fun x4 =>
    if x4 = 0 then
      (x_ob h a0 7).bind fun u5 =>
      (f_X7_refuse h a0 (-5 : Int32)).bind fun q6 =>
      some (q6.1, q6.2)
    else
      (x_gI h a0 7 12).bind fun x7 =>
      if x7 = 0 then
        (x_ob h a0 7).bind fun u8 =>
        (f_X7_refuse h a0 (-5 : Int32)).bind fun q9 =>
        some (q9.1, q9.2)
      else
        (f_X7_evening_L44 n a0 p1 n (0 : Int32) (0 : Int32) h).bind fun q37 =>
        some (q37.1, q37.2)
set_option maxRecDepth 100000 in
set_option maxHeartbeats 4000000 in
theorem c_X7_evening {n : Nat} {h : xH} {a0 : Nat} {p1 : Int32} {r9 : Int32} {hz : xH} (hE : f_X7_evening n h a0 p1 = some (r9, hz)) : Ctr M_X7_evening [.ref a0, .int p1] h (some (.int r9)) hz 0 0 := by
  refine ctr_of (by decide) (fun _ _ => Nat.le_of_ble_eq_true rfl) (fun S => ?_)
  show Y S M_X7_evening h (some (.int r9)) hz 0 0 0 [(0, .ref a0), (1, .int p1)] [] h 0 0
  unfold f_X7_evening at hE
  refine y_iload_n dX7_evening_0 1 rfl ?_
  refine y_i2l dX7_evening_1 ?_
  refine y_lconst (v := (1 : Int64)) dX7_evening_2 (by decide) ?_
  refine y_ldc2 (v := (60 : Int64)) (x_wt (tb 1435 (by decide +kernel)) rfl) dX7_evening_3 ?_
  obtain ⟨q1, eq1, hE⟩ := Option.bind_eq_some_iff.mp hE
  refine y_cSi0 (st := []) (as := [.long p1.toInt64, .long (1 : Int64), .long (60 : Int64)]) (c_X7_in eq1) lk_X7_64 st_X7_in ⟨Nat.le_of_ble_eq_true rfl, Nat.le_of_ble_eq_true rfl⟩ (Nat.le_of_ble_eq_true rfl) dX7_evening_6 ⟨Nat.le_refl _, Nat.le_refl _⟩ rfl ?_
  refine y_if_ne (tgt := 19) dX7_evening_9 (by decide) (fun hc40 => ?_) (fun hc40 => ?_)
  · rw [if_pos hc40] at hE
    refine y_aload_n dX7_evening_12 0 rfl ?_
    refine y_bipush (v := (-2 : Int32)) dX7_evening_13 (by decide) ?_
    obtain ⟨u2, eu2, hE⟩ := Option.bind_eq_some_iff.mp hE
    obtain ⟨q3, eq3, hE⟩ := Option.bind_eq_some_iff.mp hE
    refine y_cVi0 (st := []) (as := [.int (-2 : Int32)]) (c_X7_refuse eq3) lk_X7_77 in_X7_refuse se_X7_refuse rfl eu2 ⟨Nat.le_of_ble_eq_true rfl, Nat.le_of_ble_eq_true rfl⟩ (Nat.le_of_ble_eq_true rfl) dX7_evening_15 ⟨Nat.le_refl _, Nat.le_refl _⟩ rfl ?_
    obtain ⟨rfl, rfl⟩ := x_inj2 hE
    exact y_ret dX7_evening_18 (Nat.le_refl _) (Nat.le_refl _) ⟨_, rfl, rfl⟩
  · rw [if_neg hc40] at hE
    refine y_aload_n dX7_evening_19 0 rfl ?_
    obtain ⟨x4, ex4, hE⟩ := Option.bind_eq_some_iff.mp hE
    refine y_getI fl_X7_61 ex4 dX7_evening_20 ?_
    refine y_if_eq (tgt := 33) dX7_evening_23 (by decide) (fun hc39 => ?_) (fun hc39 => ?_)
    · rw [if_pos hc39] at hE
      refine y_aload_n dX7_evening_33 0 rfl ?_
      refine y_bipush (v := (-5 : Int32)) dX7_evening_34 (by decide) ?_
      obtain ⟨u5, eu5, hE⟩ := Option.bind_eq_some_iff.mp hE
      obtain ⟨q6, eq6, hE⟩ := Option.bind_eq_some_iff.mp hE
      refine y_cVi0 (st := []) (as := [.int (-5 : Int32)]) (c_X7_refuse eq6) lk_X7_77 in_X7_refuse se_X7_refuse rfl eu5 ⟨Nat.le_of_ble_eq_true rfl, Nat.le_of_ble_eq_true rfl⟩ (Nat.le_of_ble_eq_true rfl) dX7_evening_36 ⟨Nat.le_refl _, Nat.le_refl _⟩ rfl ?_
      obtain ⟨rfl, rfl⟩ := x_inj2 hE
      exact y_ret dX7_evening_39 (Nat.le_refl _) (Nat.le_refl _) ⟨_, rfl, rfl⟩
    · rw [if_neg hc39] at hE
      refine y_aload_n dX7_evening_26 0 rfl ?_
      obtain ⟨x7, ex7, hE⟩ := Option.bind_eq_some_iff.mp hE
      refine y_getI fl_X7_68 ex7 dX7_evening_27 ?_
      refine y_if_ne (tgt := 40) dX7_evening_30 (by decide) (fun hc38 => ?_) (fun hc38 => ?_)
      · rw [if_pos hc38] at hE
        refine y_aload_n dX7_evening_33 0 rfl ?_
        refine y_bipush (v := (-5 : Int32)) dX7_evening_34 (by decide) ?_
        obtain ⟨u8, eu8, hE⟩ := Option.bind_eq_some_iff.mp hE
        obtain ⟨q9, eq9, hE⟩ := Option.bind_eq_some_iff.mp hE
        refine y_cVi0 (st := []) (as := [.int (-5 : Int32)]) (c_X7_refuse eq9) lk_X7_77 in_X7_refuse se_X7_refuse rfl eu8 ⟨Nat.le_of_ble_eq_true rfl, Nat.le_of_ble_eq_true rfl⟩ (Nat.le_of_ble_eq_true rfl) dX7_evening_36 ⟨Nat.le_refl _, Nat.le_refl _⟩ rfl ?_
        obtain ⟨rfl, rfl⟩ := x_inj2 hE
        exact y_ret dX7_evening_39 (Nat.le_refl _) (Nat.le_refl _) ⟨_, rfl, rfl⟩
      · rw [if_neg hc38] at hE
        refine y_iconst (v := (0 : Int32)) dX7_evening_40 (by decide) ?_
        refine y_istore_n (ls' := [(2, .int (0 : Int32)), (0, .ref a0), (1, .int p1)]) dX7_evening_41 (by decide) rfl rfl ?_
        refine y_iconst (v := (0 : Int32)) dX7_evening_42 (by decide) ?_
        refine y_istore_n (ls' := [(3, .int (0 : Int32)), (2, .int (0 : Int32)), (0, .ref a0), (1, .int p1)]) dX7_evening_43 (by decide) rfl rfl ?_
        obtain ⟨q37, eq37, hE⟩ := Option.bind_eq_some_iff.mp hE
        refine y_pick [2, 3, 1, 0] rfl ?_
        refine l_X7_evening_44 (S := S) ⟨Nat.le_refl _, Nat.le_refl _⟩ n a0 p1 n (0 : Int32) (0 : Int32) h _ eq37 (fun r8 hr8 => ?_)
        subst hr8
        refine y_iload_n dX7_evening_142 0 rfl ?_
        obtain ⟨rfl, rfl⟩ := x_inj2 hE
        exact y_ret dX7_evening_143 (Nat.le_refl _) (Nat.le_refl _) ⟨_, rfl, rfl⟩
