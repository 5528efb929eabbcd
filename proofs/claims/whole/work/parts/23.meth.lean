theorem dX2_lookFrom_0 : decode cX2_lookFrom 0 = .ok (.iconst 0, 1) := by decide +kernel
theorem dX2_lookFrom_1 : decode cX2_lookFrom 1 = .ok (.istore_n 3, 1) := by decide +kernel
theorem dX2_lookFrom_2 : decode cX2_lookFrom 2 = .ok (.iconst 0, 1) := by decide +kernel
theorem dX2_lookFrom_3 : decode cX2_lookFrom 3 = .ok (.istore 4, 2) := by decide +kernel
theorem dX2_lookFrom_5 : decode cX2_lookFrom 5 = .ok (.iconst 0, 1) := by decide +kernel
theorem dX2_lookFrom_6 : decode cX2_lookFrom 6 = .ok (.istore 5, 2) := by decide +kernel
theorem dX2_lookFrom_8 : decode cX2_lookFrom 8 = .ok (.iload 5, 2) := by decide +kernel
theorem dX2_lookFrom_10 : decode cX2_lookFrom 10 = .ok (.aload_n 0, 1) := by decide +kernel
theorem dX2_lookFrom_11 : decode cX2_lookFrom 11 = .ok (.getfield 39, 3) := by decide +kernel
theorem dX2_lookFrom_14 : decode cX2_lookFrom 14 = .ok (.if_icmp .ge 45, 3) := by decide +kernel
theorem dX2_lookFrom_17 : decode cX2_lookFrom 17 = .ok (.aload_n 1, 1) := by decide +kernel
theorem dX2_lookFrom_18 : decode cX2_lookFrom 18 = .ok (.iload 5, 2) := by decide +kernel
theorem dX2_lookFrom_20 : decode cX2_lookFrom 20 = .ok (.iload_n 2, 1) := by decide +kernel
theorem dX2_lookFrom_21 : decode cX2_lookFrom 21 = .ok (.invokevirtual 88, 3) := by decide +kernel
theorem dX2_lookFrom_24 : decode cX2_lookFrom 24 = .ok (.ifCond .eq 10, 3) := by decide +kernel
theorem dX2_lookFrom_27 : decode cX2_lookFrom 27 = .ok (.iload_n 3, 1) := by decide +kernel
theorem dX2_lookFrom_28 : decode cX2_lookFrom 28 = .ok (.iconst 1, 1) := by decide +kernel
theorem dX2_lookFrom_29 : decode cX2_lookFrom 29 = .ok (.iload 5, 2) := by decide +kernel
theorem dX2_lookFrom_31 : decode cX2_lookFrom 31 = .ok (.ishl, 1) := by decide +kernel
theorem dX2_lookFrom_32 : decode cX2_lookFrom 32 = .ok (.ior, 1) := by decide +kernel
theorem dX2_lookFrom_33 : decode cX2_lookFrom 33 = .ok (.istore_n 3, 1) := by decide +kernel
theorem dX2_lookFrom_34 : decode cX2_lookFrom 34 = .ok (.aload_n 1, 1) := by decide +kernel
theorem dX2_lookFrom_35 : decode cX2_lookFrom 35 = .ok (.iload 5, 2) := by decide +kernel
theorem dX2_lookFrom_37 : decode cX2_lookFrom 37 = .ok (.iload_n 2, 1) := by decide +kernel
theorem dX2_lookFrom_38 : decode cX2_lookFrom 38 = .ok (.invokevirtual 92, 3) := by decide +kernel
theorem dX2_lookFrom_41 : decode cX2_lookFrom 41 = .ok (.ifCond .eq 12, 3) := by decide +kernel
theorem dX2_lookFrom_44 : decode cX2_lookFrom 44 = .ok (.iload 4, 2) := by decide +kernel
theorem dX2_lookFrom_46 : decode cX2_lookFrom 46 = .ok (.iconst 1, 1) := by decide +kernel
theorem dX2_lookFrom_47 : decode cX2_lookFrom 47 = .ok (.iload 5, 2) := by decide +kernel
theorem dX2_lookFrom_49 : decode cX2_lookFrom 49 = .ok (.ishl, 1) := by decide +kernel
theorem dX2_lookFrom_50 : decode cX2_lookFrom 50 = .ok (.ior, 1) := by decide +kernel
theorem dX2_lookFrom_51 : decode cX2_lookFrom 51 = .ok (.istore 4, 2) := by decide +kernel
theorem dX2_lookFrom_53 : decode cX2_lookFrom 53 = .ok (.iinc 5 1, 3) := by decide +kernel
theorem dX2_lookFrom_56 : decode cX2_lookFrom 56 = .ok (.goto (-48), 3) := by decide +kernel
theorem dX2_lookFrom_59 : decode cX2_lookFrom 59 = .ok (.aload_n 0, 1) := by decide +kernel
theorem dX2_lookFrom_60 : decode cX2_lookFrom 60 = .ok (.getfield 15, 3) := by decide +kernel
theorem dX2_lookFrom_63 : decode cX2_lookFrom 63 = .ok (.iload_n 2, 1) := by decide +kernel
theorem dX2_lookFrom_64 : decode cX2_lookFrom 64 = .ok (.iload_n 3, 1) := by decide +kernel
theorem dX2_lookFrom_65 : decode cX2_lookFrom 65 = .ok (.aload_n 0, 1) := by decide +kernel
theorem dX2_lookFrom_66 : decode cX2_lookFrom 66 = .ok (.getfield 69, 3) := by decide +kernel
theorem dX2_lookFrom_69 : decode cX2_lookFrom 69 = .ok (.aload_n 0, 1) := by decide +kernel
theorem dX2_lookFrom_70 : decode cX2_lookFrom 70 = .ok (.getfield 72, 3) := by decide +kernel
theorem dX2_lookFrom_73 : decode cX2_lookFrom 73 = .ok (.ior, 1) := by decide +kernel
theorem dX2_lookFrom_74 : decode cX2_lookFrom 74 = .ok (.iand, 1) := by decide +kernel
theorem dX2_lookFrom_75 : decode cX2_lookFrom 75 = .ok (.iastore, 1) := by decide +kernel
theorem dX2_lookFrom_76 : decode cX2_lookFrom 76 = .ok (.aload_n 0, 1) := by decide +kernel
theorem dX2_lookFrom_77 : decode cX2_lookFrom 77 = .ok (.getfield 18, 3) := by decide +kernel
theorem dX2_lookFrom_80 : decode cX2_lookFrom 80 = .ok (.iload_n 2, 1) := by decide +kernel
theorem dX2_lookFrom_81 : decode cX2_lookFrom 81 = .ok (.iload 4, 2) := by decide +kernel
theorem dX2_lookFrom_83 : decode cX2_lookFrom 83 = .ok (.iastore, 1) := by decide +kernel
theorem dX2_lookFrom_84 : decode cX2_lookFrom 84 = .ok (.return_, 1) := by decide +kernel
theorem dJ6_bitCount_0f7a4_0 : decode cJ6_bitCount_0f7a4 0 = .ok (.iload_n 0, 1) := by decide +kernel
theorem dJ6_bitCount_0f7a4_1 : decode cJ6_bitCount_0f7a4 1 = .ok (.iload_n 0, 1) := by decide +kernel
theorem dJ6_bitCount_0f7a4_2 : decode cJ6_bitCount_0f7a4 2 = .ok (.iconst 1, 1) := by decide +kernel
theorem dJ6_bitCount_0f7a4_3 : decode cJ6_bitCount_0f7a4 3 = .ok (.iushr, 1) := by decide +kernel
theorem dJ6_bitCount_0f7a4_4 : decode cJ6_bitCount_0f7a4 4 = .ok (.ldc_w 265, 3) := by decide +kernel
theorem dJ6_bitCount_0f7a4_7 : decode cJ6_bitCount_0f7a4 7 = .ok (.iand, 1) := by decide +kernel
theorem dJ6_bitCount_0f7a4_8 : decode cJ6_bitCount_0f7a4 8 = .ok (.isub, 1) := by decide +kernel
theorem dJ6_bitCount_0f7a4_9 : decode cJ6_bitCount_0f7a4 9 = .ok (.istore_n 0, 1) := by decide +kernel
theorem dJ6_bitCount_0f7a4_10 : decode cJ6_bitCount_0f7a4 10 = .ok (.iload_n 0, 1) := by decide +kernel
theorem dJ6_bitCount_0f7a4_11 : decode cJ6_bitCount_0f7a4 11 = .ok (.ldc_w 266, 3) := by decide +kernel
theorem dJ6_bitCount_0f7a4_14 : decode cJ6_bitCount_0f7a4 14 = .ok (.iand, 1) := by decide +kernel
theorem dJ6_bitCount_0f7a4_15 : decode cJ6_bitCount_0f7a4 15 = .ok (.iload_n 0, 1) := by decide +kernel
theorem dJ6_bitCount_0f7a4_16 : decode cJ6_bitCount_0f7a4 16 = .ok (.iconst 2, 1) := by decide +kernel
theorem dJ6_bitCount_0f7a4_17 : decode cJ6_bitCount_0f7a4 17 = .ok (.iushr, 1) := by decide +kernel
theorem dJ6_bitCount_0f7a4_18 : decode cJ6_bitCount_0f7a4 18 = .ok (.ldc_w 266, 3) := by decide +kernel
theorem dJ6_bitCount_0f7a4_21 : decode cJ6_bitCount_0f7a4 21 = .ok (.iand, 1) := by decide +kernel
theorem dJ6_bitCount_0f7a4_22 : decode cJ6_bitCount_0f7a4 22 = .ok (.iadd, 1) := by decide +kernel
theorem dJ6_bitCount_0f7a4_23 : decode cJ6_bitCount_0f7a4 23 = .ok (.istore_n 0, 1) := by decide +kernel
theorem dJ6_bitCount_0f7a4_24 : decode cJ6_bitCount_0f7a4 24 = .ok (.iload_n 0, 1) := by decide +kernel
theorem dJ6_bitCount_0f7a4_25 : decode cJ6_bitCount_0f7a4 25 = .ok (.iload_n 0, 1) := by decide +kernel
theorem dJ6_bitCount_0f7a4_26 : decode cJ6_bitCount_0f7a4 26 = .ok (.iconst 4, 1) := by decide +kernel
theorem dJ6_bitCount_0f7a4_27 : decode cJ6_bitCount_0f7a4 27 = .ok (.iushr, 1) := by decide +kernel
theorem dJ6_bitCount_0f7a4_28 : decode cJ6_bitCount_0f7a4 28 = .ok (.iadd, 1) := by decide +kernel
theorem dJ6_bitCount_0f7a4_29 : decode cJ6_bitCount_0f7a4 29 = .ok (.ldc_w 267, 3) := by decide +kernel
theorem dJ6_bitCount_0f7a4_32 : decode cJ6_bitCount_0f7a4 32 = .ok (.iand, 1) := by decide +kernel
theorem dJ6_bitCount_0f7a4_33 : decode cJ6_bitCount_0f7a4 33 = .ok (.istore_n 0, 1) := by decide +kernel
theorem dJ6_bitCount_0f7a4_34 : decode cJ6_bitCount_0f7a4 34 = .ok (.iload_n 0, 1) := by decide +kernel
theorem dJ6_bitCount_0f7a4_35 : decode cJ6_bitCount_0f7a4 35 = .ok (.iload_n 0, 1) := by decide +kernel
theorem dJ6_bitCount_0f7a4_36 : decode cJ6_bitCount_0f7a4 36 = .ok (.bipush 8, 2) := by decide +kernel
theorem dJ6_bitCount_0f7a4_38 : decode cJ6_bitCount_0f7a4 38 = .ok (.iushr, 1) := by decide +kernel
theorem dJ6_bitCount_0f7a4_39 : decode cJ6_bitCount_0f7a4 39 = .ok (.iadd, 1) := by decide +kernel
theorem dJ6_bitCount_0f7a4_40 : decode cJ6_bitCount_0f7a4 40 = .ok (.istore_n 0, 1) := by decide +kernel
theorem dJ6_bitCount_0f7a4_41 : decode cJ6_bitCount_0f7a4 41 = .ok (.iload_n 0, 1) := by decide +kernel
theorem dJ6_bitCount_0f7a4_42 : decode cJ6_bitCount_0f7a4 42 = .ok (.iload_n 0, 1) := by decide +kernel
theorem dJ6_bitCount_0f7a4_43 : decode cJ6_bitCount_0f7a4 43 = .ok (.bipush 16, 2) := by decide +kernel
theorem dJ6_bitCount_0f7a4_45 : decode cJ6_bitCount_0f7a4 45 = .ok (.iushr, 1) := by decide +kernel
theorem dJ6_bitCount_0f7a4_46 : decode cJ6_bitCount_0f7a4 46 = .ok (.iadd, 1) := by decide +kernel
theorem dJ6_bitCount_0f7a4_47 : decode cJ6_bitCount_0f7a4 47 = .ok (.istore_n 0, 1) := by decide +kernel
theorem dJ6_bitCount_0f7a4_48 : decode cJ6_bitCount_0f7a4 48 = .ok (.iload_n 0, 1) := by decide +kernel
theorem dJ6_bitCount_0f7a4_49 : decode cJ6_bitCount_0f7a4 49 = .ok (.bipush 63, 2) := by decide +kernel
theorem dJ6_bitCount_0f7a4_51 : decode cJ6_bitCount_0f7a4 51 = .ok (.iand, 1) := by decide +kernel
theorem dJ6_bitCount_0f7a4_52 : decode cJ6_bitCount_0f7a4 52 = .ok (.ireturn, 1) := by decide +kernel
theorem dX2_weigh_0 : decode cX2_weigh 0 = .ok (.iload_n 1, 1) := by decide +kernel
theorem dX2_weigh_1 : decode cX2_weigh 1 = .ok (.aload_n 0, 1) := by decide +kernel
theorem dX2_weigh_2 : decode cX2_weigh 2 = .ok (.getfield 69, 3) := by decide +kernel
theorem dX2_weigh_5 : decode cX2_weigh 5 = .ok (.iand, 1) := by decide +kernel
theorem dX2_weigh_6 : decode cX2_weigh 6 = .ok (.invokestatic 101, 3) := by decide +kernel
theorem dX2_weigh_9 : decode cX2_weigh 9 = .ok (.iconst 2, 1) := by decide +kernel
theorem dX2_weigh_10 : decode cX2_weigh 10 = .ok (.iload_n 1, 1) := by decide +kernel
theorem dX2_weigh_11 : decode cX2_weigh 11 = .ok (.aload_n 0, 1) := by decide +kernel
theorem dX2_weigh_12 : decode cX2_weigh 12 = .ok (.getfield 72, 3) := by decide +kernel
theorem dX2_weigh_15 : decode cX2_weigh 15 = .ok (.iand, 1) := by decide +kernel
theorem dX2_weigh_16 : decode cX2_weigh 16 = .ok (.invokestatic 101, 3) := by decide +kernel
theorem dX2_weigh_19 : decode cX2_weigh 19 = .ok (.imul, 1) := by decide +kernel
theorem dX2_weigh_20 : decode cX2_weigh 20 = .ok (.iadd, 1) := by decide +kernel
theorem dX2_weigh_21 : decode cX2_weigh 21 = .ok (.ireturn, 1) := by decide +kernel
theorem dX2_listSets_0 : decode cX2_listSets 0 = .ok (.aload_n 0, 1) := by decide +kernel
theorem dX2_listSets_1 : decode cX2_listSets 1 = .ok (.iconst 0, 1) := by decide +kernel
theorem dX2_listSets_2 : decode cX2_listSets 2 = .ok (.putfield 95, 3) := by decide +kernel
theorem dX2_listSets_5 : decode cX2_listSets 5 = .ok (.aload_n 0, 1) := by decide +kernel
theorem dX2_listSets_6 : decode cX2_listSets 6 = .ok (.getfield 69, 3) := by decide +kernel
theorem dX2_listSets_9 : decode cX2_listSets 9 = .ok (.aload_n 0, 1) := by decide +kernel
theorem dX2_listSets_10 : decode cX2_listSets 10 = .ok (.getfield 72, 3) := by decide +kernel
theorem dX2_listSets_13 : decode cX2_listSets 13 = .ok (.ior, 1) := by decide +kernel
theorem dX2_listSets_14 : decode cX2_listSets 14 = .ok (.istore_n 1, 1) := by decide +kernel
theorem dX2_listSets_15 : decode cX2_listSets 15 = .ok (.iload_n 1, 1) := by decide +kernel
theorem dX2_listSets_16 : decode cX2_listSets 16 = .ok (.istore_n 2, 1) := by decide +kernel
theorem dX2_listSets_17 : decode cX2_listSets 17 = .ok (.iload_n 2, 1) := by decide +kernel
theorem dX2_listSets_18 : decode cX2_listSets 18 = .ok (.ifCond .le 82, 3) := by decide +kernel
theorem dX2_listSets_21 : decode cX2_listSets 21 = .ok (.aload_n 0, 1) := by decide +kernel
theorem dX2_listSets_22 : decode cX2_listSets 22 = .ok (.iload_n 2, 1) := by decide +kernel
theorem dX2_listSets_23 : decode cX2_listSets 23 = .ok (.invokevirtual 98, 3) := by decide +kernel
theorem dX2_listSets_26 : decode cX2_listSets 26 = .ok (.istore_n 3, 1) := by decide +kernel
theorem dX2_listSets_27 : decode cX2_listSets 27 = .ok (.iload_n 2, 1) := by decide +kernel
theorem dX2_listSets_28 : decode cX2_listSets 28 = .ok (.aload_n 0, 1) := by decide +kernel
theorem dX2_listSets_29 : decode cX2_listSets 29 = .ok (.getfield 69, 3) := by decide +kernel
theorem dX2_listSets_32 : decode cX2_listSets 32 = .ok (.iand, 1) := by decide +kernel
theorem dX2_listSets_33 : decode cX2_listSets 33 = .ok (.ifCond .eq 7, 3) := by decide +kernel
theorem dX2_listSets_36 : decode cX2_listSets 36 = .ok (.iconst 1, 1) := by decide +kernel
theorem dX2_listSets_37 : decode cX2_listSets 37 = .ok (.goto 4, 3) := by decide +kernel
theorem dX2_listSets_40 : decode cX2_listSets 40 = .ok (.iconst 2, 1) := by decide +kernel
theorem dX2_listSets_41 : decode cX2_listSets 41 = .ok (.istore 4, 2) := by decide +kernel
theorem dX2_listSets_43 : decode cX2_listSets 43 = .ok (.iload_n 3, 1) := by decide +kernel
theorem dX2_listSets_44 : decode cX2_listSets 44 = .ok (.aload_n 0, 1) := by decide +kernel
theorem dX2_listSets_45 : decode cX2_listSets 45 = .ok (.getfield 45, 3) := by decide +kernel
theorem dX2_listSets_48 : decode cX2_listSets 48 = .ok (.if_icmp .lt 43, 3) := by decide +kernel
theorem dX2_listSets_51 : decode cX2_listSets 51 = .ok (.iload_n 3, 1) := by decide +kernel
theorem dX2_listSets_52 : decode cX2_listSets 52 = .ok (.iload 4, 2) := by decide +kernel
theorem dX2_listSets_54 : decode cX2_listSets 54 = .ok (.isub, 1) := by decide +kernel
theorem dX2_listSets_55 : decode cX2_listSets 55 = .ok (.aload_n 0, 1) := by decide +kernel
theorem dX2_listSets_56 : decode cX2_listSets 56 = .ok (.getfield 45, 3) := by decide +kernel
theorem dX2_listSets_59 : decode cX2_listSets 59 = .ok (.if_icmp .ge 32, 3) := by decide +kernel
theorem dX2_listSets_62 : decode cX2_listSets 62 = .ok (.aload_n 0, 1) := by decide +kernel
theorem dX2_listSets_63 : decode cX2_listSets 63 = .ok (.getfield 95, 3) := by decide +kernel
theorem dX2_listSets_66 : decode cX2_listSets 66 = .ok (.bipush 126, 2) := by decide +kernel
theorem dX2_listSets_68 : decode cX2_listSets 68 = .ok (.if_icmp .ge 23, 3) := by decide +kernel
theorem dX2_listSets_71 : decode cX2_listSets 71 = .ok (.aload_n 0, 1) := by decide +kernel
theorem dX2_listSets_72 : decode cX2_listSets 72 = .ok (.getfield 21, 3) := by decide +kernel
theorem dX2_listSets_75 : decode cX2_listSets 75 = .ok (.aload_n 0, 1) := by decide +kernel
theorem dX2_listSets_76 : decode cX2_listSets 76 = .ok (.getfield 95, 3) := by decide +kernel
theorem dX2_listSets_79 : decode cX2_listSets 79 = .ok (.iload_n 2, 1) := by decide +kernel
theorem dX2_listSets_80 : decode cX2_listSets 80 = .ok (.iastore, 1) := by decide +kernel
theorem dX2_listSets_81 : decode cX2_listSets 81 = .ok (.aload_n 0, 1) := by decide +kernel
theorem dX2_listSets_82 : decode cX2_listSets 82 = .ok (.dup, 1) := by decide +kernel
theorem dX2_listSets_83 : decode cX2_listSets 83 = .ok (.getfield 95, 3) := by decide +kernel
theorem dX2_listSets_86 : decode cX2_listSets 86 = .ok (.iconst 1, 1) := by decide +kernel
theorem dX2_listSets_87 : decode cX2_listSets 87 = .ok (.iadd, 1) := by decide +kernel
theorem dX2_listSets_88 : decode cX2_listSets 88 = .ok (.putfield 95, 3) := by decide +kernel
theorem dX2_listSets_91 : decode cX2_listSets 91 = .ok (.iload_n 2, 1) := by decide +kernel
theorem dX2_listSets_92 : decode cX2_listSets 92 = .ok (.iconst 1, 1) := by decide +kernel
theorem dX2_listSets_93 : decode cX2_listSets 93 = .ok (.isub, 1) := by decide +kernel
theorem dX2_listSets_94 : decode cX2_listSets 94 = .ok (.iload_n 1, 1) := by decide +kernel
theorem dX2_listSets_95 : decode cX2_listSets 95 = .ok (.iand, 1) := by decide +kernel
theorem dX2_listSets_96 : decode cX2_listSets 96 = .ok (.istore_n 2, 1) := by decide +kernel
theorem dX2_listSets_97 : decode cX2_listSets 97 = .ok (.goto (-80), 3) := by decide +kernel
theorem dX2_listSets_100 : decode cX2_listSets 100 = .ok (.return_, 1) := by decide +kernel
theorem dX2_lay_0 : decode cX2_lay 0 = .ok (.aload_n 0, 1) := by decide +kernel
theorem dX2_lay_1 : decode cX2_lay 1 = .ok (.aload_n 1, 1) := by decide +kernel
theorem dX2_lay_2 : decode cX2_lay 2 = .ok (.getfield 27, 3) := by decide +kernel
theorem dX2_lay_5 : decode cX2_lay 5 = .ok (.bipush 9, 2) := by decide +kernel
theorem dX2_lay_7 : decode cX2_lay 7 = .ok (.invokestatic 33, 3) := by decide +kernel
theorem dX2_lay_10 : decode cX2_lay 10 = .ok (.putfield 39, 3) := by decide +kernel
theorem dX2_lay_13 : decode cX2_lay 13 = .ok (.aload_n 0, 1) := by decide +kernel
theorem dX2_lay_14 : decode cX2_lay 14 = .ok (.aload_n 1, 1) := by decide +kernel
theorem dX2_lay_15 : decode cX2_lay 15 = .ok (.getfield 42, 3) := by decide +kernel
theorem dX2_lay_18 : decode cX2_lay 18 = .ok (.putfield 45, 3) := by decide +kernel
theorem dX2_lay_21 : decode cX2_lay 21 = .ok (.aload_n 0, 1) := by decide +kernel
theorem dX2_lay_22 : decode cX2_lay 22 = .ok (.dup, 1) := by decide +kernel
theorem dX2_lay_23 : decode cX2_lay 23 = .ok (.getfield 46, 3) := by decide +kernel
theorem dX2_lay_26 : decode cX2_lay 26 = .ok (.iconst 1, 1) := by decide +kernel
theorem dX2_lay_27 : decode cX2_lay 27 = .ok (.iadd, 1) := by decide +kernel
theorem dX2_lay_28 : decode cX2_lay 28 = .ok (.putfield 46, 3) := by decide +kernel
theorem dX2_lay_31 : decode cX2_lay 31 = .ok (.aload_n 0, 1) := by decide +kernel
theorem dX2_lay_32 : decode cX2_lay 32 = .ok (.getfield 24, 3) := by decide +kernel
theorem dX2_lay_35 : decode cX2_lay 35 = .ok (.arraylength, 1) := by decide +kernel
theorem dX2_lay_36 : decode cX2_lay 36 = .ok (.bipush 8, 2) := by decide +kernel
theorem dX2_lay_38 : decode cX2_lay 38 = .ok (.aload_n 0, 1) := by decide +kernel
theorem dX2_lay_39 : decode cX2_lay 39 = .ok (.getfield 39, 3) := by decide +kernel
theorem dX2_lay_42 : decode cX2_lay 42 = .ok (.ishl, 1) := by decide +kernel
theorem dX2_lay_43 : decode cX2_lay 43 = .ok (.if_icmp .ge 16, 3) := by decide +kernel
theorem dX2_lay_46 : decode cX2_lay 46 = .ok (.aload_n 0, 1) := by decide +kernel
theorem dX2_lay_47 : decode cX2_lay 47 = .ok (.bipush 8, 2) := by decide +kernel
theorem dX2_lay_49 : decode cX2_lay 49 = .ok (.aload_n 0, 1) := by decide +kernel
theorem dX2_lay_50 : decode cX2_lay 50 = .ok (.getfield 39, 3) := by decide +kernel
theorem dX2_lay_53 : decode cX2_lay 53 = .ok (.ishl, 1) := by decide +kernel
theorem dX2_lay_54 : decode cX2_lay 54 = .ok (.newarray .int, 2) := by decide +kernel
theorem dX2_lay_56 : decode cX2_lay 56 = .ok (.putfield 24, 3) := by decide +kernel
theorem dX2_lay_59 : decode cX2_lay 59 = .ok (.aload_n 0, 1) := by decide +kernel
theorem dX2_lay_60 : decode cX2_lay 60 = .ok (.aload_n 1, 1) := by decide +kernel
theorem dX2_lay_61 : decode cX2_lay 61 = .ok (.invokevirtual 49, 3) := by decide +kernel
theorem dX2_lay_64 : decode cX2_lay 64 = .ok (.iconst 0, 1) := by decide +kernel
theorem dX2_lay_65 : decode cX2_lay 65 = .ok (.istore_n 3, 1) := by decide +kernel
theorem dX2_lay_66 : decode cX2_lay 66 = .ok (.iload_n 3, 1) := by decide +kernel
theorem dX2_lay_67 : decode cX2_lay 67 = .ok (.bipush 8, 2) := by decide +kernel
theorem dX2_lay_69 : decode cX2_lay 69 = .ok (.if_icmp .ge 15, 3) := by decide +kernel
theorem dX2_lay_72 : decode cX2_lay 72 = .ok (.aload_n 0, 1) := by decide +kernel
theorem dX2_lay_73 : decode cX2_lay 73 = .ok (.aload_n 1, 1) := by decide +kernel
theorem dX2_lay_74 : decode cX2_lay 74 = .ok (.iload_n 3, 1) := by decide +kernel
theorem dX2_lay_75 : decode cX2_lay 75 = .ok (.invokevirtual 53, 3) := by decide +kernel
theorem dX2_lay_78 : decode cX2_lay 78 = .ok (.iinc 3 1, 3) := by decide +kernel
theorem dX2_lay_81 : decode cX2_lay 81 = .ok (.goto (-15), 3) := by decide +kernel
theorem dX2_lay_84 : decode cX2_lay 84 = .ok (.aload_n 0, 1) := by decide +kernel
theorem dX2_lay_85 : decode cX2_lay 85 = .ok (.iconst 0, 1) := by decide +kernel
theorem dX2_lay_86 : decode cX2_lay 86 = .ok (.putfield 57, 3) := by decide +kernel
theorem dX2_lay_89 : decode cX2_lay 89 = .ok (.iconst 0, 1) := by decide +kernel
theorem dX2_lay_90 : decode cX2_lay 90 = .ok (.istore_n 3, 1) := by decide +kernel
theorem dX2_lay_91 : decode cX2_lay 91 = .ok (.iload_n 3, 1) := by decide +kernel
theorem dX2_lay_92 : decode cX2_lay 92 = .ok (.aload_n 1, 1) := by decide +kernel
theorem dX2_lay_93 : decode cX2_lay 93 = .ok (.getfield 60, 3) := by decide +kernel
theorem dX2_lay_96 : decode cX2_lay 96 = .ok (.if_icmp .ge 34, 3) := by decide +kernel
theorem dX2_lay_99 : decode cX2_lay 99 = .ok (.iload_n 3, 1) := by decide +kernel
theorem dX2_lay_100 : decode cX2_lay 100 = .ok (.iload_n 2, 1) := by decide +kernel
theorem dX2_lay_101 : decode cX2_lay 101 = .ok (.if_icmp .eq 23, 3) := by decide +kernel
theorem dX2_lay_104 : decode cX2_lay 104 = .ok (.aload_n 0, 1) := by decide +kernel
theorem dX2_lay_105 : decode cX2_lay 105 = .ok (.dup, 1) := by decide +kernel
theorem dX2_lay_106 : decode cX2_lay 106 = .ok (.getfield 57, 3) := by decide +kernel
theorem dX2_lay_109 : decode cX2_lay 109 = .ok (.aload_n 0, 1) := by decide +kernel
theorem dX2_lay_110 : decode cX2_lay 110 = .ok (.getfield 15, 3) := by decide +kernel
theorem dX2_lay_113 : decode cX2_lay 113 = .ok (.aload_n 1, 1) := by decide +kernel
theorem dX2_lay_114 : decode cX2_lay 114 = .ok (.getfield 63, 3) := by decide +kernel
theorem dX2_lay_117 : decode cX2_lay 117 = .ok (.iload_n 3, 1) := by decide +kernel
theorem dX2_lay_118 : decode cX2_lay 118 = .ok (.iaload, 1) := by decide +kernel
theorem dX2_lay_119 : decode cX2_lay 119 = .ok (.iaload, 1) := by decide +kernel
theorem dX2_lay_120 : decode cX2_lay 120 = .ok (.ior, 1) := by decide +kernel
theorem dX2_lay_121 : decode cX2_lay 121 = .ok (.putfield 57, 3) := by decide +kernel
theorem dX2_lay_124 : decode cX2_lay 124 = .ok (.iinc 3 1, 3) := by decide +kernel
theorem dX2_lay_127 : decode cX2_lay 127 = .ok (.goto (-36), 3) := by decide +kernel
theorem dX2_lay_130 : decode cX2_lay 130 = .ok (.aload_n 0, 1) := by decide +kernel
theorem dX2_lay_131 : decode cX2_lay 131 = .ok (.invokevirtual 66, 3) := by decide +kernel
theorem dX2_lay_134 : decode cX2_lay 134 = .ok (.return_, 1) := by decide +kernel
theorem dX2_partOf_0 : decode cX2_partOf 0 = .ok (.iload_n 1, 1) := by decide +kernel
theorem dX2_partOf_1 : decode cX2_partOf 1 = .ok (.bipush 8, 2) := by decide +kernel
theorem dX2_partOf_3 : decode cX2_partOf 3 = .ok (.imul, 1) := by decide +kernel
theorem dX2_partOf_4 : decode cX2_partOf 4 = .ok (.iload_n 2, 1) := by decide +kernel
theorem dX2_partOf_5 : decode cX2_partOf 5 = .ok (.iadd, 1) := by decide +kernel
theorem dX2_partOf_6 : decode cX2_partOf 6 = .ok (.istore_n 3, 1) := by decide +kernel
theorem dX2_partOf_7 : decode cX2_partOf 7 = .ok (.iload_n 3, 1) := by decide +kernel
theorem dX2_partOf_8 : decode cX2_partOf 8 = .ok (.ifCond .lt 12, 3) := by decide +kernel
theorem dX2_partOf_11 : decode cX2_partOf 11 = .ok (.iload_n 3, 1) := by decide +kernel
theorem dX2_partOf_12 : decode cX2_partOf 12 = .ok (.aload_n 0, 1) := by decide +kernel
theorem dX2_partOf_13 : decode cX2_partOf 13 = .ok (.getfield 24, 3) := by decide +kernel
theorem dX2_partOf_16 : decode cX2_partOf 16 = .ok (.arraylength, 1) := by decide +kernel
theorem dX2_partOf_17 : decode cX2_partOf 17 = .ok (.if_icmp .lt 5, 3) := by decide +kernel
theorem dX2_partOf_20 : decode cX2_partOf 20 = .ok (.iconst 0, 1) := by decide +kernel
theorem dX2_partOf_21 : decode cX2_partOf 21 = .ok (.ireturn, 1) := by decide +kernel
theorem dX2_partOf_22 : decode cX2_partOf 22 = .ok (.aload_n 0, 1) := by decide +kernel
theorem dX2_partOf_23 : decode cX2_partOf 23 = .ok (.getfield 24, 3) := by decide +kernel
theorem dX2_partOf_26 : decode cX2_partOf 26 = .ok (.iload_n 3, 1) := by decide +kernel
theorem dX2_partOf_27 : decode cX2_partOf 27 = .ok (.iaload, 1) := by decide +kernel
theorem dX2_partOf_28 : decode cX2_partOf 28 = .ok (.bipush 8, 2) := by decide +kernel
theorem dX2_partOf_30 : decode cX2_partOf 30 = .ok (.ishr, 1) := by decide +kernel
theorem dX2_partOf_31 : decode cX2_partOf 31 = .ok (.aload_n 0, 1) := by decide +kernel
theorem dX2_partOf_32 : decode cX2_partOf 32 = .ok (.getfield 46, 3) := by decide +kernel
theorem dX2_partOf_35 : decode cX2_partOf 35 = .ok (.if_icmp .ne 14, 3) := by decide +kernel
theorem dX2_partOf_38 : decode cX2_partOf 38 = .ok (.aload_n 0, 1) := by decide +kernel
theorem dX2_partOf_39 : decode cX2_partOf 39 = .ok (.getfield 24, 3) := by decide +kernel
theorem dX2_partOf_42 : decode cX2_partOf 42 = .ok (.iload_n 3, 1) := by decide +kernel
theorem dX2_partOf_43 : decode cX2_partOf 43 = .ok (.iaload, 1) := by decide +kernel
theorem dX2_partOf_44 : decode cX2_partOf 44 = .ok (.sipush 255, 3) := by decide +kernel
theorem dX2_partOf_47 : decode cX2_partOf 47 = .ok (.iand, 1) := by decide +kernel
theorem dX2_partOf_48 : decode cX2_partOf 48 = .ok (.ireturn, 1) := by decide +kernel
theorem dX2_partOf_49 : decode cX2_partOf 49 = .ok (.iconst 1, 1) := by decide +kernel
theorem dX2_partOf_50 : decode cX2_partOf 50 = .ok (.iload_n 2, 1) := by decide +kernel
theorem dX2_partOf_51 : decode cX2_partOf 51 = .ok (.ishl, 1) := by decide +kernel
theorem dX2_partOf_52 : decode cX2_partOf 52 = .ok (.istore 4, 2) := by decide +kernel
theorem dX2_partOf_54 : decode cX2_partOf 54 = .ok (.iconst 0, 1) := by decide +kernel
theorem dX2_partOf_55 : decode cX2_partOf 55 = .ok (.istore 5, 2) := by decide +kernel
theorem dX2_partOf_57 : decode cX2_partOf 57 = .ok (.iconst 0, 1) := by decide +kernel
theorem dX2_partOf_58 : decode cX2_partOf 58 = .ok (.istore 6, 2) := by decide +kernel
theorem dX2_partOf_60 : decode cX2_partOf 60 = .ok (.iload 6, 2) := by decide +kernel
theorem dX2_partOf_62 : decode cX2_partOf 62 = .ok (.bipush 8, 2) := by decide +kernel
theorem dX2_partOf_64 : decode cX2_partOf 64 = .ok (.if_icmp .ge 72, 3) := by decide +kernel
theorem dX2_partOf_67 : decode cX2_partOf 67 = .ok (.iload 4, 2) := by decide +kernel
theorem dX2_partOf_69 : decode cX2_partOf 69 = .ok (.iload 5, 2) := by decide +kernel
theorem dX2_partOf_71 : decode cX2_partOf 71 = .ok (.if_icmp .eq 65, 3) := by decide +kernel
theorem dX2_partOf_74 : decode cX2_partOf 74 = .ok (.iload 4, 2) := by decide +kernel
theorem dX2_partOf_76 : decode cX2_partOf 76 = .ok (.istore 5, 2) := by decide +kernel
theorem dX2_partOf_78 : decode cX2_partOf 78 = .ok (.iconst 0, 1) := by decide +kernel
theorem dX2_partOf_79 : decode cX2_partOf 79 = .ok (.istore 7, 2) := by decide +kernel
theorem dX2_partOf_81 : decode cX2_partOf 81 = .ok (.iload 7, 2) := by decide +kernel
theorem dX2_partOf_83 : decode cX2_partOf 83 = .ok (.aload_n 0, 1) := by decide +kernel
theorem dX2_partOf_84 : decode cX2_partOf 84 = .ok (.getfield 39, 3) := by decide +kernel
theorem dX2_partOf_87 : decode cX2_partOf 87 = .ok (.if_icmp .ge 43, 3) := by decide +kernel
theorem dX2_partOf_90 : decode cX2_partOf 90 = .ok (.iload_n 1, 1) := by decide +kernel
theorem dX2_partOf_91 : decode cX2_partOf 91 = .ok (.iload 7, 2) := by decide +kernel
theorem dX2_partOf_93 : decode cX2_partOf 93 = .ok (.ishr, 1) := by decide +kernel
theorem dX2_partOf_94 : decode cX2_partOf 94 = .ok (.iconst 1, 1) := by decide +kernel
theorem dX2_partOf_95 : decode cX2_partOf 95 = .ok (.iand, 1) := by decide +kernel
theorem dX2_partOf_96 : decode cX2_partOf 96 = .ok (.ifCond .eq 28, 3) := by decide +kernel
theorem dX2_partOf_99 : decode cX2_partOf 99 = .ok (.iload 4, 2) := by decide +kernel
theorem dX2_partOf_101 : decode cX2_partOf 101 = .ok (.aload_n 0, 1) := by decide +kernel
theorem dX2_partOf_102 : decode cX2_partOf 102 = .ok (.getfield 9, 3) := by decide +kernel
theorem dX2_partOf_105 : decode cX2_partOf 105 = .ok (.iload 7, 2) := by decide +kernel
theorem dX2_partOf_107 : decode cX2_partOf 107 = .ok (.iaload, 1) := by decide +kernel
theorem dX2_partOf_108 : decode cX2_partOf 108 = .ok (.iand, 1) := by decide +kernel
theorem dX2_partOf_109 : decode cX2_partOf 109 = .ok (.ifCond .eq 15, 3) := by decide +kernel
theorem dX2_partOf_112 : decode cX2_partOf 112 = .ok (.iload 4, 2) := by decide +kernel
theorem dX2_partOf_114 : decode cX2_partOf 114 = .ok (.aload_n 0, 1) := by decide +kernel
theorem dX2_partOf_115 : decode cX2_partOf 115 = .ok (.getfield 9, 3) := by decide +kernel
theorem dX2_partOf_118 : decode cX2_partOf 118 = .ok (.iload 7, 2) := by decide +kernel
theorem dX2_partOf_120 : decode cX2_partOf 120 = .ok (.iaload, 1) := by decide +kernel
theorem dX2_partOf_121 : decode cX2_partOf 121 = .ok (.ior, 1) := by decide +kernel
theorem dX2_partOf_122 : decode cX2_partOf 122 = .ok (.istore 4, 2) := by decide +kernel
theorem dX2_partOf_124 : decode cX2_partOf 124 = .ok (.iinc 7 1, 3) := by decide +kernel
theorem dX2_partOf_127 : decode cX2_partOf 127 = .ok (.goto (-46), 3) := by decide +kernel
theorem dX2_partOf_130 : decode cX2_partOf 130 = .ok (.iinc 6 1, 3) := by decide +kernel
theorem dX2_partOf_133 : decode cX2_partOf 133 = .ok (.goto (-73), 3) := by decide +kernel
theorem dX2_partOf_136 : decode cX2_partOf 136 = .ok (.iconst 0, 1) := by decide +kernel
theorem dX2_partOf_137 : decode cX2_partOf 137 = .ok (.istore 6, 2) := by decide +kernel
theorem dX2_partOf_139 : decode cX2_partOf 139 = .ok (.iload 6, 2) := by decide +kernel
theorem dX2_partOf_141 : decode cX2_partOf 141 = .ok (.bipush 8, 2) := by decide +kernel
theorem dX2_partOf_143 : decode cX2_partOf 143 = .ok (.if_icmp .ge 41, 3) := by decide +kernel
theorem dX2_partOf_146 : decode cX2_partOf 146 = .ok (.iload 4, 2) := by decide +kernel
theorem dX2_partOf_148 : decode cX2_partOf 148 = .ok (.iload 6, 2) := by decide +kernel
theorem dX2_partOf_150 : decode cX2_partOf 150 = .ok (.ishr, 1) := by decide +kernel
theorem dX2_partOf_151 : decode cX2_partOf 151 = .ok (.iconst 1, 1) := by decide +kernel
theorem dX2_partOf_152 : decode cX2_partOf 152 = .ok (.iand, 1) := by decide +kernel
theorem dX2_partOf_153 : decode cX2_partOf 153 = .ok (.ifCond .eq 25, 3) := by decide +kernel
theorem dX2_partOf_156 : decode cX2_partOf 156 = .ok (.aload_n 0, 1) := by decide +kernel
theorem dX2_partOf_157 : decode cX2_partOf 157 = .ok (.getfield 24, 3) := by decide +kernel
theorem dX2_partOf_160 : decode cX2_partOf 160 = .ok (.iload_n 1, 1) := by decide +kernel
theorem dX2_partOf_161 : decode cX2_partOf 161 = .ok (.bipush 8, 2) := by decide +kernel
theorem dX2_partOf_163 : decode cX2_partOf 163 = .ok (.imul, 1) := by decide +kernel
theorem dX2_partOf_164 : decode cX2_partOf 164 = .ok (.iload 6, 2) := by decide +kernel
theorem dX2_partOf_166 : decode cX2_partOf 166 = .ok (.iadd, 1) := by decide +kernel
theorem dX2_partOf_167 : decode cX2_partOf 167 = .ok (.aload_n 0, 1) := by decide +kernel
theorem dX2_partOf_168 : decode cX2_partOf 168 = .ok (.getfield 46, 3) := by decide +kernel
theorem dX2_partOf_171 : decode cX2_partOf 171 = .ok (.bipush 8, 2) := by decide +kernel
theorem dX2_partOf_173 : decode cX2_partOf 173 = .ok (.ishl, 1) := by decide +kernel
theorem dX2_partOf_174 : decode cX2_partOf 174 = .ok (.iload 4, 2) := by decide +kernel
theorem dX2_partOf_176 : decode cX2_partOf 176 = .ok (.ior, 1) := by decide +kernel
theorem dX2_partOf_177 : decode cX2_partOf 177 = .ok (.iastore, 1) := by decide +kernel
theorem dX2_partOf_178 : decode cX2_partOf 178 = .ok (.iinc 6 1, 3) := by decide +kernel
theorem dX2_partOf_181 : decode cX2_partOf 181 = .ok (.goto (-42), 3) := by decide +kernel
theorem dX2_partOf_184 : decode cX2_partOf 184 = .ok (.iload 4, 2) := by decide +kernel
theorem dX2_partOf_186 : decode cX2_partOf 186 = .ok (.ireturn, 1) := by decide +kernel
theorem dX3_init_0 : decode cX3_init 0 = .ok (.aload_n 0, 1) := by decide +kernel
theorem dX3_init_1 : decode cX3_init 1 = .ok (.invokespecial 5, 3) := by decide +kernel
theorem dX3_init_4 : decode cX3_init 4 = .ok (.aload_n 0, 1) := by decide +kernel
theorem dX3_init_5 : decode cX3_init 5 = .ok (.iconst 4, 1) := by decide +kernel
theorem dX3_init_6 : decode cX3_init 6 = .ok (.newarray .int, 2) := by decide +kernel
theorem dX3_init_8 : decode cX3_init 8 = .ok (.putfield 11, 3) := by decide +kernel
theorem dX3_init_11 : decode cX3_init 11 = .ok (.aload_n 0, 1) := by decide +kernel
theorem dX3_init_12 : decode cX3_init 12 = .ok (.new 15, 3) := by decide +kernel
theorem dX3_init_15 : decode cX3_init 15 = .ok (.dup, 1) := by decide +kernel
theorem dX3_init_16 : decode cX3_init 16 = .ok (.invokespecial 17, 3) := by decide +kernel
theorem dX3_init_19 : decode cX3_init 19 = .ok (.putfield 18, 3) := by decide +kernel
theorem dX3_init_22 : decode cX3_init 22 = .ok (.aload_n 0, 1) := by decide +kernel
theorem dX3_init_23 : decode cX3_init 23 = .ok (.iconst 0, 1) := by decide +kernel
theorem dX3_init_24 : decode cX3_init 24 = .ok (.newarray .int, 2) := by decide +kernel
theorem dX3_init_26 : decode cX3_init 26 = .ok (.putfield 22, 3) := by decide +kernel
theorem dX3_init_29 : decode cX3_init 29 = .ok (.aload_n 0, 1) := by decide +kernel
theorem dX3_init_30 : decode cX3_init 30 = .ok (.iconst 0, 1) := by decide +kernel
theorem dX3_init_31 : decode cX3_init 31 = .ok (.newarray .int, 2) := by decide +kernel
theorem dX3_init_33 : decode cX3_init 33 = .ok (.putfield 25, 3) := by decide +kernel
theorem dX3_init_36 : decode cX3_init 36 = .ok (.aload_n 0, 1) := by decide +kernel
theorem dX3_init_37 : decode cX3_init 37 = .ok (.iconst 1, 1) := by decide +kernel
theorem dX3_init_38 : decode cX3_init 38 = .ok (.putfield 28, 3) := by decide +kernel
theorem dX3_init_41 : decode cX3_init 41 = .ok (.return_, 1) := by decide +kernel
theorem dX3_forgetGoals_0 : decode cX3_forgetGoals 0 = .ok (.aload_n 0, 1) := by decide +kernel
theorem dX3_forgetGoals_1 : decode cX3_forgetGoals 1 = .ok (.iconst 0, 1) := by decide +kernel
theorem dX3_forgetGoals_2 : decode cX3_forgetGoals 2 = .ok (.putfield 32, 3) := by decide +kernel
theorem dX3_forgetGoals_5 : decode cX3_forgetGoals 5 = .ok (.return_, 1) := by decide +kernel
theorem dX3_addGoal_0 : decode cX3_addGoal 0 = .ok (.aload_n 0, 1) := by decide +kernel
theorem dX3_addGoal_1 : decode cX3_addGoal 1 = .ok (.getfield 32, 3) := by decide +kernel
theorem dX3_addGoal_4 : decode cX3_addGoal 4 = .ok (.iconst 4, 1) := by decide +kernel
theorem dX3_addGoal_5 : decode cX3_addGoal 5 = .ok (.if_icmp .ge 23, 3) := by decide +kernel
theorem dX3_addGoal_8 : decode cX3_addGoal 8 = .ok (.aload_n 0, 1) := by decide +kernel
theorem dX3_addGoal_9 : decode cX3_addGoal 9 = .ok (.getfield 11, 3) := by decide +kernel
theorem dX3_addGoal_12 : decode cX3_addGoal 12 = .ok (.aload_n 0, 1) := by decide +kernel
theorem dX3_addGoal_13 : decode cX3_addGoal 13 = .ok (.getfield 32, 3) := by decide +kernel
theorem dX3_addGoal_16 : decode cX3_addGoal 16 = .ok (.iload_n 1, 1) := by decide +kernel
theorem dX3_addGoal_17 : decode cX3_addGoal 17 = .ok (.iastore, 1) := by decide +kernel
theorem dX3_addGoal_18 : decode cX3_addGoal 18 = .ok (.aload_n 0, 1) := by decide +kernel
theorem dX3_addGoal_19 : decode cX3_addGoal 19 = .ok (.dup, 1) := by decide +kernel
theorem dX3_addGoal_20 : decode cX3_addGoal 20 = .ok (.getfield 32, 3) := by decide +kernel
theorem dX3_addGoal_23 : decode cX3_addGoal 23 = .ok (.iconst 1, 1) := by decide +kernel
theorem dX3_addGoal_24 : decode cX3_addGoal 24 = .ok (.iadd, 1) := by decide +kernel
theorem dX3_addGoal_25 : decode cX3_addGoal 25 = .ok (.putfield 32, 3) := by decide +kernel
theorem dX3_addGoal_28 : decode cX3_addGoal 28 = .ok (.return_, 1) := by decide +kernel
theorem dX3_begin_0 : decode cX3_begin 0 = .ok (.iconst 1, 1) := by decide +kernel
theorem dX3_begin_1 : decode cX3_begin 1 = .ok (.aload_n 0, 1) := by decide +kernel
theorem dX3_begin_2 : decode cX3_begin 2 = .ok (.getfield 32, 3) := by decide +kernel
theorem dX3_begin_5 : decode cX3_begin 5 = .ok (.invokestatic 80, 3) := by decide +kernel
theorem dX3_begin_8 : decode cX3_begin 8 = .ok (.bipush 8, 2) := by decide +kernel
theorem dX3_begin_10 : decode cX3_begin 10 = .ok (.aload_n 0, 1) := by decide +kernel
theorem dX3_begin_11 : decode cX3_begin 11 = .ok (.getfield 18, 3) := by decide +kernel
theorem dX3_begin_14 : decode cX3_begin 14 = .ok (.getfield 47, 3) := by decide +kernel
theorem dX3_begin_17 : decode cX3_begin 17 = .ok (.ishl, 1) := by decide +kernel
theorem dX3_begin_18 : decode cX3_begin 18 = .ok (.imul, 1) := by decide +kernel
theorem dX3_begin_19 : decode cX3_begin 19 = .ok (.istore_n 1, 1) := by decide +kernel
theorem dX3_begin_20 : decode cX3_begin 20 = .ok (.aload_n 0, 1) := by decide +kernel
theorem dX3_begin_21 : decode cX3_begin 21 = .ok (.getfield 22, 3) := by decide +kernel
theorem dX3_begin_24 : decode cX3_begin 24 = .ok (.arraylength, 1) := by decide +kernel
theorem dX3_begin_25 : decode cX3_begin 25 = .ok (.iload_n 1, 1) := by decide +kernel
theorem dX3_begin_26 : decode cX3_begin 26 = .ok (.if_icmp .ge 22, 3) := by decide +kernel
theorem dX3_begin_29 : decode cX3_begin 29 = .ok (.aload_n 0, 1) := by decide +kernel
theorem dX3_begin_30 : decode cX3_begin 30 = .ok (.iload_n 1, 1) := by decide +kernel
theorem dX3_begin_31 : decode cX3_begin 31 = .ok (.newarray .int, 2) := by decide +kernel
theorem dX3_begin_33 : decode cX3_begin 33 = .ok (.putfield 22, 3) := by decide +kernel
theorem dX3_begin_36 : decode cX3_begin 36 = .ok (.aload_n 0, 1) := by decide +kernel
theorem dX3_begin_37 : decode cX3_begin 37 = .ok (.iload_n 1, 1) := by decide +kernel
theorem dX3_begin_38 : decode cX3_begin 38 = .ok (.newarray .int, 2) := by decide +kernel
theorem dX3_begin_40 : decode cX3_begin 40 = .ok (.putfield 25, 3) := by decide +kernel
theorem dX3_begin_43 : decode cX3_begin 43 = .ok (.aload_n 0, 1) := by decide +kernel
theorem dX3_begin_44 : decode cX3_begin 44 = .ok (.iconst 1, 1) := by decide +kernel
theorem dX3_begin_45 : decode cX3_begin 45 = .ok (.putfield 28, 3) := by decide +kernel
theorem dX3_begin_48 : decode cX3_begin 48 = .ok (.aload_n 0, 1) := by decide +kernel
theorem dX3_begin_49 : decode cX3_begin 49 = .ok (.iconst 0, 1) := by decide +kernel
theorem dX3_begin_50 : decode cX3_begin 50 = .ok (.putfield 85, 3) := by decide +kernel
theorem dX3_begin_53 : decode cX3_begin 53 = .ok (.aload_n 0, 1) := by decide +kernel
theorem dX3_begin_54 : decode cX3_begin 54 = .ok (.iconst 0, 1) := by decide +kernel
theorem dX3_begin_55 : decode cX3_begin 55 = .ok (.putfield 88, 3) := by decide +kernel
theorem dX3_begin_58 : decode cX3_begin 58 = .ok (.aload_n 0, 1) := by decide +kernel
theorem dX3_begin_59 : decode cX3_begin 59 = .ok (.iconst 0, 1) := by decide +kernel
theorem dX3_begin_60 : decode cX3_begin 60 = .ok (.putfield 91, 3) := by decide +kernel
theorem dX3_begin_63 : decode cX3_begin 63 = .ok (.aload_n 0, 1) := by decide +kernel
theorem dX3_begin_64 : decode cX3_begin 64 = .ok (.iconst 0, 1) := by decide +kernel
theorem dX3_begin_65 : decode cX3_begin 65 = .ok (.putfield 71, 3) := by decide +kernel
theorem dX3_begin_68 : decode cX3_begin 68 = .ok (.aload_n 0, 1) := by decide +kernel
theorem dX3_begin_69 : decode cX3_begin 69 = .ok (.iconst 0, 1) := by decide +kernel
theorem dX3_begin_70 : decode cX3_begin 70 = .ok (.putfield 68, 3) := by decide +kernel
theorem dX3_begin_73 : decode cX3_begin 73 = .ok (.return_, 1) := by decide +kernel
theorem dJ6_numberOfTrailingZeros_0f7a4_0 : decode cJ6_numberOfTrailingZeros_0f7a4 0 = .ok (.iload_n 0, 1) := by decide +kernel
theorem dJ6_numberOfTrailingZeros_0f7a4_1 : decode cJ6_numberOfTrailingZeros_0f7a4 1 = .ok (.iconst (-1), 1) := by decide +kernel
theorem dJ6_numberOfTrailingZeros_0f7a4_2 : decode cJ6_numberOfTrailingZeros_0f7a4 2 = .ok (.ixor, 1) := by decide +kernel
theorem dJ6_numberOfTrailingZeros_0f7a4_3 : decode cJ6_numberOfTrailingZeros_0f7a4 3 = .ok (.iload_n 0, 1) := by decide +kernel
theorem dJ6_numberOfTrailingZeros_0f7a4_4 : decode cJ6_numberOfTrailingZeros_0f7a4 4 = .ok (.iconst 1, 1) := by decide +kernel
theorem dJ6_numberOfTrailingZeros_0f7a4_5 : decode cJ6_numberOfTrailingZeros_0f7a4 5 = .ok (.isub, 1) := by decide +kernel
theorem dJ6_numberOfTrailingZeros_0f7a4_6 : decode cJ6_numberOfTrailingZeros_0f7a4 6 = .ok (.iand, 1) := by decide +kernel
theorem dJ6_numberOfTrailingZeros_0f7a4_7 : decode cJ6_numberOfTrailingZeros_0f7a4 7 = .ok (.istore_n 0, 1) := by decide +kernel
theorem dJ6_numberOfTrailingZeros_0f7a4_8 : decode cJ6_numberOfTrailingZeros_0f7a4 8 = .ok (.iload_n 0, 1) := by decide +kernel
theorem dJ6_numberOfTrailingZeros_0f7a4_9 : decode cJ6_numberOfTrailingZeros_0f7a4 9 = .ok (.ifCond .gt 8, 3) := by decide +kernel
theorem dJ6_numberOfTrailingZeros_0f7a4_12 : decode cJ6_numberOfTrailingZeros_0f7a4 12 = .ok (.iload_n 0, 1) := by decide +kernel
theorem dJ6_numberOfTrailingZeros_0f7a4_13 : decode cJ6_numberOfTrailingZeros_0f7a4 13 = .ok (.bipush 32, 2) := by decide +kernel
theorem dJ6_numberOfTrailingZeros_0f7a4_15 : decode cJ6_numberOfTrailingZeros_0f7a4 15 = .ok (.iand, 1) := by decide +kernel
theorem dJ6_numberOfTrailingZeros_0f7a4_16 : decode cJ6_numberOfTrailingZeros_0f7a4 16 = .ok (.ireturn, 1) := by decide +kernel
theorem dJ6_numberOfTrailingZeros_0f7a4_17 : decode cJ6_numberOfTrailingZeros_0f7a4 17 = .ok (.iconst 1, 1) := by decide +kernel
theorem dJ6_numberOfTrailingZeros_0f7a4_18 : decode cJ6_numberOfTrailingZeros_0f7a4 18 = .ok (.istore_n 1, 1) := by decide +kernel
theorem dJ6_numberOfTrailingZeros_0f7a4_19 : decode cJ6_numberOfTrailingZeros_0f7a4 19 = .ok (.iload_n 0, 1) := by decide +kernel
theorem dJ6_numberOfTrailingZeros_0f7a4_20 : decode cJ6_numberOfTrailingZeros_0f7a4 20 = .ok (.ldc_w 264, 3) := by decide +kernel
theorem dJ6_numberOfTrailingZeros_0f7a4_23 : decode cJ6_numberOfTrailingZeros_0f7a4 23 = .ok (.if_icmp .le 11, 3) := by decide +kernel
theorem dJ6_numberOfTrailingZeros_0f7a4_26 : decode cJ6_numberOfTrailingZeros_0f7a4 26 = .ok (.iinc 1 16, 3) := by decide +kernel
theorem dJ6_numberOfTrailingZeros_0f7a4_29 : decode cJ6_numberOfTrailingZeros_0f7a4 29 = .ok (.iload_n 0, 1) := by decide +kernel
theorem dJ6_numberOfTrailingZeros_0f7a4_30 : decode cJ6_numberOfTrailingZeros_0f7a4 30 = .ok (.bipush 16, 2) := by decide +kernel
theorem dJ6_numberOfTrailingZeros_0f7a4_32 : decode cJ6_numberOfTrailingZeros_0f7a4 32 = .ok (.iushr, 1) := by decide +kernel
theorem dJ6_numberOfTrailingZeros_0f7a4_33 : decode cJ6_numberOfTrailingZeros_0f7a4 33 = .ok (.istore_n 0, 1) := by decide +kernel
theorem dJ6_numberOfTrailingZeros_0f7a4_34 : decode cJ6_numberOfTrailingZeros_0f7a4 34 = .ok (.iload_n 0, 1) := by decide +kernel
theorem dJ6_numberOfTrailingZeros_0f7a4_35 : decode cJ6_numberOfTrailingZeros_0f7a4 35 = .ok (.sipush 256, 3) := by decide +kernel
theorem dJ6_numberOfTrailingZeros_0f7a4_38 : decode cJ6_numberOfTrailingZeros_0f7a4 38 = .ok (.if_icmp .le 11, 3) := by decide +kernel
theorem dJ6_numberOfTrailingZeros_0f7a4_41 : decode cJ6_numberOfTrailingZeros_0f7a4 41 = .ok (.iinc 1 8, 3) := by decide +kernel
theorem dJ6_numberOfTrailingZeros_0f7a4_44 : decode cJ6_numberOfTrailingZeros_0f7a4 44 = .ok (.iload_n 0, 1) := by decide +kernel
theorem dJ6_numberOfTrailingZeros_0f7a4_45 : decode cJ6_numberOfTrailingZeros_0f7a4 45 = .ok (.bipush 8, 2) := by decide +kernel
theorem dJ6_numberOfTrailingZeros_0f7a4_47 : decode cJ6_numberOfTrailingZeros_0f7a4 47 = .ok (.iushr, 1) := by decide +kernel
theorem dJ6_numberOfTrailingZeros_0f7a4_48 : decode cJ6_numberOfTrailingZeros_0f7a4 48 = .ok (.istore_n 0, 1) := by decide +kernel
theorem dJ6_numberOfTrailingZeros_0f7a4_49 : decode cJ6_numberOfTrailingZeros_0f7a4 49 = .ok (.iload_n 0, 1) := by decide +kernel
theorem dJ6_numberOfTrailingZeros_0f7a4_50 : decode cJ6_numberOfTrailingZeros_0f7a4 50 = .ok (.bipush 16, 2) := by decide +kernel
theorem dJ6_numberOfTrailingZeros_0f7a4_52 : decode cJ6_numberOfTrailingZeros_0f7a4 52 = .ok (.if_icmp .le 10, 3) := by decide +kernel
theorem dJ6_numberOfTrailingZeros_0f7a4_55 : decode cJ6_numberOfTrailingZeros_0f7a4 55 = .ok (.iinc 1 4, 3) := by decide +kernel
theorem dJ6_numberOfTrailingZeros_0f7a4_58 : decode cJ6_numberOfTrailingZeros_0f7a4 58 = .ok (.iload_n 0, 1) := by decide +kernel
theorem dJ6_numberOfTrailingZeros_0f7a4_59 : decode cJ6_numberOfTrailingZeros_0f7a4 59 = .ok (.iconst 4, 1) := by decide +kernel
theorem dJ6_numberOfTrailingZeros_0f7a4_60 : decode cJ6_numberOfTrailingZeros_0f7a4 60 = .ok (.iushr, 1) := by decide +kernel
theorem dJ6_numberOfTrailingZeros_0f7a4_61 : decode cJ6_numberOfTrailingZeros_0f7a4 61 = .ok (.istore_n 0, 1) := by decide +kernel
theorem dJ6_numberOfTrailingZeros_0f7a4_62 : decode cJ6_numberOfTrailingZeros_0f7a4 62 = .ok (.iload_n 0, 1) := by decide +kernel
theorem dJ6_numberOfTrailingZeros_0f7a4_63 : decode cJ6_numberOfTrailingZeros_0f7a4 63 = .ok (.iconst 4, 1) := by decide +kernel
theorem dJ6_numberOfTrailingZeros_0f7a4_64 : decode cJ6_numberOfTrailingZeros_0f7a4 64 = .ok (.if_icmp .le 10, 3) := by decide +kernel
theorem dJ6_numberOfTrailingZeros_0f7a4_67 : decode cJ6_numberOfTrailingZeros_0f7a4 67 = .ok (.iinc 1 2, 3) := by decide +kernel
theorem dJ6_numberOfTrailingZeros_0f7a4_70 : decode cJ6_numberOfTrailingZeros_0f7a4 70 = .ok (.iload_n 0, 1) := by decide +kernel
theorem dJ6_numberOfTrailingZeros_0f7a4_71 : decode cJ6_numberOfTrailingZeros_0f7a4 71 = .ok (.iconst 2, 1) := by decide +kernel
theorem dJ6_numberOfTrailingZeros_0f7a4_72 : decode cJ6_numberOfTrailingZeros_0f7a4 72 = .ok (.iushr, 1) := by decide +kernel
theorem dJ6_numberOfTrailingZeros_0f7a4_73 : decode cJ6_numberOfTrailingZeros_0f7a4 73 = .ok (.istore_n 0, 1) := by decide +kernel
theorem dJ6_numberOfTrailingZeros_0f7a4_74 : decode cJ6_numberOfTrailingZeros_0f7a4 74 = .ok (.iload_n 1, 1) := by decide +kernel
theorem dJ6_numberOfTrailingZeros_0f7a4_75 : decode cJ6_numberOfTrailingZeros_0f7a4 75 = .ok (.iload_n 0, 1) := by decide +kernel
theorem dJ6_numberOfTrailingZeros_0f7a4_76 : decode cJ6_numberOfTrailingZeros_0f7a4 76 = .ok (.iconst 1, 1) := by decide +kernel
theorem dJ6_numberOfTrailingZeros_0f7a4_77 : decode cJ6_numberOfTrailingZeros_0f7a4 77 = .ok (.iushr, 1) := by decide +kernel
theorem dJ6_numberOfTrailingZeros_0f7a4_78 : decode cJ6_numberOfTrailingZeros_0f7a4 78 = .ok (.iadd, 1) := by decide +kernel
theorem dJ6_numberOfTrailingZeros_0f7a4_79 : decode cJ6_numberOfTrailingZeros_0f7a4 79 = .ok (.ireturn, 1) := by decide +kernel
def f_X2_lookFrom_L8 (h : xH) (v0 : Nat) (v1 : Nat) (v2 : Int32) : Nat → Int32 → Int32 → Int32 → Option (Int32 × Int32)
  | 0, _, _, _ => none
  | k + 1, v3, v4, v5 =>
    (x_gI h v0 2 6).bind fun x1 =>
    if x1 ≤ v5 then
      some (v3, v4)
    else
      (x_ob h v1 0).bind fun u2 =>
      (f_X0_shutsFrom h v1 v5 v2).bind fun q3 =>
      (
        if q3 = 0 then
          some v3
        else
          (some (v3 ||| (i_shl (1 : Int32) v5))).bind fun x5 =>
          some x5
      ).bind fun q4 =>
      (x_ob h v1 0).bind fun u7 =>
      (f_X0_opensFrom h v1 v5 v2).bind fun q8 =>
      if q8 = 0 then
        (some (v5 + (1 : Int32))).bind fun x9 =>
        f_X2_lookFrom_L8 h v0 v1 v2 k q4 v4 x9
      else
        (some (v4 ||| (i_shl (1 : Int32) v5))).bind fun x10 =>
        (some (v5 + (1 : Int32))).bind fun x11 =>
        f_X2_lookFrom_L8 h v0 v1 v2 k q4 x10 x11
set_option maxRecDepth 100000 in
set_option maxHeartbeats 4000000 in
theorem l_X2_lookFrom_8 {S : Nat × (Nat → Int32)} {rv : Option Value} {h0 h1 : xH} {mc ms : Nat} {cells slots : Nat} (hm : cells ≤ mc ∧ slots ≤ ms) (h : xH) (v0 : Nat) (v1 : Nat) (v2 : Int32) : ∀ (k : Nat) (v3 : Int32) (v4 : Int32) (v5 : Int32) (res : Int32 × Int32), f_X2_lookFrom_L8 h v0 v1 v2 k v3 v4 v5 = some res → (∀ r9, res = r9 → Y S M_X2_lookFrom h0 rv h1 mc ms 59 [(0, .ref v0), (2, .int v2), (3, .int r9.1), (4, .int r9.2)] [] h cells slots) → Y S M_X2_lookFrom h0 rv h1 mc ms 8 [(0, .ref v0), (1, .ref v1), (2, .int v2), (3, .int v3), (4, .int v4), (5, .int v5)] [] h cells slots := by
  intro k
  induction k with
  | zero =>
    intro _ _ _ _ hE
    cases hE
  | succ k ih =>
    intro v3 v4 v5 res hE K
    unfold f_X2_lookFrom_L8 at hE
    refine y_iload dX2_lookFrom_8 5 rfl ?_
    refine y_aload_n dX2_lookFrom_10 0 rfl ?_
    obtain ⟨x1, ex1, hE⟩ := Option.bind_eq_some_iff.mp hE
    refine y_getI fl_X2_39 ex1 dX2_lookFrom_11 ?_
    refine y_icmp_ge (tgt := 59) dX2_lookFrom_14 (by decide) (fun hc13 => ?_) (fun hc13 => ?_)
    · rw [if_pos hc13] at hE
      obtain rfl := Option.some.inj hE
      exact y_pick [0, 2, 3, 4] rfl (K _ rfl)
    · rw [if_neg hc13] at hE
      refine y_aload_n dX2_lookFrom_17 1 rfl ?_
      refine y_iload dX2_lookFrom_18 5 rfl ?_
      refine y_iload_n dX2_lookFrom_20 2 rfl ?_
      obtain ⟨u2, eu2, hE⟩ := Option.bind_eq_some_iff.mp hE
      obtain ⟨q3, eq3, hE⟩ := Option.bind_eq_some_iff.mp hE
      refine y_cVi0 (st := []) (as := [.int v5, .int v2]) (c_X0_shutsFrom eq3) lk_X2_88 in_X0_shutsFrom se_X0_shutsFrom rfl eu2 ⟨Nat.le_of_ble_eq_true rfl, Nat.le_of_ble_eq_true rfl⟩ (Nat.le_of_ble_eq_true rfl) dX2_lookFrom_21 hm rfl ?_
      obtain ⟨q4, eJ, hE⟩ := Option.bind_eq_some_iff.mp hE
      have hJ : Y S M_X2_lookFrom h0 rv h1 mc ms 34 [(0, .ref v0), (1, .ref v1), (2, .int v2), (3, .int q4), (4, .int v4), (5, .int v5)] [] h cells slots := by
        refine y_aload_n dX2_lookFrom_34 1 rfl ?_
        refine y_iload dX2_lookFrom_35 5 rfl ?_
        refine y_iload_n dX2_lookFrom_37 2 rfl ?_
        obtain ⟨u7, eu7, hE⟩ := Option.bind_eq_some_iff.mp hE
        obtain ⟨q8, eq8, hE⟩ := Option.bind_eq_some_iff.mp hE
        refine y_cVi0 (st := []) (as := [.int v5, .int v2]) (c_X0_opensFrom eq8) lk_X2_92 in_X0_opensFrom se_X0_opensFrom rfl eu7 ⟨Nat.le_of_ble_eq_true rfl, Nat.le_of_ble_eq_true rfl⟩ (Nat.le_of_ble_eq_true rfl) dX2_lookFrom_38 hm rfl ?_
        refine y_if_eq (tgt := 53) dX2_lookFrom_41 (by decide) (fun hc12 => ?_) (fun hc12 => ?_)
        · rw [if_pos hc12] at hE
          obtain ⟨x9, ex9, hE⟩ := Option.bind_eq_some_iff.mp hE
          refine y_iinc (ls' := [(5, .int x9), (0, .ref v0), (1, .ref v1), (2, .int v2), (3, .int q4), (4, .int v4)]) dX2_lookFrom_53 5 rfl (Option.some.inj ex9) (by decide) rfl ?_
          refine y_goto (tgt := 8) dX2_lookFrom_56 (by decide) ?_
          refine y_pick [1, 2, 3, 4, 5, 0] rfl ?_
          exact ih _ _ _ _ hE K
        · rw [if_neg hc12] at hE
          refine y_iload dX2_lookFrom_44 4 rfl ?_
          refine y_iconst (v := (1 : Int32)) dX2_lookFrom_46 (by decide) ?_
          refine y_iload dX2_lookFrom_47 5 rfl ?_
          refine y_ishl dX2_lookFrom_49 ?_
          refine y_ior dX2_lookFrom_50 ?_
          obtain ⟨x10, ex10, hE⟩ := Option.bind_eq_some_iff.mp hE
          refine y_istore (ls' := [(4, .int x10), (0, .ref v0), (1, .ref v1), (2, .int v2), (3, .int q4), (5, .int v5)]) dX2_lookFrom_51 (by decide) (Option.some.inj ex10) rfl ?_
          obtain ⟨x11, ex11, hE⟩ := Option.bind_eq_some_iff.mp hE
          refine y_iinc (ls' := [(5, .int x11), (4, .int x10), (0, .ref v0), (1, .ref v1), (2, .int v2), (3, .int q4)]) dX2_lookFrom_53 5 rfl (Option.some.inj ex11) (by decide) rfl ?_
          refine y_goto (tgt := 8) dX2_lookFrom_56 (by decide) ?_
          refine y_pick [2, 3, 4, 5, 1, 0] rfl ?_
          exact ih _ _ _ _ hE K
      clear hE
      have hE := eJ
      clear eJ
      refine y_if_eq (tgt := 34) dX2_lookFrom_24 (by decide) (fun hc6 => ?_) (fun hc6 => ?_)
      · rw [if_pos hc6] at hE
        obtain rfl := Option.some.inj hE
        exact y_pick [0, 1, 2, 3, 4, 5] rfl hJ
      · rw [if_neg hc6] at hE
        refine y_iload_n dX2_lookFrom_27 3 rfl ?_
        refine y_iconst (v := (1 : Int32)) dX2_lookFrom_28 (by decide) ?_
        refine y_iload dX2_lookFrom_29 5 rfl ?_
        refine y_ishl dX2_lookFrom_31 ?_
        refine y_ior dX2_lookFrom_32 ?_
        obtain ⟨x5, ex5, hE⟩ := Option.bind_eq_some_iff.mp hE
        refine y_istore_n (ls' := [(3, .int x5), (0, .ref v0), (1, .ref v1), (2, .int v2), (4, .int v4), (5, .int v5)]) dX2_lookFrom_33 (by decide) (Option.some.inj ex5) rfl ?_
        obtain rfl := Option.some.inj hE
        exact y_pick [1, 2, 3, 0, 4, 5] rfl hJ
def f_X2_lookFrom (n : Nat) (h : xH) (a0 : Nat) (o1 : Nat) (p2 : Int32) : Option (xH) :=
  (f_X2_lookFrom_L8 h a0 o1 p2 n (0 : Int32) (0 : Int32) (0 : Int32)).bind fun q14 =>
  (x_gR h a0 2 1).bind fun a15 =>
  (x_gI h a0 2 8).bind fun x16 =>
  (x_gI h a0 2 9).bind fun x17 =>
  (x_st h a15 p2 (q14.1 &&& (x16 ||| x17))).bind fun h18 =>
  (x_gR h18 a0 2 2).bind fun a19 =>
  (x_st h18 a19 p2 q14.2).bind fun h20 =>
  some h20
set_option maxRecDepth 100000 in
set_option maxHeartbeats 4000000 in
theorem c_X2_lookFrom {n : Nat} {h : xH} {a0 : Nat} {o1 : Nat} {p2 : Int32} {hz : xH} (hE : f_X2_lookFrom n h a0 o1 p2 = some hz) : Ctr M_X2_lookFrom [.ref a0, .ref o1, .int p2] h none hz 0 0 := by
  refine ctr_of (by decide) (fun _ _ => Nat.le_of_ble_eq_true rfl) (fun S => ?_)
  show Y S M_X2_lookFrom h none hz 0 0 0 [(0, .ref a0), (1, .ref o1), (2, .int p2)] [] h 0 0
  unfold f_X2_lookFrom at hE
  refine y_iconst (v := (0 : Int32)) dX2_lookFrom_0 (by decide) ?_
  refine y_istore_n (ls' := [(3, .int (0 : Int32)), (0, .ref a0), (1, .ref o1), (2, .int p2)]) dX2_lookFrom_1 (by decide) rfl rfl ?_
  refine y_iconst (v := (0 : Int32)) dX2_lookFrom_2 (by decide) ?_
  refine y_istore (ls' := [(4, .int (0 : Int32)), (3, .int (0 : Int32)), (0, .ref a0), (1, .ref o1), (2, .int p2)]) dX2_lookFrom_3 (by decide) rfl rfl ?_
  refine y_iconst (v := (0 : Int32)) dX2_lookFrom_5 (by decide) ?_
  refine y_istore (ls' := [(5, .int (0 : Int32)), (4, .int (0 : Int32)), (3, .int (0 : Int32)), (0, .ref a0), (1, .ref o1), (2, .int p2)]) dX2_lookFrom_6 (by decide) rfl rfl ?_
  obtain ⟨q14, eq14, hE⟩ := Option.bind_eq_some_iff.mp hE
  refine y_pick [3, 4, 5, 2, 1, 0] rfl ?_
  refine l_X2_lookFrom_8 (S := S) ⟨Nat.le_refl _, Nat.le_refl _⟩ h a0 o1 p2 n (0 : Int32) (0 : Int32) (0 : Int32) _ eq14 (fun r8 hr8 => ?_)
  subst hr8
  refine y_aload_n dX2_lookFrom_59 0 rfl ?_
  obtain ⟨a15, ea15, hE⟩ := Option.bind_eq_some_iff.mp hE
  refine y_getR fl_X2_15 ea15 dX2_lookFrom_60 ?_
  refine y_iload_n dX2_lookFrom_63 1 rfl ?_
  refine y_iload_n dX2_lookFrom_64 2 rfl ?_
  refine y_aload_n dX2_lookFrom_65 0 rfl ?_
  obtain ⟨x16, ex16, hE⟩ := Option.bind_eq_some_iff.mp hE
  refine y_getI fl_X2_69 ex16 dX2_lookFrom_66 ?_
  refine y_aload_n dX2_lookFrom_69 0 rfl ?_
  obtain ⟨x17, ex17, hE⟩ := Option.bind_eq_some_iff.mp hE
  refine y_getI fl_X2_72 ex17 dX2_lookFrom_70 ?_
  refine y_ior dX2_lookFrom_73 ?_
  refine y_iand dX2_lookFrom_74 ?_
  obtain ⟨h18, eh18, hE⟩ := Option.bind_eq_some_iff.mp hE
  refine y_iast eh18 dX2_lookFrom_75 ?_
  refine y_aload_n dX2_lookFrom_76 0 rfl ?_
  obtain ⟨a19, ea19, hE⟩ := Option.bind_eq_some_iff.mp hE
  refine y_getR fl_X2_18 ea19 dX2_lookFrom_77 ?_
  refine y_iload_n dX2_lookFrom_80 1 rfl ?_
  refine y_iload dX2_lookFrom_81 3 rfl ?_
  obtain ⟨h20, eh20, hE⟩ := Option.bind_eq_some_iff.mp hE
  refine y_iast eh20 dX2_lookFrom_83 ?_
  obtain rfl := Option.some.inj hE
  exact y_ret dX2_lookFrom_84 (Nat.le_refl _) (Nat.le_refl _) rfl
def f_J6_bitCount_0f7a4 (p0 : Int32) : Option (Int32) :=
  (some (p0 - ((i_ushr p0 (1 : Int32)) &&& (1431655765 : Int32)))).bind fun x1 =>
  (some ((x1 &&& (858993459 : Int32)) + ((i_ushr x1 (2 : Int32)) &&& (858993459 : Int32)))).bind fun x2 =>
  (some ((x2 + (i_ushr x2 (4 : Int32))) &&& (252645135 : Int32))).bind fun x3 =>
  (some (x3 + (i_ushr x3 (8 : Int32)))).bind fun x4 =>
  (some (x4 + (i_ushr x4 (16 : Int32)))).bind fun x5 =>
  some (x5 &&& (63 : Int32))
set_option maxRecDepth 100000 in
set_option maxHeartbeats 4000000 in
theorem c_J6_bitCount_0f7a4 {h : xH} {p0 : Int32} {r9 : Int32} (hE : f_J6_bitCount_0f7a4 p0 = some r9) : Ctr M_J6_bitCount_0f7a4 [.int p0] h (some (.int r9)) h 0 0 := by
  refine ctr_of (by decide) (fun _ _ => Nat.le_of_ble_eq_true rfl) (fun S => ?_)
  show Y S M_J6_bitCount_0f7a4 h (some (.int r9)) h 0 0 0 [(0, .int p0)] [] h 0 0
  unfold f_J6_bitCount_0f7a4 at hE
  refine y_iload_n dJ6_bitCount_0f7a4_0 0 rfl ?_
  refine y_iload_n dJ6_bitCount_0f7a4_1 0 rfl ?_
  refine y_iconst (v := (1 : Int32)) dJ6_bitCount_0f7a4_2 (by decide) ?_
  refine y_iushr dJ6_bitCount_0f7a4_3 ?_
  refine y_ldc_w (v := (1431655765 : Int32)) (x_wt (tb 734 (by decide +kernel)) rfl) dJ6_bitCount_0f7a4_4 ?_
  refine y_iand dJ6_bitCount_0f7a4_7 ?_
  refine y_isub dJ6_bitCount_0f7a4_8 ?_
  obtain ⟨x1, ex1, hE⟩ := Option.bind_eq_some_iff.mp hE
  refine y_istore_n (ls' := [(0, .int x1)]) dJ6_bitCount_0f7a4_9 (by decide) (Option.some.inj ex1) rfl ?_
  refine y_iload_n dJ6_bitCount_0f7a4_10 0 rfl ?_
  refine y_ldc_w (v := (858993459 : Int32)) (x_wt (tb 735 (by decide +kernel)) rfl) dJ6_bitCount_0f7a4_11 ?_
  refine y_iand dJ6_bitCount_0f7a4_14 ?_
  refine y_iload_n dJ6_bitCount_0f7a4_15 0 rfl ?_
  refine y_iconst (v := (2 : Int32)) dJ6_bitCount_0f7a4_16 (by decide) ?_
  refine y_iushr dJ6_bitCount_0f7a4_17 ?_
  refine y_ldc_w (v := (858993459 : Int32)) (x_wt (tb 735 (by decide +kernel)) rfl) dJ6_bitCount_0f7a4_18 ?_
  refine y_iand dJ6_bitCount_0f7a4_21 ?_
  refine y_iadd dJ6_bitCount_0f7a4_22 ?_
  obtain ⟨x2, ex2, hE⟩ := Option.bind_eq_some_iff.mp hE
  refine y_istore_n (ls' := [(0, .int x2)]) dJ6_bitCount_0f7a4_23 (by decide) (Option.some.inj ex2) rfl ?_
  refine y_iload_n dJ6_bitCount_0f7a4_24 0 rfl ?_
  refine y_iload_n dJ6_bitCount_0f7a4_25 0 rfl ?_
  refine y_iconst (v := (4 : Int32)) dJ6_bitCount_0f7a4_26 (by decide) ?_
  refine y_iushr dJ6_bitCount_0f7a4_27 ?_
  refine y_iadd dJ6_bitCount_0f7a4_28 ?_
  refine y_ldc_w (v := (252645135 : Int32)) (x_wt (tb 736 (by decide +kernel)) rfl) dJ6_bitCount_0f7a4_29 ?_
  refine y_iand dJ6_bitCount_0f7a4_32 ?_
  obtain ⟨x3, ex3, hE⟩ := Option.bind_eq_some_iff.mp hE
  refine y_istore_n (ls' := [(0, .int x3)]) dJ6_bitCount_0f7a4_33 (by decide) (Option.some.inj ex3) rfl ?_
  refine y_iload_n dJ6_bitCount_0f7a4_34 0 rfl ?_
  refine y_iload_n dJ6_bitCount_0f7a4_35 0 rfl ?_
  refine y_bipush (v := (8 : Int32)) dJ6_bitCount_0f7a4_36 (by decide) ?_
  refine y_iushr dJ6_bitCount_0f7a4_38 ?_
  refine y_iadd dJ6_bitCount_0f7a4_39 ?_
  obtain ⟨x4, ex4, hE⟩ := Option.bind_eq_some_iff.mp hE
  refine y_istore_n (ls' := [(0, .int x4)]) dJ6_bitCount_0f7a4_40 (by decide) (Option.some.inj ex4) rfl ?_
  refine y_iload_n dJ6_bitCount_0f7a4_41 0 rfl ?_
  refine y_iload_n dJ6_bitCount_0f7a4_42 0 rfl ?_
  refine y_bipush (v := (16 : Int32)) dJ6_bitCount_0f7a4_43 (by decide) ?_
  refine y_iushr dJ6_bitCount_0f7a4_45 ?_
  refine y_iadd dJ6_bitCount_0f7a4_46 ?_
  obtain ⟨x5, ex5, hE⟩ := Option.bind_eq_some_iff.mp hE
  refine y_istore_n (ls' := [(0, .int x5)]) dJ6_bitCount_0f7a4_47 (by decide) (Option.some.inj ex5) rfl ?_
  refine y_iload_n dJ6_bitCount_0f7a4_48 0 rfl ?_
  refine y_bipush (v := (63 : Int32)) dJ6_bitCount_0f7a4_49 (by decide) ?_
  refine y_iand dJ6_bitCount_0f7a4_51 ?_
  obtain rfl := Option.some.inj hE
  exact y_ret dJ6_bitCount_0f7a4_52 (Nat.le_refl _) (Nat.le_refl _) ⟨_, rfl, rfl⟩
def f_X2_weigh (h : xH) (a0 : Nat) (p1 : Int32) : Option (Int32) :=
  (x_gI h a0 2 8).bind fun x1 =>
  (f_J6_bitCount_0f7a4 (p1 &&& x1)).bind fun q2 =>
  (x_gI h a0 2 9).bind fun x3 =>
  (f_J6_bitCount_0f7a4 (p1 &&& x3)).bind fun q4 =>
  some (q2 + ((2 : Int32) * q4))
set_option maxRecDepth 100000 in
set_option maxHeartbeats 4000000 in
theorem c_X2_weigh {h : xH} {a0 : Nat} {p1 : Int32} {r9 : Int32} (hE : f_X2_weigh h a0 p1 = some r9) : Ctr M_X2_weigh [.ref a0, .int p1] h (some (.int r9)) h 0 0 := by
  refine ctr_of (by decide) (fun _ _ => Nat.le_of_ble_eq_true rfl) (fun S => ?_)
  show Y S M_X2_weigh h (some (.int r9)) h 0 0 0 [(0, .ref a0), (1, .int p1)] [] h 0 0
  unfold f_X2_weigh at hE
  refine y_iload_n dX2_weigh_0 1 rfl ?_
  refine y_aload_n dX2_weigh_1 0 rfl ?_
  obtain ⟨x1, ex1, hE⟩ := Option.bind_eq_some_iff.mp hE
  refine y_getI fl_X2_69 ex1 dX2_weigh_2 ?_
  refine y_iand dX2_weigh_5 ?_
  obtain ⟨q2, eq2, hE⟩ := Option.bind_eq_some_iff.mp hE
  refine y_cSi0 (st := []) (as := [.int (p1 &&& x1)]) (c_J6_bitCount_0f7a4 eq2) lk_X2_101 st_J6_bitCount_0f7a4 ⟨Nat.le_of_ble_eq_true rfl, Nat.le_of_ble_eq_true rfl⟩ (Nat.le_of_ble_eq_true rfl) dX2_weigh_6 ⟨Nat.le_refl _, Nat.le_refl _⟩ rfl ?_
  refine y_iconst (v := (2 : Int32)) dX2_weigh_9 (by decide) ?_
  refine y_iload_n dX2_weigh_10 1 rfl ?_
  refine y_aload_n dX2_weigh_11 0 rfl ?_
  obtain ⟨x3, ex3, hE⟩ := Option.bind_eq_some_iff.mp hE
  refine y_getI fl_X2_72 ex3 dX2_weigh_12 ?_
  refine y_iand dX2_weigh_15 ?_
  obtain ⟨q4, eq4, hE⟩ := Option.bind_eq_some_iff.mp hE
  refine y_cSi0 (st := [.int (2 : Int32), .int q2]) (as := [.int (p1 &&& x3)]) (c_J6_bitCount_0f7a4 eq4) lk_X2_101 st_J6_bitCount_0f7a4 ⟨Nat.le_of_ble_eq_true rfl, Nat.le_of_ble_eq_true rfl⟩ (Nat.le_of_ble_eq_true rfl) dX2_weigh_16 ⟨Nat.le_refl _, Nat.le_refl _⟩ rfl ?_
  refine y_imul dX2_weigh_19 ?_
  refine y_iadd dX2_weigh_20 ?_
  obtain rfl := Option.some.inj hE
  exact y_ret dX2_weigh_21 (Nat.le_refl _) (Nat.le_refl _) ⟨_, rfl, rfl⟩
def f_X2_listSets_L17 (v0 : Nat) (v1 : Int32) : Nat → Int32 → xH → Option (xH)
  | 0, _, _ => none
  | k + 1, v2, h =>
    if v2 ≤ 0 then
      some h
    else
      (x_ob h v0 2).bind fun u5 =>
      (f_X2_weigh h v0 v2).bind fun q6 =>
      (x_gI h v0 2 8).bind fun x7 =>
      (
        if (v2 &&& x7) = 0 then
          some (2 : Int32)
        else
          some (1 : Int32)
      ).bind fun q8 =>
      (x_gI h v0 2 7).bind fun x10 =>
      (
        if q6 < x10 then
          some h
        else
          (x_gI h v0 2 7).bind fun x12 =>
          if x12 ≤ (q6 - q8) then
            some h
          else
            (x_gI h v0 2 5).bind fun x13 =>
            if (126 : Int32) ≤ x13 then
              some h
            else
              (x_gR h v0 2 3).bind fun a14 =>
              (x_gI h v0 2 5).bind fun x15 =>
              (x_st h a14 x15 v2).bind fun h16 =>
              (x_gI h16 v0 2 5).bind fun x17 =>
              (x_put h16 v0 2 5 (.int (x17 + (1 : Int32)))).bind fun h18 =>
              some h18
      ).bind fun q11 =>
      (some ((v2 - (1 : Int32)) &&& v1)).bind fun x22 =>
      f_X2_listSets_L17 v0 v1 k x22 q11
set_option maxRecDepth 100000 in
set_option maxHeartbeats 4000000 in
theorem l_X2_listSets_17 {S : Nat × (Nat → Int32)} {rv : Option Value} {h0 h1 : xH} {mc ms : Nat} {cells slots : Nat} (hm : cells ≤ mc ∧ slots ≤ ms) (v0 : Nat) (v1 : Int32) : ∀ (k : Nat) (v2 : Int32) (h : xH) (res : xH), f_X2_listSets_L17 v0 v1 k v2 h = some res → (∀ r9, res = r9 → Y S M_X2_listSets h0 rv h1 mc ms 100 [] [] r9 cells slots) → Y S M_X2_listSets h0 rv h1 mc ms 17 [(0, .ref v0), (1, .int v1), (2, .int v2)] [] h cells slots := by
  intro k
  induction k with
  | zero =>
    intro _ _ _ hE
    cases hE
  | succ k ih =>
    intro v2 h res hE K
    unfold f_X2_listSets_L17 at hE
    refine y_iload_n dX2_listSets_17 2 rfl ?_
    refine y_if_le (tgt := 100) dX2_listSets_18 (by decide) (fun hc23 => ?_) (fun hc23 => ?_)
    · rw [if_pos hc23] at hE
      obtain rfl := Option.some.inj hE
      exact y_pick [] rfl (K _ rfl)
    · rw [if_neg hc23] at hE
      refine y_aload_n dX2_listSets_21 0 rfl ?_
      refine y_iload_n dX2_listSets_22 2 rfl ?_
      obtain ⟨u5, eu5, hE⟩ := Option.bind_eq_some_iff.mp hE
      obtain ⟨q6, eq6, hE⟩ := Option.bind_eq_some_iff.mp hE
      refine y_cVi0 (st := []) (as := [.int v2]) (c_X2_weigh eq6) lk_X2_98 in_X2_weigh se_X2_weigh rfl eu5 ⟨Nat.le_of_ble_eq_true rfl, Nat.le_of_ble_eq_true rfl⟩ (Nat.le_of_ble_eq_true rfl) dX2_listSets_23 hm rfl ?_
      refine y_istore_n (ls' := [(3, .int q6), (0, .ref v0), (1, .int v1), (2, .int v2)]) dX2_listSets_26 (by decide) rfl rfl ?_
      refine y_iload_n dX2_listSets_27 3 rfl ?_
      refine y_aload_n dX2_listSets_28 1 rfl ?_
      obtain ⟨x7, ex7, hE⟩ := Option.bind_eq_some_iff.mp hE
      refine y_getI fl_X2_69 ex7 dX2_listSets_29 ?_
      refine y_iand dX2_listSets_32 ?_
      obtain ⟨q8, eJ, hE⟩ := Option.bind_eq_some_iff.mp hE
      have hJ : Y S M_X2_listSets h0 rv h1 mc ms 41 [(0, .ref v0), (1, .int v1), (2, .int v2), (3, .int q6)] [.int q8] h cells slots := by
        refine y_istore (ls' := [(4, .int q8), (0, .ref v0), (1, .int v1), (2, .int v2), (3, .int q6)]) dX2_listSets_41 (by decide) rfl rfl ?_
        refine y_iload_n dX2_listSets_43 4 rfl ?_
        refine y_aload_n dX2_listSets_44 1 rfl ?_
        obtain ⟨x10, ex10, hE⟩ := Option.bind_eq_some_iff.mp hE
        refine y_getI fl_X2_45 ex10 dX2_listSets_45 ?_
        obtain ⟨q11, eJ, hE⟩ := Option.bind_eq_some_iff.mp hE
        have hJ : Y S M_X2_listSets h0 rv h1 mc ms 91 [(0, .ref v0), (1, .int v1), (2, .int v2)] [] q11 cells slots := by
          refine y_iload_n dX2_listSets_91 2 rfl ?_
          refine y_iconst (v := (1 : Int32)) dX2_listSets_92 (by decide) ?_
          refine y_isub dX2_listSets_93 ?_
          refine y_iload_n dX2_listSets_94 1 rfl ?_
          refine y_iand dX2_listSets_95 ?_
          obtain ⟨x22, ex22, hE⟩ := Option.bind_eq_some_iff.mp hE
          refine y_istore_n (ls' := [(2, .int x22), (0, .ref v0), (1, .int v1)]) dX2_listSets_96 (by decide) (Option.some.inj ex22) rfl ?_
          refine y_goto (tgt := 17) dX2_listSets_97 (by decide) ?_
          refine y_pick [1, 2, 0] rfl ?_
          exact ih _ _ _ hE K
        clear hE
        have hE := eJ
        clear eJ
        refine y_icmp_lt (tgt := 91) dX2_listSets_48 (by decide) (fun hc21 => ?_) (fun hc21 => ?_)
        · rw [if_pos hc21] at hE
          obtain rfl := Option.some.inj hE
          exact y_pick [1, 2, 3] rfl hJ
        · rw [if_neg hc21] at hE
          refine y_iload_n dX2_listSets_51 4 rfl ?_
          refine y_iload dX2_listSets_52 0 rfl ?_
          refine y_isub dX2_listSets_54 ?_
          refine y_aload_n dX2_listSets_55 1 rfl ?_
          obtain ⟨x12, ex12, hE⟩ := Option.bind_eq_some_iff.mp hE
          refine y_getI fl_X2_45 ex12 dX2_listSets_56 ?_
          refine y_icmp_ge (tgt := 91) dX2_listSets_59 (by decide) (fun hc20 => ?_) (fun hc20 => ?_)
          · rw [if_pos hc20] at hE
            obtain rfl := Option.some.inj hE
            exact y_pick [1, 2, 3] rfl hJ
          · rw [if_neg hc20] at hE
            refine y_aload_n dX2_listSets_62 1 rfl ?_
            obtain ⟨x13, ex13, hE⟩ := Option.bind_eq_some_iff.mp hE
            refine y_getI fl_X2_95 ex13 dX2_listSets_63 ?_
            refine y_bipush (v := (126 : Int32)) dX2_listSets_66 (by decide) ?_
            refine y_icmp_ge (tgt := 91) dX2_listSets_68 (by decide) (fun hc19 => ?_) (fun hc19 => ?_)
            · rw [if_pos hc19] at hE
              obtain rfl := Option.some.inj hE
              exact y_pick [1, 2, 3] rfl hJ
            · rw [if_neg hc19] at hE
              refine y_aload_n dX2_listSets_71 1 rfl ?_
              obtain ⟨a14, ea14, hE⟩ := Option.bind_eq_some_iff.mp hE
              refine y_getR fl_X2_21 ea14 dX2_listSets_72 ?_
              refine y_aload_n dX2_listSets_75 1 rfl ?_
              obtain ⟨x15, ex15, hE⟩ := Option.bind_eq_some_iff.mp hE
              refine y_getI fl_X2_95 ex15 dX2_listSets_76 ?_
              refine y_iload_n dX2_listSets_79 3 rfl ?_
              obtain ⟨h16, eh16, hE⟩ := Option.bind_eq_some_iff.mp hE
              refine y_iast eh16 dX2_listSets_80 ?_
              refine y_aload_n dX2_listSets_81 1 rfl ?_
              refine y_dup dX2_listSets_82 rfl ?_
              obtain ⟨x17, ex17, hE⟩ := Option.bind_eq_some_iff.mp hE
              refine y_getI fl_X2_95 ex17 dX2_listSets_83 ?_
              refine y_iconst (v := (1 : Int32)) dX2_listSets_86 (by decide) ?_
              refine y_iadd dX2_listSets_87 ?_
              obtain ⟨h18, eh18, hE⟩ := Option.bind_eq_some_iff.mp hE
              refine y_putI fp_X2_95 eh18 dX2_listSets_88 ?_
              obtain rfl := Option.some.inj hE
              exact y_pick [1, 2, 3] rfl hJ
      clear hE
      have hE := eJ
      clear eJ
      refine y_if_eq (tgt := 40) dX2_listSets_33 (by decide) (fun hc9 => ?_) (fun hc9 => ?_)
      · rw [if_pos hc9] at hE
        refine y_iconst (v := (2 : Int32)) dX2_listSets_40 (by decide) ?_
        obtain rfl := Option.some.inj hE
        exact y_pick [1, 2, 3, 0] rfl hJ
      · rw [if_neg hc9] at hE
        refine y_iconst (v := (1 : Int32)) dX2_listSets_36 (by decide) ?_
        refine y_goto (tgt := 41) dX2_listSets_37 (by decide) ?_
        obtain rfl := Option.some.inj hE
        exact y_pick [1, 2, 3, 0] rfl hJ
def f_X2_listSets (n : Nat) (h : xH) (a0 : Nat) : Option (xH) :=
  (x_put h a0 2 5 (.int (0 : Int32))).bind fun h1 =>
  (x_gI h1 a0 2 8).bind fun x2 =>
  (x_gI h1 a0 2 9).bind fun x3 =>
  (some (x2 ||| x3)).bind fun x4 =>
  (f_X2_listSets_L17 a0 x4 n x4 h1).bind fun q24 =>
  some q24
set_option maxRecDepth 100000 in
set_option maxHeartbeats 4000000 in
theorem c_X2_listSets {n : Nat} {h : xH} {a0 : Nat} {hz : xH} (hE : f_X2_listSets n h a0 = some hz) : Ctr M_X2_listSets [.ref a0] h none hz 0 0 := by
  refine ctr_of (by decide) (fun _ _ => Nat.le_of_ble_eq_true rfl) (fun S => ?_)
  show Y S M_X2_listSets h none hz 0 0 0 [(0, .ref a0)] [] h 0 0
  unfold f_X2_listSets at hE
  refine y_aload_n dX2_listSets_0 0 rfl ?_
  refine y_iconst (v := (0 : Int32)) dX2_listSets_1 (by decide) ?_
  obtain ⟨h1, eh1, hE⟩ := Option.bind_eq_some_iff.mp hE
  refine y_putI fp_X2_95 eh1 dX2_listSets_2 ?_
  refine y_aload_n dX2_listSets_5 0 rfl ?_
  obtain ⟨x2, ex2, hE⟩ := Option.bind_eq_some_iff.mp hE
  refine y_getI fl_X2_69 ex2 dX2_listSets_6 ?_
  refine y_aload_n dX2_listSets_9 0 rfl ?_
  obtain ⟨x3, ex3, hE⟩ := Option.bind_eq_some_iff.mp hE
  refine y_getI fl_X2_72 ex3 dX2_listSets_10 ?_
  refine y_ior dX2_listSets_13 ?_
  obtain ⟨x4, ex4, hE⟩ := Option.bind_eq_some_iff.mp hE
  refine y_istore_n (ls' := [(1, .int x4), (0, .ref a0)]) dX2_listSets_14 (by decide) (Option.some.inj ex4) rfl ?_
  refine y_iload_n dX2_listSets_15 0 rfl ?_
  refine y_istore_n (ls' := [(2, .int x4), (1, .int x4), (0, .ref a0)]) dX2_listSets_16 (by decide) rfl rfl ?_
  obtain ⟨q24, eq24, hE⟩ := Option.bind_eq_some_iff.mp hE
  refine y_pick [2, 1, 0] rfl ?_
  refine l_X2_listSets_17 (S := S) ⟨Nat.le_refl _, Nat.le_refl _⟩ a0 x4 n x4 h1 _ eq24 (fun r8 hr8 => ?_)
  subst hr8
  obtain rfl := Option.some.inj hE
  exact y_ret dX2_listSets_100 (Nat.le_refl _) (Nat.le_refl _) rfl
def f_X2_lay_L66 (n : Nat) (v0 : Nat) (v1 : Nat) (v2 : Int32) : Nat → Int32 → xH → Option (xH)
  | 0, _, _ => none
  | k + 1, v3, h =>
    if (8 : Int32) ≤ v3 then
      some h
    else
      (x_ob h v0 2).bind fun u19 =>
      (f_X2_lookFrom n h v0 v1 v3).bind fun q20 =>
      (some (v3 + (1 : Int32))).bind fun x21 =>
      f_X2_lay_L66 n v0 v1 v2 k x21 q20
set_option maxRecDepth 100000 in
set_option maxHeartbeats 4000000 in
theorem l_X2_lay_66 {S : Nat × (Nat → Int32)} {rv : Option Value} {h0 h1 : xH} {mc ms : Nat} {cells slots : Nat} (hm : cells ≤ mc ∧ slots ≤ ms) (n : Nat) (v0 : Nat) (v1 : Nat) (v2 : Int32) : ∀ (k : Nat) (v3 : Int32) (h : xH) (res : xH), f_X2_lay_L66 n v0 v1 v2 k v3 h = some res → (∀ r9, res = r9 → Y S M_X2_lay h0 rv h1 mc ms 84 [(0, .ref v0), (1, .ref v1), (2, .int v2)] [] r9 cells slots) → Y S M_X2_lay h0 rv h1 mc ms 66 [(0, .ref v0), (1, .ref v1), (2, .int v2), (3, .int v3)] [] h cells slots := by
  intro k
  induction k with
  | zero =>
    intro _ _ _ hE
    cases hE
  | succ k ih =>
    intro v3 h res hE K
    unfold f_X2_lay_L66 at hE
    refine y_iload_n dX2_lay_66 3 rfl ?_
    refine y_bipush (v := (8 : Int32)) dX2_lay_67 (by decide) ?_
    refine y_icmp_ge (tgt := 84) dX2_lay_69 (by decide) (fun hc22 => ?_) (fun hc22 => ?_)
    · rw [if_pos hc22] at hE
      obtain rfl := Option.some.inj hE
      exact y_pick [0, 1, 2] rfl (K _ rfl)
    · rw [if_neg hc22] at hE
      refine y_aload_n dX2_lay_72 0 rfl ?_
      refine y_aload_n dX2_lay_73 1 rfl ?_
      refine y_iload_n dX2_lay_74 3 rfl ?_
      obtain ⟨u19, eu19, hE⟩ := Option.bind_eq_some_iff.mp hE
      obtain ⟨q20, eq20, hE⟩ := Option.bind_eq_some_iff.mp hE
      refine y_cVv0 (st := []) (as := [.ref v1, .int v3]) (c_X2_lookFrom eq20) lk_X2_53 in_X2_lookFrom se_X2_lookFrom rfl eu19 ⟨Nat.le_of_ble_eq_true rfl, Nat.le_of_ble_eq_true rfl⟩ (Nat.le_of_ble_eq_true rfl) dX2_lay_75 hm rfl ?_
      obtain ⟨x21, ex21, hE⟩ := Option.bind_eq_some_iff.mp hE
      refine y_iinc (ls' := [(3, .int x21), (0, .ref v0), (1, .ref v1), (2, .int v2)]) dX2_lay_78 3 rfl (Option.some.inj ex21) (by decide) rfl ?_
      refine y_goto (tgt := 66) dX2_lay_81 (by decide) ?_
      refine y_pick [1, 2, 3, 0] rfl ?_
      exact ih _ _ _ hE K
def f_X2_lay_L91 (v0 : Nat) (v1 : Nat) (v2 : Int32) : Nat → Int32 → xH → Option (xH)
  | 0, _, _ => none
  | k + 1, v3, h =>
    (x_gI h v1 0 6).bind fun x25 =>
    if x25 ≤ v3 then
      some h
    else
      if v3 = v2 then
        (some (v3 + (1 : Int32))).bind fun x26 =>
        f_X2_lay_L91 v0 v1 v2 k x26 h
      else
        (x_gI h v0 2 10).bind fun x27 =>
        (x_gR h v0 2 1).bind fun a28 =>
        (x_gR h v1 0 3).bind fun a29 =>
        (x_ld h a29 v3).bind fun x30 =>
        (x_ld h a28 x30).bind fun x31 =>
        (x_put h v0 2 10 (.int (x27 ||| x31))).bind fun h32 =>
        (some (v3 + (1 : Int32))).bind fun x33 =>
        f_X2_lay_L91 v0 v1 v2 k x33 h32
set_option maxRecDepth 100000 in
set_option maxHeartbeats 4000000 in
theorem l_X2_lay_91 {S : Nat × (Nat → Int32)} {rv : Option Value} {h0 h1 : xH} {mc ms : Nat} {cells slots : Nat} (hm : cells ≤ mc ∧ slots ≤ ms) (v0 : Nat) (v1 : Nat) (v2 : Int32) : ∀ (k : Nat) (v3 : Int32) (h : xH) (res : xH), f_X2_lay_L91 v0 v1 v2 k v3 h = some res → (∀ r9, res = r9 → Y S M_X2_lay h0 rv h1 mc ms 130 [(0, .ref v0)] [] r9 cells slots) → Y S M_X2_lay h0 rv h1 mc ms 91 [(0, .ref v0), (1, .ref v1), (2, .int v2), (3, .int v3)] [] h cells slots := by
  intro k
  induction k with
  | zero =>
    intro _ _ _ hE
    cases hE
  | succ k ih =>
    intro v3 h res hE K
    unfold f_X2_lay_L91 at hE
    refine y_iload_n dX2_lay_91 3 rfl ?_
    refine y_aload_n dX2_lay_92 1 rfl ?_
    obtain ⟨x25, ex25, hE⟩ := Option.bind_eq_some_iff.mp hE
    refine y_getI fl_X2_60 ex25 dX2_lay_93 ?_
    refine y_icmp_ge (tgt := 130) dX2_lay_96 (by decide) (fun hc35 => ?_) (fun hc35 => ?_)
    · rw [if_pos hc35] at hE
      obtain rfl := Option.some.inj hE
      exact y_pick [0] rfl (K _ rfl)
    · rw [if_neg hc35] at hE
      refine y_iload_n dX2_lay_99 3 rfl ?_
      refine y_iload_n dX2_lay_100 2 rfl ?_
      refine y_icmp_eq (tgt := 124) dX2_lay_101 (by decide) (fun hc34 => ?_) (fun hc34 => ?_)
      · rw [if_pos hc34] at hE
        obtain ⟨x26, ex26, hE⟩ := Option.bind_eq_some_iff.mp hE
        refine y_iinc (ls' := [(3, .int x26), (0, .ref v0), (1, .ref v1), (2, .int v2)]) dX2_lay_124 3 rfl (Option.some.inj ex26) (by decide) rfl ?_
        refine y_goto (tgt := 91) dX2_lay_127 (by decide) ?_
        refine y_pick [1, 2, 3, 0] rfl ?_
        exact ih _ _ _ hE K
      · rw [if_neg hc34] at hE
        refine y_aload_n dX2_lay_104 0 rfl ?_
        refine y_dup dX2_lay_105 rfl ?_
        obtain ⟨x27, ex27, hE⟩ := Option.bind_eq_some_iff.mp hE
        refine y_getI fl_X2_57 ex27 dX2_lay_106 ?_
        refine y_aload_n dX2_lay_109 0 rfl ?_
        obtain ⟨a28, ea28, hE⟩ := Option.bind_eq_some_iff.mp hE
        refine y_getR fl_X2_15 ea28 dX2_lay_110 ?_
        refine y_aload_n dX2_lay_113 1 rfl ?_
        obtain ⟨a29, ea29, hE⟩ := Option.bind_eq_some_iff.mp hE
        refine y_getR fl_X2_63 ea29 dX2_lay_114 ?_
        refine y_iload_n dX2_lay_117 3 rfl ?_
        obtain ⟨x30, ex30, hE⟩ := Option.bind_eq_some_iff.mp hE
        refine y_iald ex30 dX2_lay_118 ?_
        obtain ⟨x31, ex31, hE⟩ := Option.bind_eq_some_iff.mp hE
        refine y_iald ex31 dX2_lay_119 ?_
        refine y_ior dX2_lay_120 ?_
        obtain ⟨h32, eh32, hE⟩ := Option.bind_eq_some_iff.mp hE
        refine y_putI fp_X2_57 eh32 dX2_lay_121 ?_
        obtain ⟨x33, ex33, hE⟩ := Option.bind_eq_some_iff.mp hE
        refine y_iinc (ls' := [(3, .int x33), (0, .ref v0), (1, .ref v1), (2, .int v2)]) dX2_lay_124 3 rfl (Option.some.inj ex33) (by decide) rfl ?_
        refine y_goto (tgt := 91) dX2_lay_127 (by decide) ?_
        refine y_pick [1, 2, 3, 0] rfl ?_
        exact ih _ _ _ hE K
def f_X2_lay (n : Nat) (h : xH) (a0 : Nat) (o1 : Nat) (p2 : Int32) : Option ((xH) × Nat × Nat) :=
  (x_gI h o1 0 4).bind fun x1 =>
  (x_put h a0 2 6 (.int (x_min x1 (9 : Int32)))).bind fun h2 =>
  (x_gI h2 o1 0 7).bind fun x3 =>
  (x_put h2 a0 2 7 (.int x3)).bind fun h4 =>
  (x_gI h4 a0 2 11).bind fun x5 =>
  (x_put h4 a0 2 11 (.int (x5 + (1 : Int32)))).bind fun h6 =>
  (x_gR h6 a0 2 4).bind fun a7 =>
  (x_len h6 a7).bind fun x8 =>
  (x_gI h6 a0 2 6).bind fun x9 =>
  (
    if (i_shl (8 : Int32) x9) ≤ x8 then
      some (h6, 0, 0)
    else
      (x_gI h6 a0 2 6).bind fun x11 =>
      (x_sz (i_shl (8 : Int32) x11)).bind fun n12 =>
      x_add 1 n12 <|
      (x_put (h6 ++ [.inl (.int, n12, .inl (fun _ => 0))]) a0 2 4 (.ref (h6.length + 16))).bind fun h15 =>
      some (h15, 0, 0)
  ).bind fun q10 =>
  x_add q10.2.1 q10.2.2 <|
  (x_ob q10.1 a0 2).bind fun u17 =>
  (f_X2_sortDoors n q10.1 a0 o1).bind fun q18 =>
  (f_X2_lay_L66 n a0 o1 p2 n (0 : Int32) q18).bind fun q23 =>
  (x_put q23 a0 2 10 (.int (0 : Int32))).bind fun h24 =>
  (f_X2_lay_L91 a0 o1 p2 n (0 : Int32) h24).bind fun q36 =>
  (x_ob q36 a0 2).bind fun u37 =>
  (f_X2_listSets n q36 a0).bind fun q38 =>
  some (q38, 0, 0)
set_option maxRecDepth 100000 in
set_option maxHeartbeats 4000000 in
theorem c_X2_lay {n : Nat} {h : xH} {a0 : Nat} {o1 : Nat} {p2 : Int32} {hz : xH} {c9 s9 : Nat} (hE : f_X2_lay n h a0 o1 p2 = some (hz, c9, s9)) : Ctr M_X2_lay [.ref a0, .ref o1, .int p2] h none hz c9 s9 := by
  refine ctr_of (by decide) (fun _ _ => Nat.le_of_ble_eq_true rfl) (fun S => ?_)
  show Y S M_X2_lay h none hz c9 s9 0 [(0, .ref a0), (1, .ref o1), (2, .int p2)] [] h 0 0
  unfold f_X2_lay at hE
  refine y_aload_n dX2_lay_0 0 rfl ?_
  refine y_aload_n dX2_lay_1 1 rfl ?_
  obtain ⟨x1, ex1, hE⟩ := Option.bind_eq_some_iff.mp hE
  refine y_getI fl_X2_27 ex1 dX2_lay_2 ?_
  refine y_bipush (v := (9 : Int32)) dX2_lay_5 (by decide) ?_
  refine y_min (x_wt (tb 709 (by decide +kernel)) rfl) (by decide) (by decide) (Nat.le_of_ble_eq_true rfl) ⟨by omega, by omega⟩ dX2_lay_7 ?_
  obtain ⟨h2, eh2, hE⟩ := Option.bind_eq_some_iff.mp hE
  refine y_putI fp_X2_39 eh2 dX2_lay_10 ?_
  refine y_aload_n dX2_lay_13 0 rfl ?_
  refine y_aload_n dX2_lay_14 1 rfl ?_
  obtain ⟨x3, ex3, hE⟩ := Option.bind_eq_some_iff.mp hE
  refine y_getI fl_X2_42 ex3 dX2_lay_15 ?_
  obtain ⟨h4, eh4, hE⟩ := Option.bind_eq_some_iff.mp hE
  refine y_putI fp_X2_45 eh4 dX2_lay_18 ?_
  refine y_aload_n dX2_lay_21 0 rfl ?_
  refine y_dup dX2_lay_22 rfl ?_
  obtain ⟨x5, ex5, hE⟩ := Option.bind_eq_some_iff.mp hE
  refine y_getI fl_X2_46 ex5 dX2_lay_23 ?_
  refine y_iconst (v := (1 : Int32)) dX2_lay_26 (by decide) ?_
  refine y_iadd dX2_lay_27 ?_
  obtain ⟨h6, eh6, hE⟩ := Option.bind_eq_some_iff.mp hE
  refine y_putI fp_X2_46 eh6 dX2_lay_28 ?_
  refine y_aload_n dX2_lay_31 0 rfl ?_
  obtain ⟨a7, ea7, hE⟩ := Option.bind_eq_some_iff.mp hE
  refine y_getR fl_X2_24 ea7 dX2_lay_32 ?_
  obtain ⟨x8, ex8, hE⟩ := Option.bind_eq_some_iff.mp hE
  refine y_alen ex8 dX2_lay_35 ?_
  refine y_bipush (v := (8 : Int32)) dX2_lay_36 (by decide) ?_
  refine y_aload_n dX2_lay_38 0 rfl ?_
  obtain ⟨x9, ex9, hE⟩ := Option.bind_eq_some_iff.mp hE
  refine y_getI fl_X2_39 ex9 dX2_lay_39 ?_
  refine y_ishl dX2_lay_42 ?_
  obtain ⟨q10, eJ, hE⟩ := Option.bind_eq_some_iff.mp hE
  obtain ⟨c39, s40, hN, ecc39, ess40⟩ := x_add.spec hE
  clear hE; have hE := hN; clear hN
  have hJ : Y S M_X2_lay h none hz c9 s9 59 [(0, .ref a0), (1, .ref o1), (2, .int p2)] [] q10.1 (0 + q10.2.1) (0 + q10.2.2) := by
    refine y_aload_n dX2_lay_59 0 rfl ?_
    refine y_aload_n dX2_lay_60 1 rfl ?_
    obtain ⟨u17, eu17, hE⟩ := Option.bind_eq_some_iff.mp hE
    obtain ⟨q18, eq18, hE⟩ := Option.bind_eq_some_iff.mp hE
    refine y_cVv0 (st := []) (as := [.ref o1]) (c_X2_sortDoors eq18) lk_X2_49 in_X2_sortDoors se_X2_sortDoors rfl eu17 ⟨Nat.le_of_ble_eq_true rfl, Nat.le_of_ble_eq_true rfl⟩ (Nat.le_of_ble_eq_true rfl) dX2_lay_61 ⟨by omega, by omega⟩ rfl ?_
    refine y_iconst (v := (0 : Int32)) dX2_lay_64 (by decide) ?_
    refine y_istore_n (ls' := [(3, .int (0 : Int32)), (0, .ref a0), (1, .ref o1), (2, .int p2)]) dX2_lay_65 (by decide) rfl rfl ?_
    obtain ⟨q23, eq23, hE⟩ := Option.bind_eq_some_iff.mp hE
    refine y_pick [1, 2, 3, 0] rfl ?_
    refine l_X2_lay_66 (S := S) ⟨by omega, by omega⟩ n a0 o1 p2 n (0 : Int32) q18 _ eq23 (fun r8 hr8 => ?_)
    subst hr8
    refine y_aload_n dX2_lay_84 0 rfl ?_
    refine y_iconst (v := (0 : Int32)) dX2_lay_85 (by decide) ?_
    obtain ⟨h24, eh24, hE⟩ := Option.bind_eq_some_iff.mp hE
    refine y_putI fp_X2_57 eh24 dX2_lay_86 ?_
    refine y_iconst (v := (0 : Int32)) dX2_lay_89 (by decide) ?_
    refine y_istore_n (ls' := [(3, .int (0 : Int32)), (0, .ref a0), (1, .ref o1), (2, .int p2)]) dX2_lay_90 (by decide) rfl rfl ?_
    obtain ⟨q36, eq36, hE⟩ := Option.bind_eq_some_iff.mp hE
    refine y_pick [1, 2, 3, 0] rfl ?_
    refine l_X2_lay_91 (S := S) ⟨by omega, by omega⟩ a0 o1 p2 n (0 : Int32) h24 _ eq36 (fun r8 hr8 => ?_)
    subst hr8
    refine y_aload_n dX2_lay_130 0 rfl ?_
    obtain ⟨u37, eu37, hE⟩ := Option.bind_eq_some_iff.mp hE
    obtain ⟨q38, eq38, hE⟩ := Option.bind_eq_some_iff.mp hE
    refine y_cVv0 (st := []) (as := []) (c_X2_listSets eq38) lk_X2_66 in_X2_listSets se_X2_listSets rfl eu37 ⟨Nat.le_of_ble_eq_true rfl, Nat.le_of_ble_eq_true rfl⟩ (Nat.le_of_ble_eq_true rfl) dX2_lay_131 ⟨by omega, by omega⟩ rfl ?_
    obtain ⟨rfl, rfl, rfl⟩ := x_inj3 hE
    exact y_ret dX2_lay_134 (by omega) (by omega) rfl
  clear hE
  have hE := eJ.trans (show some q10 = some (q10.1, q10.2.1, q10.2.2) from rfl)
  clear eJ
  refine y_icmp_ge (tgt := 59) dX2_lay_43 (by decide) (fun hc16 => ?_) (fun hc16 => ?_)
  · rw [if_pos hc16] at hE
    have e9 := Option.some.inj hE
    have e8 := congrArg Prod.fst e9
    have e7 := congrArg (fun z => z.2.1) e9
    have e6 := congrArg (fun z => z.2.2) e9
    dsimp only at e8 e7 e6
    rw [← e8] at hJ
    refine y_cnt (c2 := 0 + q10.2.1) (s2 := 0 + q10.2.2) (by omega) (by omega) ?_
    exact y_pick [0, 1, 2] rfl hJ
  · rw [if_neg hc16] at hE
    refine y_aload_n dX2_lay_46 0 rfl ?_
    refine y_bipush (v := (8 : Int32)) dX2_lay_47 (by decide) ?_
    refine y_aload_n dX2_lay_49 0 rfl ?_
    obtain ⟨x11, ex11, hE⟩ := Option.bind_eq_some_iff.mp hE
    refine y_getI fl_X2_39 ex11 dX2_lay_50 ?_
    refine y_ishl dX2_lay_53 ?_
    obtain ⟨n12, en12, hE⟩ := Option.bind_eq_some_iff.mp hE
    obtain ⟨c13, s14, hN, ecc13, ess14⟩ := x_add.spec hE
    clear hE; have hE := hN; clear hN
    refine y_newI (N := n12) (x_wt (tb 92 (by decide +kernel)) rfl) (x_sz.spec en12).1 (x_sz.spec en12).2.1 (x_sz.spec en12).2.2.1 ⟨by omega, by omega⟩ dX2_lay_54 ?_
    obtain ⟨h15, eh15, hE⟩ := Option.bind_eq_some_iff.mp hE
    refine y_putR fp_X2_24 (fun q => by first | rfl | cases q) (fun _ => rfl) (fun _ => rfl) eh15 dX2_lay_56 ?_
    have e9 := Option.some.inj hE
    have e8 := congrArg Prod.fst e9
    have e7 := congrArg (fun z => z.2.1) e9
    have e6 := congrArg (fun z => z.2.2) e9
    dsimp only at e8 e7 e6
    rw [← e8] at hJ
    refine y_cnt (c2 := 0 + q10.2.1) (s2 := 0 + q10.2.2) (by omega) (by omega) ?_
    exact y_pick [0, 1, 2] rfl hJ
def f_X2_partOf_L81 (h : xH) (v0 : Nat) (v1 : Int32) (v5 : Int32) (v6 : Int32) : Nat → Int32 → Int32 → Option (Int32)
  | 0, _, _ => none
  | k + 1, v4, v7 =>
    (x_gI h v0 2 6).bind fun x10 =>
    if x10 ≤ v7 then
      some v4
    else
      if ((i_shr v1 v7) &&& (1 : Int32)) = 0 then
        (some (v7 + (1 : Int32))).bind fun x11 =>
        f_X2_partOf_L81 h v0 v1 v5 v6 k v4 x11
      else
        (x_gR h v0 2 0).bind fun a12 =>
        (x_ld h a12 v7).bind fun x13 =>
        if (v4 &&& x13) = 0 then
          (some (v7 + (1 : Int32))).bind fun x14 =>
          f_X2_partOf_L81 h v0 v1 v5 v6 k v4 x14
        else
          (x_gR h v0 2 0).bind fun a15 =>
          (x_ld h a15 v7).bind fun x16 =>
          (some (v4 ||| x16)).bind fun x17 =>
          (some (v7 + (1 : Int32))).bind fun x18 =>
          f_X2_partOf_L81 h v0 v1 v5 v6 k x17 x18
set_option maxRecDepth 100000 in
set_option maxHeartbeats 4000000 in
theorem l_X2_partOf_81 {S : Nat × (Nat → Int32)} {rv : Option Value} {h0 h1 : xH} {mc ms : Nat} {cells slots : Nat} (hm : cells ≤ mc ∧ slots ≤ ms) (h : xH) (v0 : Nat) (v1 : Int32) (v5 : Int32) (v6 : Int32) : ∀ (k : Nat) (v4 : Int32) (v7 : Int32) (res : Int32), f_X2_partOf_L81 h v0 v1 v5 v6 k v4 v7 = some res → (∀ r9, res = r9 → Y S M_X2_partOf h0 rv h1 mc ms 130 [(0, .ref v0), (1, .int v1), (4, .int r9), (5, .int v5), (6, .int v6)] [] h cells slots) → Y S M_X2_partOf h0 rv h1 mc ms 81 [(0, .ref v0), (1, .int v1), (4, .int v4), (5, .int v5), (6, .int v6), (7, .int v7)] [] h cells slots := by
  intro k
  induction k with
  | zero =>
    intro _ _ _ hE
    cases hE
  | succ k ih =>
    intro v4 v7 res hE K
    unfold f_X2_partOf_L81 at hE
    refine y_iload dX2_partOf_81 5 rfl ?_
    refine y_aload_n dX2_partOf_83 0 rfl ?_
    obtain ⟨x10, ex10, hE⟩ := Option.bind_eq_some_iff.mp hE
    refine y_getI fl_X2_39 ex10 dX2_partOf_84 ?_
    refine y_icmp_ge (tgt := 130) dX2_partOf_87 (by decide) (fun hc21 => ?_) (fun hc21 => ?_)
    · rw [if_pos hc21] at hE
      obtain rfl := Option.some.inj hE
      exact y_pick [0, 1, 2, 3, 4] rfl (K _ rfl)
    · rw [if_neg hc21] at hE
      refine y_iload_n dX2_partOf_90 1 rfl ?_
      refine y_iload dX2_partOf_91 5 rfl ?_
      refine y_ishr dX2_partOf_93 ?_
      refine y_iconst (v := (1 : Int32)) dX2_partOf_94 (by decide) ?_
      refine y_iand dX2_partOf_95 ?_
      refine y_if_eq (tgt := 124) dX2_partOf_96 (by decide) (fun hc20 => ?_) (fun hc20 => ?_)
      · rw [if_pos hc20] at hE
        obtain ⟨x11, ex11, hE⟩ := Option.bind_eq_some_iff.mp hE
        refine y_iinc (ls' := [(7, .int x11), (0, .ref v0), (1, .int v1), (4, .int v4), (5, .int v5), (6, .int v6)]) dX2_partOf_124 5 rfl (Option.some.inj ex11) (by decide) rfl ?_
        refine y_goto (tgt := 81) dX2_partOf_127 (by decide) ?_
        refine y_pick [1, 2, 3, 4, 5, 0] rfl ?_
        exact ih _ _ _ hE K
      · rw [if_neg hc20] at hE
        refine y_iload dX2_partOf_99 2 rfl ?_
        refine y_aload_n dX2_partOf_101 0 rfl ?_
        obtain ⟨a12, ea12, hE⟩ := Option.bind_eq_some_iff.mp hE
        refine y_getR fl_X2_9 ea12 dX2_partOf_102 ?_
        refine y_iload dX2_partOf_105 5 rfl ?_
        obtain ⟨x13, ex13, hE⟩ := Option.bind_eq_some_iff.mp hE
        refine y_iald ex13 dX2_partOf_107 ?_
        refine y_iand dX2_partOf_108 ?_
        refine y_if_eq (tgt := 124) dX2_partOf_109 (by decide) (fun hc19 => ?_) (fun hc19 => ?_)
        · rw [if_pos hc19] at hE
          obtain ⟨x14, ex14, hE⟩ := Option.bind_eq_some_iff.mp hE
          refine y_iinc (ls' := [(7, .int x14), (0, .ref v0), (1, .int v1), (4, .int v4), (5, .int v5), (6, .int v6)]) dX2_partOf_124 5 rfl (Option.some.inj ex14) (by decide) rfl ?_
          refine y_goto (tgt := 81) dX2_partOf_127 (by decide) ?_
          refine y_pick [1, 2, 3, 4, 5, 0] rfl ?_
          exact ih _ _ _ hE K
        · rw [if_neg hc19] at hE
          refine y_iload dX2_partOf_112 2 rfl ?_
          refine y_aload_n dX2_partOf_114 0 rfl ?_
          obtain ⟨a15, ea15, hE⟩ := Option.bind_eq_some_iff.mp hE
          refine y_getR fl_X2_9 ea15 dX2_partOf_115 ?_
          refine y_iload dX2_partOf_118 5 rfl ?_
          obtain ⟨x16, ex16, hE⟩ := Option.bind_eq_some_iff.mp hE
          refine y_iald ex16 dX2_partOf_120 ?_
          refine y_ior dX2_partOf_121 ?_
          obtain ⟨x17, ex17, hE⟩ := Option.bind_eq_some_iff.mp hE
          refine y_istore (ls' := [(4, .int x17), (0, .ref v0), (1, .int v1), (5, .int v5), (6, .int v6), (7, .int v7)]) dX2_partOf_122 (by decide) (Option.some.inj ex17) rfl ?_
          obtain ⟨x18, ex18, hE⟩ := Option.bind_eq_some_iff.mp hE
          refine y_iinc (ls' := [(7, .int x18), (4, .int x17), (0, .ref v0), (1, .int v1), (5, .int v5), (6, .int v6)]) dX2_partOf_124 5 rfl (Option.some.inj ex18) (by decide) rfl ?_
          refine y_goto (tgt := 81) dX2_partOf_127 (by decide) ?_
          refine y_pick [2, 3, 1, 4, 5, 0] rfl ?_
          exact ih _ _ _ hE K
def f_X2_partOf_L60 (n : Nat) (h : xH) (v0 : Nat) (v1 : Int32) : Nat → Int32 → Int32 → Int32 → Option (Int32)
  | 0, _, _, _ => none
  | k + 1, v4, v5, v6 =>
    if (8 : Int32) ≤ v6 then
      some v4
    else
      if v4 = v5 then
        some v4
      else
        (f_X2_partOf_L81 h v0 v1 v4 v6 n v4 (0 : Int32)).bind fun q22 =>
        (some (v6 + (1 : Int32))).bind fun x23 =>
        f_X2_partOf_L60 n h v0 v1 k q22 v4 x23
set_option maxRecDepth 100000 in
set_option maxHeartbeats 4000000 in
theorem l_X2_partOf_60 {S : Nat × (Nat → Int32)} {rv : Option Value} {h0 h1 : xH} {mc ms : Nat} {cells slots : Nat} (hm : cells ≤ mc ∧ slots ≤ ms) (n : Nat) (h : xH) (v0 : Nat) (v1 : Int32) : ∀ (k : Nat) (v4 : Int32) (v5 : Int32) (v6 : Int32) (res : Int32), f_X2_partOf_L60 n h v0 v1 k v4 v5 v6 = some res → (∀ r9, res = r9 → Y S M_X2_partOf h0 rv h1 mc ms 136 [(0, .ref v0), (1, .int v1), (4, .int r9)] [] h cells slots) → Y S M_X2_partOf h0 rv h1 mc ms 60 [(0, .ref v0), (1, .int v1), (4, .int v4), (5, .int v5), (6, .int v6)] [] h cells slots := by
  intro k
  induction k with
  | zero =>
    intro _ _ _ _ hE
    cases hE
  | succ k ih =>
    intro v4 v5 v6 res hE K
    unfold f_X2_partOf_L60 at hE
    refine y_iload dX2_partOf_60 4 rfl ?_
    refine y_bipush (v := (8 : Int32)) dX2_partOf_62 (by decide) ?_
    refine y_icmp_ge (tgt := 136) dX2_partOf_64 (by decide) (fun hc25 => ?_) (fun hc25 => ?_)
    · rw [if_pos hc25] at hE
      obtain rfl := Option.some.inj hE
      exact y_pick [0, 1, 2] rfl (K _ rfl)
    · rw [if_neg hc25] at hE
      refine y_iload dX2_partOf_67 2 rfl ?_
      refine y_iload dX2_partOf_69 3 rfl ?_
      refine y_icmp_eq (tgt := 136) dX2_partOf_71 (by decide) (fun hc24 => ?_) (fun hc24 => ?_)
      · rw [if_pos hc24] at hE
        obtain rfl := Option.some.inj hE
        exact y_pick [0, 1, 2] rfl (K _ rfl)
      · rw [if_neg hc24] at hE
        refine y_iload dX2_partOf_74 2 rfl ?_
        refine y_istore (ls' := [(5, .int v4), (0, .ref v0), (1, .int v1), (4, .int v4), (6, .int v6)]) dX2_partOf_76 (by decide) rfl rfl ?_
        refine y_iconst (v := (0 : Int32)) dX2_partOf_78 (by decide) ?_
        refine y_istore (ls' := [(7, .int (0 : Int32)), (5, .int v4), (0, .ref v0), (1, .int v1), (4, .int v4), (6, .int v6)]) dX2_partOf_79 (by decide) rfl rfl ?_
        obtain ⟨q22, eq22, hE⟩ := Option.bind_eq_some_iff.mp hE
        refine y_pick [2, 3, 4, 1, 5, 0] rfl ?_
        refine l_X2_partOf_81 (S := S) hm h v0 v1 v4 v6 n v4 (0 : Int32) _ eq22 (fun r8 hr8 => ?_)
        subst hr8
        obtain ⟨x23, ex23, hE⟩ := Option.bind_eq_some_iff.mp hE
        refine y_iinc (ls' := [(6, .int x23), (0, .ref v0), (1, .int v1), (4, .int q22), (5, .int v4)]) dX2_partOf_130 4 rfl (Option.some.inj ex23) (by decide) rfl ?_
        refine y_goto (tgt := 60) dX2_partOf_133 (by decide) ?_
        refine y_pick [1, 2, 3, 4, 0] rfl ?_
        exact ih _ _ _ _ hE K
def f_X2_partOf_L139 (v0 : Nat) (v1 : Int32) (v4 : Int32) : Nat → Int32 → xH → Option (xH)
  | 0, _, _ => none
  | k + 1, v6, h =>
    if (8 : Int32) ≤ v6 then
      some h
    else
      if ((i_shr v4 v6) &&& (1 : Int32)) = 0 then
        (some (v6 + (1 : Int32))).bind fun x27 =>
        f_X2_partOf_L139 v0 v1 v4 k x27 h
      else
        (x_gR h v0 2 4).bind fun a28 =>
        (x_gI h v0 2 11).bind fun x29 =>
        (x_st h a28 ((v1 * (8 : Int32)) + v6) ((i_shl x29 (8 : Int32)) ||| v4)).bind fun h30 =>
        (some (v6 + (1 : Int32))).bind fun x31 =>
        f_X2_partOf_L139 v0 v1 v4 k x31 h30
set_option maxRecDepth 100000 in
set_option maxHeartbeats 4000000 in
theorem l_X2_partOf_139 {S : Nat × (Nat → Int32)} {rv : Option Value} {h0 h1 : xH} {mc ms : Nat} {cells slots : Nat} (hm : cells ≤ mc ∧ slots ≤ ms) (v0 : Nat) (v1 : Int32) (v4 : Int32) : ∀ (k : Nat) (v6 : Int32) (h : xH) (res : xH), f_X2_partOf_L139 v0 v1 v4 k v6 h = some res → (∀ r9, res = r9 → Y S M_X2_partOf h0 rv h1 mc ms 184 [(4, .int v4)] [] r9 cells slots) → Y S M_X2_partOf h0 rv h1 mc ms 139 [(0, .ref v0), (1, .int v1), (4, .int v4), (6, .int v6)] [] h cells slots := by
  intro k
  induction k with
  | zero =>
    intro _ _ _ hE
    cases hE
  | succ k ih =>
    intro v6 h res hE K
    unfold f_X2_partOf_L139 at hE
    refine y_iload dX2_partOf_139 3 rfl ?_
    refine y_bipush (v := (8 : Int32)) dX2_partOf_141 (by decide) ?_
    refine y_icmp_ge (tgt := 184) dX2_partOf_143 (by decide) (fun hc33 => ?_) (fun hc33 => ?_)
    · rw [if_pos hc33] at hE
      obtain rfl := Option.some.inj hE
      exact y_pick [2] rfl (K _ rfl)
    · rw [if_neg hc33] at hE
      refine y_iload dX2_partOf_146 2 rfl ?_
      refine y_iload dX2_partOf_148 3 rfl ?_
      refine y_ishr dX2_partOf_150 ?_
      refine y_iconst (v := (1 : Int32)) dX2_partOf_151 (by decide) ?_
      refine y_iand dX2_partOf_152 ?_
      refine y_if_eq (tgt := 178) dX2_partOf_153 (by decide) (fun hc32 => ?_) (fun hc32 => ?_)
      · rw [if_pos hc32] at hE
        obtain ⟨x27, ex27, hE⟩ := Option.bind_eq_some_iff.mp hE
        refine y_iinc (ls' := [(6, .int x27), (0, .ref v0), (1, .int v1), (4, .int v4)]) dX2_partOf_178 3 rfl (Option.some.inj ex27) (by decide) rfl ?_
        refine y_goto (tgt := 139) dX2_partOf_181 (by decide) ?_
        refine y_pick [1, 2, 3, 0] rfl ?_
        exact ih _ _ _ hE K
      · rw [if_neg hc32] at hE
        refine y_aload_n dX2_partOf_156 0 rfl ?_
        obtain ⟨a28, ea28, hE⟩ := Option.bind_eq_some_iff.mp hE
        refine y_getR fl_X2_24 ea28 dX2_partOf_157 ?_
        refine y_iload_n dX2_partOf_160 1 rfl ?_
        refine y_bipush (v := (8 : Int32)) dX2_partOf_161 (by decide) ?_
        refine y_imul dX2_partOf_163 ?_
        refine y_iload dX2_partOf_164 3 rfl ?_
        refine y_iadd dX2_partOf_166 ?_
        refine y_aload_n dX2_partOf_167 0 rfl ?_
        obtain ⟨x29, ex29, hE⟩ := Option.bind_eq_some_iff.mp hE
        refine y_getI fl_X2_46 ex29 dX2_partOf_168 ?_
        refine y_bipush (v := (8 : Int32)) dX2_partOf_171 (by decide) ?_
        refine y_ishl dX2_partOf_173 ?_
        refine y_iload dX2_partOf_174 2 rfl ?_
        refine y_ior dX2_partOf_176 ?_
        obtain ⟨h30, eh30, hE⟩ := Option.bind_eq_some_iff.mp hE
        refine y_iast eh30 dX2_partOf_177 ?_
        obtain ⟨x31, ex31, hE⟩ := Option.bind_eq_some_iff.mp hE
        refine y_iinc (ls' := [(6, .int x31), (0, .ref v0), (1, .int v1), (4, .int v4)]) dX2_partOf_178 3 rfl (Option.some.inj ex31) (by decide) rfl ?_
        refine y_goto (tgt := 139) dX2_partOf_181 (by decide) ?_
        refine y_pick [1, 2, 3, 0] rfl ?_
        exact ih _ _ _ hE K
def f_X2_partOf (n : Nat) (h : xH) (a0 : Nat) (p1 : Int32) (p2 : Int32) : Option (Int32 × xH) :=
  (some ((p1 * (8 : Int32)) + p2)).bind fun x1 =>
  if x1 < 0 then
    some ((0 : Int32), h)
  else
    (x_gR h a0 2 4).bind fun a2 =>
    (x_len h a2).bind fun x3 =>
    if x1 < x3 then
      (x_gR h a0 2 4).bind fun a4 =>
      (x_ld h a4 x1).bind fun x5 =>
      (x_gI h a0 2 11).bind fun x6 =>
      if (i_shr x5 (8 : Int32)) = x6 then
        (x_gR h a0 2 4).bind fun a7 =>
        (x_ld h a7 x1).bind fun x8 =>
        some ((x8 &&& (255 : Int32)), h)
      else
        (some (i_shl (1 : Int32) p2)).bind fun x9 =>
        (f_X2_partOf_L60 n h a0 p1 n x9 (0 : Int32) (0 : Int32)).bind fun q26 =>
        (f_X2_partOf_L139 a0 p1 q26 n (0 : Int32) h).bind fun q34 =>
        some (q26, q34)
    else
      some ((0 : Int32), h)
set_option maxRecDepth 100000 in
set_option maxHeartbeats 4000000 in
theorem c_X2_partOf {n : Nat} {h : xH} {a0 : Nat} {p1 : Int32} {p2 : Int32} {r9 : Int32} {hz : xH} (hE : f_X2_partOf n h a0 p1 p2 = some (r9, hz)) : Ctr M_X2_partOf [.ref a0, .int p1, .int p2] h (some (.int r9)) hz 0 0 := by
  refine ctr_of (by decide) (fun _ _ => Nat.le_of_ble_eq_true rfl) (fun S => ?_)
  show Y S M_X2_partOf h (some (.int r9)) hz 0 0 0 [(0, .ref a0), (1, .int p1), (2, .int p2)] [] h 0 0
  unfold f_X2_partOf at hE
  refine y_iload_n dX2_partOf_0 1 rfl ?_
  refine y_bipush (v := (8 : Int32)) dX2_partOf_1 (by decide) ?_
  refine y_imul dX2_partOf_3 ?_
  refine y_iload_n dX2_partOf_4 2 rfl ?_
  refine y_iadd dX2_partOf_5 ?_
  obtain ⟨x1, ex1, hE⟩ := Option.bind_eq_some_iff.mp hE
  refine y_istore_n (ls' := [(3, .int x1), (0, .ref a0), (1, .int p1), (2, .int p2)]) dX2_partOf_6 (by decide) (Option.some.inj ex1) rfl ?_
  refine y_iload_n dX2_partOf_7 0 rfl ?_
  refine y_if_lt (tgt := 20) dX2_partOf_8 (by decide) (fun hc37 => ?_) (fun hc37 => ?_)
  · rw [if_pos hc37] at hE
    refine y_iconst (v := (0 : Int32)) dX2_partOf_20 (by decide) ?_
    obtain ⟨rfl, rfl⟩ := x_inj2 hE
    exact y_ret dX2_partOf_21 (Nat.le_refl _) (Nat.le_refl _) ⟨_, rfl, rfl⟩
  · rw [if_neg hc37] at hE
    refine y_iload_n dX2_partOf_11 0 rfl ?_
    refine y_aload_n dX2_partOf_12 1 rfl ?_
    obtain ⟨a2, ea2, hE⟩ := Option.bind_eq_some_iff.mp hE
    refine y_getR fl_X2_24 ea2 dX2_partOf_13 ?_
    obtain ⟨x3, ex3, hE⟩ := Option.bind_eq_some_iff.mp hE
    refine y_alen ex3 dX2_partOf_16 ?_
    refine y_icmp_lt (tgt := 22) dX2_partOf_17 (by decide) (fun hc36 => ?_) (fun hc36 => ?_)
    · rw [if_pos hc36] at hE
      refine y_aload_n dX2_partOf_22 1 rfl ?_
      obtain ⟨a4, ea4, hE⟩ := Option.bind_eq_some_iff.mp hE
      refine y_getR fl_X2_24 ea4 dX2_partOf_23 ?_
      refine y_iload_n dX2_partOf_26 0 rfl ?_
      obtain ⟨x5, ex5, hE⟩ := Option.bind_eq_some_iff.mp hE
      refine y_iald ex5 dX2_partOf_27 ?_
      refine y_bipush (v := (8 : Int32)) dX2_partOf_28 (by decide) ?_
      refine y_ishr dX2_partOf_30 ?_
      refine y_aload_n dX2_partOf_31 1 rfl ?_
      obtain ⟨x6, ex6, hE⟩ := Option.bind_eq_some_iff.mp hE
      refine y_getI fl_X2_46 ex6 dX2_partOf_32 ?_
      refine y_icmp_ne (tgt := 49) dX2_partOf_35 (by decide) (fun hc35 => ?_) (fun hc35 => ?_)
      · rw [if_pos hc35] at hE
        refine y_aload_n dX2_partOf_38 1 rfl ?_
        obtain ⟨a7, ea7, hE⟩ := Option.bind_eq_some_iff.mp hE
        refine y_getR fl_X2_24 ea7 dX2_partOf_39 ?_
        refine y_iload_n dX2_partOf_42 0 rfl ?_
        obtain ⟨x8, ex8, hE⟩ := Option.bind_eq_some_iff.mp hE
        refine y_iald ex8 dX2_partOf_43 ?_
        refine y_sipush (v := (255 : Int32)) dX2_partOf_44 (by decide) ?_
        refine y_iand dX2_partOf_47 ?_
        obtain ⟨rfl, rfl⟩ := x_inj2 hE
        exact y_ret dX2_partOf_48 (Nat.le_refl _) (Nat.le_refl _) ⟨_, rfl, rfl⟩
      · rw [if_neg hc35] at hE
        refine y_iconst (v := (1 : Int32)) dX2_partOf_49 (by decide) ?_
        refine y_iload_n dX2_partOf_50 3 rfl ?_
        refine y_ishl dX2_partOf_51 ?_
        obtain ⟨x9, ex9, hE⟩ := Option.bind_eq_some_iff.mp hE
        refine y_istore (ls' := [(4, .int x9), (3, .int x1), (0, .ref a0), (1, .int p1), (2, .int p2)]) dX2_partOf_52 (by decide) (Option.some.inj ex9) rfl ?_
        refine y_iconst (v := (0 : Int32)) dX2_partOf_54 (by decide) ?_
        refine y_istore (ls' := [(5, .int (0 : Int32)), (4, .int x9), (3, .int x1), (0, .ref a0), (1, .int p1), (2, .int p2)]) dX2_partOf_55 (by decide) rfl rfl ?_
        refine y_iconst (v := (0 : Int32)) dX2_partOf_57 (by decide) ?_
        refine y_istore (ls' := [(6, .int (0 : Int32)), (5, .int (0 : Int32)), (4, .int x9), (3, .int x1), (0, .ref a0), (1, .int p1), (2, .int p2)]) dX2_partOf_58 (by decide) rfl rfl ?_
        obtain ⟨q26, eq26, hE⟩ := Option.bind_eq_some_iff.mp hE
        refine y_pick [4, 5, 2, 1, 0] rfl ?_
        refine l_X2_partOf_60 (S := S) ⟨Nat.le_refl _, Nat.le_refl _⟩ n h a0 p1 n x9 (0 : Int32) (0 : Int32) _ eq26 (fun r8 hr8 => ?_)
        subst hr8
        refine y_iconst (v := (0 : Int32)) dX2_partOf_136 (by decide) ?_
        refine y_istore (ls' := [(6, .int (0 : Int32)), (0, .ref a0), (1, .int p1), (4, .int q26)]) dX2_partOf_137 (by decide) rfl rfl ?_
        obtain ⟨q34, eq34, hE⟩ := Option.bind_eq_some_iff.mp hE
        refine y_pick [1, 2, 3, 0] rfl ?_
        refine l_X2_partOf_139 (S := S) ⟨Nat.le_refl _, Nat.le_refl _⟩ a0 p1 q26 n (0 : Int32) h _ eq34 (fun r8 hr8 => ?_)
        subst hr8
        refine y_iload dX2_partOf_184 0 rfl ?_
        obtain ⟨rfl, rfl⟩ := x_inj2 hE
        exact y_ret dX2_partOf_186 (Nat.le_refl _) (Nat.le_refl _) ⟨_, rfl, rfl⟩
    · rw [if_neg hc36] at hE
      refine y_iconst (v := (0 : Int32)) dX2_partOf_20 (by decide) ?_
      obtain ⟨rfl, rfl⟩ := x_inj2 hE
      exact y_ret dX2_partOf_21 (Nat.le_refl _) (Nat.le_refl _) ⟨_, rfl, rfl⟩
def f_X3_init (h : xH) (a0 : Nat) : Option ((xH) × Nat × Nat) :=
  x_add 1 4 <|
  (x_put (h ++ [.inl (.int, 4, .inl (fun _ => 0))]) a0 3 0 (.ref (h.length + 16))).bind fun h3 =>
  x_add 1 12 <|
  (f_X2_init (h3 ++ [.inr (2, [.null, .null, .null, .null, .null, .int 0, .int 0, .int 0, .int 0, .int 0, .int 0, .int 0])]) (h3.length + 16)).bind fun q6 =>
  x_add q6.2.1 q6.2.2 <|
  (x_put q6.1 a0 3 2 (.ref (h3.length + 16))).bind fun h9 =>
  x_add 1 0 <|
  (x_put (h9 ++ [.inl (.int, 0, .inl (fun _ => 0))]) a0 3 3 (.ref (h9.length + 16))).bind fun h12 =>
  x_add 1 0 <|
  (x_put (h12 ++ [.inl (.int, 0, .inl (fun _ => 0))]) a0 3 4 (.ref (h12.length + 16))).bind fun h15 =>
  (x_put h15 a0 3 5 (.int (1 : Int32))).bind fun h16 =>
  some (h16, 0, 0)
set_option maxRecDepth 100000 in
set_option maxHeartbeats 4000000 in
theorem c_X3_init {h : xH} {a0 : Nat} {hz : xH} {c9 s9 : Nat} (hE : f_X3_init h a0 = some (hz, c9, s9)) : Ctr M_X3_init [.ref a0] h none hz c9 s9 := by
  refine ctr_of (by decide) (fun _ _ => Nat.le_of_ble_eq_true rfl) (fun S => ?_)
  show Y S M_X3_init h none hz c9 s9 0 [(0, .ref a0)] [] h 0 0
  unfold f_X3_init at hE
  refine y_aload_n dX3_init_0 0 rfl ?_
  refine y_objInit (x_wt (tb 123 (by decide +kernel)) rfl) (x_wt (tb 22 (by decide +kernel)) rfl) (x_wt (tb 23 (by decide +kernel)) rfl) (by decide) (Nat.le_of_ble_eq_true rfl) dX3_init_1 ?_
  refine y_aload_n dX3_init_4 0 rfl ?_
  refine y_iconst (v := (4 : Int32)) dX3_init_5 (by decide) ?_
  obtain ⟨c1, s2, hN, ecc1, ess2⟩ := x_add.spec hE
  clear hE; have hE := hN; clear hN
  refine y_newI (N := 4) (x_wt (tb 92 (by decide +kernel)) rfl) (by decide) (by decide) (by decide) ⟨by omega, by omega⟩ dX3_init_6 ?_
  obtain ⟨h3, eh3, hE⟩ := Option.bind_eq_some_iff.mp hE
  refine y_putR fp_X3_11 (fun q => by first | rfl | cases q) (fun _ => rfl) (fun _ => rfl) eh3 dX3_init_8 ?_
  refine y_aload_n dX3_init_11 0 rfl ?_
  obtain ⟨c4, s5, hN, ecc4, ess5⟩ := x_add.spec hE
  clear hE; have hE := hN; clear hN
  refine y_new (fs := [.null, .null, .null, .null, .null, .int 0, .int 0, .int 0, .int 0, .int 0, .int 0, .int 0]) cl_X2 (x_wt (tb 124 (by decide +kernel)) rfl) (x_wt (tb 125 (by decide +kernel)) rfl) (x_wt (tb 5 (by decide +kernel)) rfl) (by decide) rfl ⟨by omega, by omega⟩ dX3_init_12 ?_
  refine y_dup dX3_init_15 rfl ?_
  obtain ⟨q6, eq6, hE⟩ := Option.bind_eq_some_iff.mp hE
  obtain ⟨c7, s8, hN, ecc7, ess8⟩ := x_add.spec hE
  clear hE; have hE := hN; clear hN
  refine y_cIv1 (st := [.ref (h3.length + 16), .ref a0]) (as := []) (c_X2_init (eq6.trans (show some q6 = some (q6.1, q6.2.1, q6.2.2) from rfl))) lk_X3_17 in_X2_init rfl rfl (by omega) ⟨Nat.le_of_ble_eq_true rfl, Nat.le_of_ble_eq_true rfl⟩ (Nat.le_of_ble_eq_true rfl) dX3_init_16 ⟨by omega, by omega⟩ rfl ?_
  obtain ⟨h9, eh9, hE⟩ := Option.bind_eq_some_iff.mp hE
  refine y_putR fp_X3_18 (fun q => by first | rfl | cases q) (fun _ => rfl) (fun _ => rfl) eh9 dX3_init_19 ?_
  refine y_aload_n dX3_init_22 0 rfl ?_
  refine y_iconst (v := (0 : Int32)) dX3_init_23 (by decide) ?_
  obtain ⟨c10, s11, hN, ecc10, ess11⟩ := x_add.spec hE
  clear hE; have hE := hN; clear hN
  refine y_newI (N := 0) (x_wt (tb 92 (by decide +kernel)) rfl) (by decide) (by decide) (by decide) ⟨by omega, by omega⟩ dX3_init_24 ?_
  obtain ⟨h12, eh12, hE⟩ := Option.bind_eq_some_iff.mp hE
  refine y_putR fp_X3_22 (fun q => by first | rfl | cases q) (fun _ => rfl) (fun _ => rfl) eh12 dX3_init_26 ?_
  refine y_aload_n dX3_init_29 0 rfl ?_
  refine y_iconst (v := (0 : Int32)) dX3_init_30 (by decide) ?_
  obtain ⟨c13, s14, hN, ecc13, ess14⟩ := x_add.spec hE
  clear hE; have hE := hN; clear hN
  refine y_newI (N := 0) (x_wt (tb 92 (by decide +kernel)) rfl) (by decide) (by decide) (by decide) ⟨by omega, by omega⟩ dX3_init_31 ?_
  obtain ⟨h15, eh15, hE⟩ := Option.bind_eq_some_iff.mp hE
  refine y_putR fp_X3_25 (fun q => by first | rfl | cases q) (fun _ => rfl) (fun _ => rfl) eh15 dX3_init_33 ?_
  refine y_aload_n dX3_init_36 0 rfl ?_
  refine y_iconst (v := (1 : Int32)) dX3_init_37 (by decide) ?_
  obtain ⟨h16, eh16, hE⟩ := Option.bind_eq_some_iff.mp hE
  refine y_putI fp_X3_28 eh16 dX3_init_38 ?_
  obtain ⟨rfl, rfl, rfl⟩ := x_inj3 hE
  exact y_ret dX3_init_41 (by omega) (by omega) rfl
def f_X3_forgetGoals (h : xH) (a0 : Nat) : Option (xH) :=
  (x_put h a0 3 1 (.int (0 : Int32))).bind fun h1 =>
  some h1
set_option maxRecDepth 100000 in
set_option maxHeartbeats 4000000 in
theorem c_X3_forgetGoals {h : xH} {a0 : Nat} {hz : xH} (hE : f_X3_forgetGoals h a0 = some hz) : Ctr M_X3_forgetGoals [.ref a0] h none hz 0 0 := by
  refine ctr_of (by decide) (fun _ _ => Nat.le_of_ble_eq_true rfl) (fun S => ?_)
  show Y S M_X3_forgetGoals h none hz 0 0 0 [(0, .ref a0)] [] h 0 0
  unfold f_X3_forgetGoals at hE
  refine y_aload_n dX3_forgetGoals_0 0 rfl ?_
  refine y_iconst (v := (0 : Int32)) dX3_forgetGoals_1 (by decide) ?_
  obtain ⟨h1, eh1, hE⟩ := Option.bind_eq_some_iff.mp hE
  refine y_putI fp_X3_32 eh1 dX3_forgetGoals_2 ?_
  obtain rfl := Option.some.inj hE
  exact y_ret dX3_forgetGoals_5 (Nat.le_refl _) (Nat.le_refl _) rfl
def f_X3_addGoal (h : xH) (a0 : Nat) (p1 : Int32) : Option (xH) :=
  (x_gI h a0 3 1).bind fun x1 =>
  if (4 : Int32) ≤ x1 then
    some h
  else
    (x_gR h a0 3 0).bind fun a2 =>
    (x_gI h a0 3 1).bind fun x3 =>
    (x_st h a2 x3 p1).bind fun h4 =>
    (x_gI h4 a0 3 1).bind fun x5 =>
    (x_put h4 a0 3 1 (.int (x5 + (1 : Int32)))).bind fun h6 =>
    some h6
set_option maxRecDepth 100000 in
set_option maxHeartbeats 4000000 in
theorem c_X3_addGoal {h : xH} {a0 : Nat} {p1 : Int32} {hz : xH} (hE : f_X3_addGoal h a0 p1 = some hz) : Ctr M_X3_addGoal [.ref a0, .int p1] h none hz 0 0 := by
  refine ctr_of (by decide) (fun _ _ => Nat.le_of_ble_eq_true rfl) (fun S => ?_)
  show Y S M_X3_addGoal h none hz 0 0 0 [(0, .ref a0), (1, .int p1)] [] h 0 0
  unfold f_X3_addGoal at hE
  refine y_aload_n dX3_addGoal_0 0 rfl ?_
  obtain ⟨x1, ex1, hE⟩ := Option.bind_eq_some_iff.mp hE
  refine y_getI fl_X3_32 ex1 dX3_addGoal_1 ?_
  refine y_iconst (v := (4 : Int32)) dX3_addGoal_4 (by decide) ?_
  refine y_icmp_ge (tgt := 28) dX3_addGoal_5 (by decide) (fun hc7 => ?_) (fun hc7 => ?_)
  · rw [if_pos hc7] at hE
    obtain rfl := Option.some.inj hE
    exact y_ret dX3_addGoal_28 (Nat.le_refl _) (Nat.le_refl _) rfl
  · rw [if_neg hc7] at hE
    refine y_aload_n dX3_addGoal_8 0 rfl ?_
    obtain ⟨a2, ea2, hE⟩ := Option.bind_eq_some_iff.mp hE
    refine y_getR fl_X3_11 ea2 dX3_addGoal_9 ?_
    refine y_aload_n dX3_addGoal_12 0 rfl ?_
    obtain ⟨x3, ex3, hE⟩ := Option.bind_eq_some_iff.mp hE
    refine y_getI fl_X3_32 ex3 dX3_addGoal_13 ?_
    refine y_iload_n dX3_addGoal_16 1 rfl ?_
    obtain ⟨h4, eh4, hE⟩ := Option.bind_eq_some_iff.mp hE
    refine y_iast eh4 dX3_addGoal_17 ?_
    refine y_aload_n dX3_addGoal_18 0 rfl ?_
    refine y_dup dX3_addGoal_19 rfl ?_
    obtain ⟨x5, ex5, hE⟩ := Option.bind_eq_some_iff.mp hE
    refine y_getI fl_X3_32 ex5 dX3_addGoal_20 ?_
    refine y_iconst (v := (1 : Int32)) dX3_addGoal_23 (by decide) ?_
    refine y_iadd dX3_addGoal_24 ?_
    obtain ⟨h6, eh6, hE⟩ := Option.bind_eq_some_iff.mp hE
    refine y_putI fp_X3_32 eh6 dX3_addGoal_25 ?_
    obtain rfl := Option.some.inj hE
    exact y_ret dX3_addGoal_28 (Nat.le_refl _) (Nat.le_refl _) rfl
def f_X3_begin (h : xH) (a0 : Nat) : Option ((xH) × Nat × Nat) :=
  (x_gI h a0 3 1).bind fun x1 =>
  (x_gR h a0 3 2).bind fun a2 =>
  (x_gI h a2 2 6).bind fun x3 =>
  (some ((x_max (1 : Int32) x1) * (i_shl (8 : Int32) x3))).bind fun x4 =>
  (x_gR h a0 3 3).bind fun a5 =>
  (x_len h a5).bind fun x6 =>
  (
    if x4 ≤ x6 then
      some (h, 0, 0)
    else
      (x_sz x4).bind fun n8 =>
      x_add 1 n8 <|
      (x_put (h ++ [.inl (.int, n8, .inl (fun _ => 0))]) a0 3 3 (.ref (h.length + 16))).bind fun h11 =>
      (x_sz x4).bind fun n12 =>
      x_add 1 n12 <|
      (x_put (h11 ++ [.inl (.int, n12, .inl (fun _ => 0))]) a0 3 4 (.ref (h11.length + 16))).bind fun h15 =>
      (x_put h15 a0 3 5 (.int (1 : Int32))).bind fun h16 =>
      some (h16, 0, 0)
  ).bind fun q7 =>
  x_add q7.2.1 q7.2.2 <|
  (x_put q7.1 a0 3 6 (.int (0 : Int32))).bind fun h18 =>
  (x_put h18 a0 3 7 (.int (0 : Int32))).bind fun h19 =>
  (x_put h19 a0 3 8 (.int (0 : Int32))).bind fun h20 =>
  (x_put h20 a0 3 9 (.int (0 : Int32))).bind fun h21 =>
  (x_put h21 a0 3 10 (.int (0 : Int32))).bind fun h22 =>
  some (h22, 0, 0)
set_option maxRecDepth 100000 in
set_option maxHeartbeats 4000000 in
theorem c_X3_begin {h : xH} {a0 : Nat} {hz : xH} {c9 s9 : Nat} (hE : f_X3_begin h a0 = some (hz, c9, s9)) : Ctr M_X3_begin [.ref a0] h none hz c9 s9 := by
  refine ctr_of (by decide) (fun _ _ => Nat.le_of_ble_eq_true rfl) (fun S => ?_)
  show Y S M_X3_begin h none hz c9 s9 0 [(0, .ref a0)] [] h 0 0
  unfold f_X3_begin at hE
  refine y_iconst (v := (1 : Int32)) dX3_begin_0 (by decide) ?_
  refine y_aload_n dX3_begin_1 0 rfl ?_
  obtain ⟨x1, ex1, hE⟩ := Option.bind_eq_some_iff.mp hE
  refine y_getI fl_X3_32 ex1 dX3_begin_2 ?_
  refine y_max (x_wt (tb 741 (by decide +kernel)) rfl) (by decide) (by decide) (Nat.le_of_ble_eq_true rfl) ⟨by omega, by omega⟩ dX3_begin_5 ?_
  refine y_bipush (v := (8 : Int32)) dX3_begin_8 (by decide) ?_
  refine y_aload_n dX3_begin_10 0 rfl ?_
  obtain ⟨a2, ea2, hE⟩ := Option.bind_eq_some_iff.mp hE
  refine y_getR fl_X3_18 ea2 dX3_begin_11 ?_
  obtain ⟨x3, ex3, hE⟩ := Option.bind_eq_some_iff.mp hE
  refine y_getI fl_X3_47 ex3 dX3_begin_14 ?_
  refine y_ishl dX3_begin_17 ?_
  refine y_imul dX3_begin_18 ?_
  obtain ⟨x4, ex4, hE⟩ := Option.bind_eq_some_iff.mp hE
  refine y_istore_n (ls' := [(1, .int x4), (0, .ref a0)]) dX3_begin_19 (by decide) (Option.some.inj ex4) rfl ?_
  refine y_aload_n dX3_begin_20 1 rfl ?_
  obtain ⟨a5, ea5, hE⟩ := Option.bind_eq_some_iff.mp hE
  refine y_getR fl_X3_22 ea5 dX3_begin_21 ?_
  obtain ⟨x6, ex6, hE⟩ := Option.bind_eq_some_iff.mp hE
  refine y_alen ex6 dX3_begin_24 ?_
  refine y_iload_n dX3_begin_25 0 rfl ?_
  obtain ⟨q7, eJ, hE⟩ := Option.bind_eq_some_iff.mp hE
  obtain ⟨c23, s24, hN, ecc23, ess24⟩ := x_add.spec hE
  clear hE; have hE := hN; clear hN
  have hJ : Y S M_X3_begin h none hz c9 s9 48 [(0, .ref a0)] [] q7.1 (0 + q7.2.1) (0 + q7.2.2) := by
    refine y_aload_n dX3_begin_48 0 rfl ?_
    refine y_iconst (v := (0 : Int32)) dX3_begin_49 (by decide) ?_
    obtain ⟨h18, eh18, hE⟩ := Option.bind_eq_some_iff.mp hE
    refine y_putI fp_X3_85 eh18 dX3_begin_50 ?_
    refine y_aload_n dX3_begin_53 0 rfl ?_
    refine y_iconst (v := (0 : Int32)) dX3_begin_54 (by decide) ?_
    obtain ⟨h19, eh19, hE⟩ := Option.bind_eq_some_iff.mp hE
    refine y_putI fp_X3_88 eh19 dX3_begin_55 ?_
    refine y_aload_n dX3_begin_58 0 rfl ?_
    refine y_iconst (v := (0 : Int32)) dX3_begin_59 (by decide) ?_
    obtain ⟨h20, eh20, hE⟩ := Option.bind_eq_some_iff.mp hE
    refine y_putZ fp_X3_91 rfl rfl eh20 dX3_begin_60 ?_
    refine y_aload_n dX3_begin_63 0 rfl ?_
    refine y_iconst (v := (0 : Int32)) dX3_begin_64 (by decide) ?_
    obtain ⟨h21, eh21, hE⟩ := Option.bind_eq_some_iff.mp hE
    refine y_putI fp_X3_71 eh21 dX3_begin_65 ?_
    refine y_aload_n dX3_begin_68 0 rfl ?_
    refine y_iconst (v := (0 : Int32)) dX3_begin_69 (by decide) ?_
    obtain ⟨h22, eh22, hE⟩ := Option.bind_eq_some_iff.mp hE
    refine y_putI fp_X3_68 eh22 dX3_begin_70 ?_
    obtain ⟨rfl, rfl, rfl⟩ := x_inj3 hE
    exact y_ret dX3_begin_73 (by omega) (by omega) rfl
  clear hE
  have hE := eJ.trans (show some q7 = some (q7.1, q7.2.1, q7.2.2) from rfl)
  clear eJ
  refine y_icmp_ge (tgt := 48) dX3_begin_26 (by decide) (fun hc17 => ?_) (fun hc17 => ?_)
  · rw [if_pos hc17] at hE
    have e9 := Option.some.inj hE
    have e8 := congrArg Prod.fst e9
    have e7 := congrArg (fun z => z.2.1) e9
    have e6 := congrArg (fun z => z.2.2) e9
    dsimp only at e8 e7 e6
    rw [← e8] at hJ
    refine y_cnt (c2 := 0 + q7.2.1) (s2 := 0 + q7.2.2) (by omega) (by omega) ?_
    exact y_pick [1] rfl hJ
  · rw [if_neg hc17] at hE
    refine y_aload_n dX3_begin_29 1 rfl ?_
    refine y_iload_n dX3_begin_30 0 rfl ?_
    obtain ⟨n8, en8, hE⟩ := Option.bind_eq_some_iff.mp hE
    obtain ⟨c9, s10, hN, ecc9, ess10⟩ := x_add.spec hE
    clear hE; have hE := hN; clear hN
    refine y_newI (N := n8) (x_wt (tb 92 (by decide +kernel)) rfl) (x_sz.spec en8).1 (x_sz.spec en8).2.1 (x_sz.spec en8).2.2.1 ⟨by omega, by omega⟩ dX3_begin_31 ?_
    obtain ⟨h11, eh11, hE⟩ := Option.bind_eq_some_iff.mp hE
    refine y_putR fp_X3_22 (fun q => by first | rfl | cases q) (fun _ => rfl) (fun _ => rfl) eh11 dX3_begin_33 ?_
    refine y_aload_n dX3_begin_36 1 rfl ?_
    refine y_iload_n dX3_begin_37 0 rfl ?_
    obtain ⟨n12, en12, hE⟩ := Option.bind_eq_some_iff.mp hE
    obtain ⟨c13, s14, hN, ecc13, ess14⟩ := x_add.spec hE
    clear hE; have hE := hN; clear hN
    refine y_newI (N := n12) (x_wt (tb 92 (by decide +kernel)) rfl) (x_sz.spec en12).1 (x_sz.spec en12).2.1 (x_sz.spec en12).2.2.1 ⟨by omega, by omega⟩ dX3_begin_38 ?_
    obtain ⟨h15, eh15, hE⟩ := Option.bind_eq_some_iff.mp hE
    refine y_putR fp_X3_25 (fun q => by first | rfl | cases q) (fun _ => rfl) (fun _ => rfl) eh15 dX3_begin_40 ?_
    refine y_aload_n dX3_begin_43 1 rfl ?_
    refine y_iconst (v := (1 : Int32)) dX3_begin_44 (by decide) ?_
    obtain ⟨h16, eh16, hE⟩ := Option.bind_eq_some_iff.mp hE
    refine y_putI fp_X3_28 eh16 dX3_begin_45 ?_
    have e9 := Option.some.inj hE
    have e8 := congrArg Prod.fst e9
    have e7 := congrArg (fun z => z.2.1) e9
    have e6 := congrArg (fun z => z.2.2) e9
    dsimp only at e8 e7 e6
    rw [← e8] at hJ
    refine y_cnt (c2 := 0 + q7.2.1) (s2 := 0 + q7.2.2) (by omega) (by omega) ?_
    exact y_pick [1] rfl hJ
def f_J6_numberOfTrailingZeros_0f7a4 (p0 : Int32) : Option (Int32) :=
  (some ((p0 ^^^ (-1 : Int32)) &&& (p0 - (1 : Int32)))).bind fun x1 =>
  if 0 < x1 then
    (
      if x1 ≤ (65536 : Int32) then
        some (x1, (1 : Int32))
      else
        (some ((1 : Int32) + (16 : Int32))).bind fun x3 =>
        (some (i_ushr x1 (16 : Int32))).bind fun x4 =>
        some (x4, x3)
    ).bind fun q2 =>
    (
      if q2.1 ≤ (256 : Int32) then
        some (q2.1, q2.2)
      else
        (some (q2.2 + (8 : Int32))).bind fun x7 =>
        (some (i_ushr q2.1 (8 : Int32))).bind fun x8 =>
        some (x8, x7)
    ).bind fun q6 =>
    (
      if q6.1 ≤ (16 : Int32) then
        some (q6.1, q6.2)
      else
        (some (q6.2 + (4 : Int32))).bind fun x11 =>
        (some (i_ushr q6.1 (4 : Int32))).bind fun x12 =>
        some (x12, x11)
    ).bind fun q10 =>
    if q10.1 ≤ (4 : Int32) then
      some (q10.2 + (i_ushr q10.1 (1 : Int32)))
    else
      (some (q10.2 + (2 : Int32))).bind fun x14 =>
      (some (i_ushr q10.1 (2 : Int32))).bind fun x15 =>
      some (x14 + (i_ushr x15 (1 : Int32)))
  else
    some (x1 &&& (32 : Int32))
set_option maxRecDepth 100000 in
set_option maxHeartbeats 4000000 in
theorem c_J6_numberOfTrailingZeros_0f7a4 {h : xH} {p0 : Int32} {r9 : Int32} (hE : f_J6_numberOfTrailingZeros_0f7a4 p0 = some r9) : Ctr M_J6_numberOfTrailingZeros_0f7a4 [.int p0] h (some (.int r9)) h 0 0 := by
  refine ctr_of (by decide) (fun _ _ => Nat.le_of_ble_eq_true rfl) (fun S => ?_)
  show Y S M_J6_numberOfTrailingZeros_0f7a4 h (some (.int r9)) h 0 0 0 [(0, .int p0)] [] h 0 0
  unfold f_J6_numberOfTrailingZeros_0f7a4 at hE
  refine y_iload_n dJ6_numberOfTrailingZeros_0f7a4_0 0 rfl ?_
  refine y_iconst (v := (-1 : Int32)) dJ6_numberOfTrailingZeros_0f7a4_1 (by decide) ?_
  refine y_ixor dJ6_numberOfTrailingZeros_0f7a4_2 ?_
  refine y_iload_n dJ6_numberOfTrailingZeros_0f7a4_3 0 rfl ?_
  refine y_iconst (v := (1 : Int32)) dJ6_numberOfTrailingZeros_0f7a4_4 (by decide) ?_
  refine y_isub dJ6_numberOfTrailingZeros_0f7a4_5 ?_
  refine y_iand dJ6_numberOfTrailingZeros_0f7a4_6 ?_
  obtain ⟨x1, ex1, hE⟩ := Option.bind_eq_some_iff.mp hE
  refine y_istore_n (ls' := [(0, .int x1)]) dJ6_numberOfTrailingZeros_0f7a4_7 (by decide) (Option.some.inj ex1) rfl ?_
  refine y_iload_n dJ6_numberOfTrailingZeros_0f7a4_8 0 rfl ?_
  refine y_if_gt (tgt := 17) dJ6_numberOfTrailingZeros_0f7a4_9 (by decide) (fun hc17 => ?_) (fun hc17 => ?_)
  · rw [if_pos hc17] at hE
    refine y_iconst (v := (1 : Int32)) dJ6_numberOfTrailingZeros_0f7a4_17 (by decide) ?_
    refine y_istore_n (ls' := [(1, .int (1 : Int32)), (0, .int x1)]) dJ6_numberOfTrailingZeros_0f7a4_18 (by decide) rfl rfl ?_
    refine y_iload_n dJ6_numberOfTrailingZeros_0f7a4_19 1 rfl ?_
    refine y_ldc_w (v := (65536 : Int32)) (x_wt (tb 757 (by decide +kernel)) rfl) dJ6_numberOfTrailingZeros_0f7a4_20 ?_
    obtain ⟨q2, eJ, hE⟩ := Option.bind_eq_some_iff.mp hE
    have hJ : Y S M_J6_numberOfTrailingZeros_0f7a4 h (some (.int r9)) h 0 0 34 [(0, .int q2.1), (1, .int q2.2)] [] h 0 0 := by
      refine y_iload_n dJ6_numberOfTrailingZeros_0f7a4_34 0 rfl ?_
      refine y_sipush (v := (256 : Int32)) dJ6_numberOfTrailingZeros_0f7a4_35 (by decide) ?_
      obtain ⟨q6, eJ, hE⟩ := Option.bind_eq_some_iff.mp hE
      have hJ : Y S M_J6_numberOfTrailingZeros_0f7a4 h (some (.int r9)) h 0 0 49 [(0, .int q6.1), (1, .int q6.2)] [] h 0 0 := by
        refine y_iload_n dJ6_numberOfTrailingZeros_0f7a4_49 0 rfl ?_
        refine y_bipush (v := (16 : Int32)) dJ6_numberOfTrailingZeros_0f7a4_50 (by decide) ?_
        obtain ⟨q10, eJ, hE⟩ := Option.bind_eq_some_iff.mp hE
        have hJ : Y S M_J6_numberOfTrailingZeros_0f7a4 h (some (.int r9)) h 0 0 62 [(0, .int q10.1), (1, .int q10.2)] [] h 0 0 := by
          refine y_iload_n dJ6_numberOfTrailingZeros_0f7a4_62 0 rfl ?_
          refine y_iconst (v := (4 : Int32)) dJ6_numberOfTrailingZeros_0f7a4_63 (by decide) ?_
          refine y_icmp_le (tgt := 74) dJ6_numberOfTrailingZeros_0f7a4_64 (by decide) (fun hc16 => ?_) (fun hc16 => ?_)
          · rw [if_pos hc16] at hE
            refine y_iload_n dJ6_numberOfTrailingZeros_0f7a4_74 1 rfl ?_
            refine y_iload_n dJ6_numberOfTrailingZeros_0f7a4_75 0 rfl ?_
            refine y_iconst (v := (1 : Int32)) dJ6_numberOfTrailingZeros_0f7a4_76 (by decide) ?_
            refine y_iushr dJ6_numberOfTrailingZeros_0f7a4_77 ?_
            refine y_iadd dJ6_numberOfTrailingZeros_0f7a4_78 ?_
            obtain rfl := Option.some.inj hE
            exact y_ret dJ6_numberOfTrailingZeros_0f7a4_79 (Nat.le_refl _) (Nat.le_refl _) ⟨_, rfl, rfl⟩
          · rw [if_neg hc16] at hE
            obtain ⟨x14, ex14, hE⟩ := Option.bind_eq_some_iff.mp hE
            refine y_iinc (ls' := [(1, .int x14), (0, .int q10.1)]) dJ6_numberOfTrailingZeros_0f7a4_67 1 rfl (Option.some.inj ex14) (by decide) rfl ?_
            refine y_iload_n dJ6_numberOfTrailingZeros_0f7a4_70 1 rfl ?_
            refine y_iconst (v := (2 : Int32)) dJ6_numberOfTrailingZeros_0f7a4_71 (by decide) ?_
            refine y_iushr dJ6_numberOfTrailingZeros_0f7a4_72 ?_
            obtain ⟨x15, ex15, hE⟩ := Option.bind_eq_some_iff.mp hE
            refine y_istore_n (ls' := [(0, .int x15), (1, .int x14)]) dJ6_numberOfTrailingZeros_0f7a4_73 (by decide) (Option.some.inj ex15) rfl ?_
            refine y_iload_n dJ6_numberOfTrailingZeros_0f7a4_74 1 rfl ?_
            refine y_iload_n dJ6_numberOfTrailingZeros_0f7a4_75 0 rfl ?_
            refine y_iconst (v := (1 : Int32)) dJ6_numberOfTrailingZeros_0f7a4_76 (by decide) ?_
            refine y_iushr dJ6_numberOfTrailingZeros_0f7a4_77 ?_
            refine y_iadd dJ6_numberOfTrailingZeros_0f7a4_78 ?_
            obtain rfl := Option.some.inj hE
            exact y_ret dJ6_numberOfTrailingZeros_0f7a4_79 (Nat.le_refl _) (Nat.le_refl _) ⟨_, rfl, rfl⟩
        clear hE
        have hE := eJ
        clear eJ
        refine y_icmp_le (tgt := 62) dJ6_numberOfTrailingZeros_0f7a4_52 (by decide) (fun hc13 => ?_) (fun hc13 => ?_)
        · rw [if_pos hc13] at hE
          obtain rfl := Option.some.inj hE
          exact y_pick [0, 1] rfl hJ
        · rw [if_neg hc13] at hE
          obtain ⟨x11, ex11, hE⟩ := Option.bind_eq_some_iff.mp hE
          refine y_iinc (ls' := [(1, .int x11), (0, .int q6.1)]) dJ6_numberOfTrailingZeros_0f7a4_55 1 rfl (Option.some.inj ex11) (by decide) rfl ?_
          refine y_iload_n dJ6_numberOfTrailingZeros_0f7a4_58 1 rfl ?_
          refine y_iconst (v := (4 : Int32)) dJ6_numberOfTrailingZeros_0f7a4_59 (by decide) ?_
          refine y_iushr dJ6_numberOfTrailingZeros_0f7a4_60 ?_
          obtain ⟨x12, ex12, hE⟩ := Option.bind_eq_some_iff.mp hE
          refine y_istore_n (ls' := [(0, .int x12), (1, .int x11)]) dJ6_numberOfTrailingZeros_0f7a4_61 (by decide) (Option.some.inj ex12) rfl ?_
          obtain rfl := Option.some.inj hE
          exact y_pick [0, 1] rfl hJ
      clear hE
      have hE := eJ
      clear eJ
      refine y_icmp_le (tgt := 49) dJ6_numberOfTrailingZeros_0f7a4_38 (by decide) (fun hc9 => ?_) (fun hc9 => ?_)
      · rw [if_pos hc9] at hE
        obtain rfl := Option.some.inj hE
        exact y_pick [0, 1] rfl hJ
      · rw [if_neg hc9] at hE
        obtain ⟨x7, ex7, hE⟩ := Option.bind_eq_some_iff.mp hE
        refine y_iinc (ls' := [(1, .int x7), (0, .int q2.1)]) dJ6_numberOfTrailingZeros_0f7a4_41 1 rfl (Option.some.inj ex7) (by decide) rfl ?_
        refine y_iload_n dJ6_numberOfTrailingZeros_0f7a4_44 1 rfl ?_
        refine y_bipush (v := (8 : Int32)) dJ6_numberOfTrailingZeros_0f7a4_45 (by decide) ?_
        refine y_iushr dJ6_numberOfTrailingZeros_0f7a4_47 ?_
        obtain ⟨x8, ex8, hE⟩ := Option.bind_eq_some_iff.mp hE
        refine y_istore_n (ls' := [(0, .int x8), (1, .int x7)]) dJ6_numberOfTrailingZeros_0f7a4_48 (by decide) (Option.some.inj ex8) rfl ?_
        obtain rfl := Option.some.inj hE
        exact y_pick [0, 1] rfl hJ
    clear hE
    have hE := eJ
    clear eJ
    refine y_icmp_le (tgt := 34) dJ6_numberOfTrailingZeros_0f7a4_23 (by decide) (fun hc5 => ?_) (fun hc5 => ?_)
    · rw [if_pos hc5] at hE
      obtain rfl := Option.some.inj hE
      exact y_pick [1, 0] rfl hJ
    · rw [if_neg hc5] at hE
      obtain ⟨x3, ex3, hE⟩ := Option.bind_eq_some_iff.mp hE
      refine y_iinc (ls' := [(1, .int x3), (0, .int x1)]) dJ6_numberOfTrailingZeros_0f7a4_26 0 rfl (Option.some.inj ex3) (by decide) rfl ?_
      refine y_iload_n dJ6_numberOfTrailingZeros_0f7a4_29 1 rfl ?_
      refine y_bipush (v := (16 : Int32)) dJ6_numberOfTrailingZeros_0f7a4_30 (by decide) ?_
      refine y_iushr dJ6_numberOfTrailingZeros_0f7a4_32 ?_
      obtain ⟨x4, ex4, hE⟩ := Option.bind_eq_some_iff.mp hE
      refine y_istore_n (ls' := [(0, .int x4), (1, .int x3)]) dJ6_numberOfTrailingZeros_0f7a4_33 (by decide) (Option.some.inj ex4) rfl ?_
      obtain rfl := Option.some.inj hE
      exact y_pick [0, 1] rfl hJ
  · rw [if_neg hc17] at hE
    refine y_iload_n dJ6_numberOfTrailingZeros_0f7a4_12 0 rfl ?_
    refine y_bipush (v := (32 : Int32)) dJ6_numberOfTrailingZeros_0f7a4_13 (by decide) ?_
    refine y_iand dJ6_numberOfTrailingZeros_0f7a4_15 ?_
    obtain rfl := Option.some.inj hE
    exact y_ret dJ6_numberOfTrailingZeros_0f7a4_16 (Nat.le_refl _) (Nat.le_refl _) ⟨_, rfl, rfl⟩
