theorem dX5_readStatement_0 : decode cX5_readStatement 0 = .ok (.aload_n 0, 1) := by decide +kernel
theorem dX5_readStatement_1 : decode cX5_readStatement 1 = .ok (.ldc 49, 2) := by decide +kernel
theorem dX5_readStatement_3 : decode cX5_readStatement 3 = .ok (.invokevirtual 51, 3) := by decide +kernel
theorem dX5_readStatement_6 : decode cX5_readStatement 6 = .ok (.ifCond .eq 26, 3) := by decide +kernel
theorem dX5_readStatement_9 : decode cX5_readStatement 9 = .ok (.aload_n 1, 1) := by decide +kernel
theorem dX5_readStatement_10 : decode cX5_readStatement 10 = .ok (.getfield 55, 3) := by decide +kernel
theorem dX5_readStatement_13 : decode cX5_readStatement 13 = .ok (.bipush 14, 2) := by decide +kernel
theorem dX5_readStatement_15 : decode cX5_readStatement 15 = .ok (.if_icmp .ge 15, 3) := by decide +kernel
theorem dX5_readStatement_18 : decode cX5_readStatement 18 = .ok (.aload_n 0, 1) := by decide +kernel
theorem dX5_readStatement_19 : decode cX5_readStatement 19 = .ok (.aload_n 1, 1) := by decide +kernel
theorem dX5_readStatement_20 : decode cX5_readStatement 20 = .ok (.invokevirtual 60, 3) := by decide +kernel
theorem dX5_readStatement_23 : decode cX5_readStatement 23 = .ok (.ifCond .eq 7, 3) := by decide +kernel
theorem dX5_readStatement_26 : decode cX5_readStatement 26 = .ok (.iconst 1, 1) := by decide +kernel
theorem dX5_readStatement_27 : decode cX5_readStatement 27 = .ok (.goto 4, 3) := by decide +kernel
theorem dX5_readStatement_30 : decode cX5_readStatement 30 = .ok (.iconst 0, 1) := by decide +kernel
theorem dX5_readStatement_31 : decode cX5_readStatement 31 = .ok (.ireturn, 1) := by decide +kernel
theorem dX5_readStatement_32 : decode cX5_readStatement 32 = .ok (.aload_n 0, 1) := by decide +kernel
theorem dX5_readStatement_33 : decode cX5_readStatement 33 = .ok (.ldc 63, 2) := by decide +kernel
theorem dX5_readStatement_35 : decode cX5_readStatement 35 = .ok (.invokevirtual 51, 3) := by decide +kernel
theorem dX5_readStatement_38 : decode cX5_readStatement 38 = .ok (.ifCond .eq 25, 3) := by decide +kernel
theorem dX5_readStatement_41 : decode cX5_readStatement 41 = .ok (.aload_n 1, 1) := by decide +kernel
theorem dX5_readStatement_42 : decode cX5_readStatement 42 = .ok (.getfield 65, 3) := by decide +kernel
theorem dX5_readStatement_45 : decode cX5_readStatement 45 = .ok (.iconst 4, 1) := by decide +kernel
theorem dX5_readStatement_46 : decode cX5_readStatement 46 = .ok (.if_icmp .ge 15, 3) := by decide +kernel
theorem dX5_readStatement_49 : decode cX5_readStatement 49 = .ok (.aload_n 0, 1) := by decide +kernel
theorem dX5_readStatement_50 : decode cX5_readStatement 50 = .ok (.aload_n 1, 1) := by decide +kernel
theorem dX5_readStatement_51 : decode cX5_readStatement 51 = .ok (.invokevirtual 68, 3) := by decide +kernel
theorem dX5_readStatement_54 : decode cX5_readStatement 54 = .ok (.ifCond .eq 7, 3) := by decide +kernel
theorem dX5_readStatement_57 : decode cX5_readStatement 57 = .ok (.iconst 1, 1) := by decide +kernel
theorem dX5_readStatement_58 : decode cX5_readStatement 58 = .ok (.goto 4, 3) := by decide +kernel
theorem dX5_readStatement_61 : decode cX5_readStatement 61 = .ok (.iconst 0, 1) := by decide +kernel
theorem dX5_readStatement_62 : decode cX5_readStatement 62 = .ok (.ireturn, 1) := by decide +kernel
theorem dX5_readStatement_63 : decode cX5_readStatement 63 = .ok (.aload_n 0, 1) := by decide +kernel
theorem dX5_readStatement_64 : decode cX5_readStatement 64 = .ok (.ldc 71, 2) := by decide +kernel
theorem dX5_readStatement_66 : decode cX5_readStatement 66 = .ok (.invokevirtual 51, 3) := by decide +kernel
theorem dX5_readStatement_69 : decode cX5_readStatement 69 = .ok (.ifCond .eq 9, 3) := by decide +kernel
theorem dX5_readStatement_72 : decode cX5_readStatement 72 = .ok (.aload_n 0, 1) := by decide +kernel
theorem dX5_readStatement_73 : decode cX5_readStatement 73 = .ok (.aload_n 1, 1) := by decide +kernel
theorem dX5_readStatement_74 : decode cX5_readStatement 74 = .ok (.invokevirtual 73, 3) := by decide +kernel
theorem dX5_readStatement_77 : decode cX5_readStatement 77 = .ok (.ireturn, 1) := by decide +kernel
theorem dX5_readStatement_78 : decode cX5_readStatement 78 = .ok (.aload_n 0, 1) := by decide +kernel
theorem dX5_readStatement_79 : decode cX5_readStatement 79 = .ok (.ldc 76, 2) := by decide +kernel
theorem dX5_readStatement_81 : decode cX5_readStatement 81 = .ok (.invokevirtual 51, 3) := by decide +kernel
theorem dX5_readStatement_84 : decode cX5_readStatement 84 = .ok (.ifCond .eq 9, 3) := by decide +kernel
theorem dX5_readStatement_87 : decode cX5_readStatement 87 = .ok (.aload_n 0, 1) := by decide +kernel
theorem dX5_readStatement_88 : decode cX5_readStatement 88 = .ok (.aload_n 1, 1) := by decide +kernel
theorem dX5_readStatement_89 : decode cX5_readStatement 89 = .ok (.invokevirtual 78, 3) := by decide +kernel
theorem dX5_readStatement_92 : decode cX5_readStatement 92 = .ok (.ireturn, 1) := by decide +kernel
theorem dX5_readStatement_93 : decode cX5_readStatement 93 = .ok (.aload_n 0, 1) := by decide +kernel
theorem dX5_readStatement_94 : decode cX5_readStatement 94 = .ok (.ldc 81, 2) := by decide +kernel
theorem dX5_readStatement_96 : decode cX5_readStatement 96 = .ok (.invokevirtual 51, 3) := by decide +kernel
theorem dX5_readStatement_99 : decode cX5_readStatement 99 = .ok (.ifCond .eq 15, 3) := by decide +kernel
theorem dX5_readStatement_102 : decode cX5_readStatement 102 = .ok (.aload_n 0, 1) := by decide +kernel
theorem dX5_readStatement_103 : decode cX5_readStatement 103 = .ok (.aload_n 1, 1) := by decide +kernel
theorem dX5_readStatement_104 : decode cX5_readStatement 104 = .ok (.invokevirtual 83, 3) := by decide +kernel
theorem dX5_readStatement_107 : decode cX5_readStatement 107 = .ok (.ifCond .eq 7, 3) := by decide +kernel
theorem dX5_readStatement_110 : decode cX5_readStatement 110 = .ok (.iconst 1, 1) := by decide +kernel
theorem dX5_readStatement_111 : decode cX5_readStatement 111 = .ok (.goto 4, 3) := by decide +kernel
theorem dX5_readStatement_114 : decode cX5_readStatement 114 = .ok (.iconst 0, 1) := by decide +kernel
theorem dX5_readStatement_115 : decode cX5_readStatement 115 = .ok (.ireturn, 1) := by decide +kernel
theorem dX5_readInto_0 : decode cX5_readInto 0 = .ok (.aload_n 0, 1) := by decide +kernel
theorem dX5_readInto_1 : decode cX5_readInto 1 = .ok (.iconst 0, 1) := by decide +kernel
theorem dX5_readInto_2 : decode cX5_readInto 2 = .ok (.putfield 19, 3) := by decide +kernel
theorem dX5_readInto_5 : decode cX5_readInto 5 = .ok (.aload_n 0, 1) := by decide +kernel
theorem dX5_readInto_6 : decode cX5_readInto 6 = .ok (.invokevirtual 22, 3) := by decide +kernel
theorem dX5_readInto_9 : decode cX5_readInto 9 = .ok (.iconst 1, 1) := by decide +kernel
theorem dX5_readInto_10 : decode cX5_readInto 10 = .ok (.istore_n 2, 1) := by decide +kernel
theorem dX5_readInto_11 : decode cX5_readInto 11 = .ok (.iload_n 2, 1) := by decide +kernel
theorem dX5_readInto_12 : decode cX5_readInto 12 = .ok (.sipush 250, 3) := by decide +kernel
theorem dX5_readInto_15 : decode cX5_readInto 15 = .ok (.if_icmp .gt 54, 3) := by decide +kernel
theorem dX5_readInto_18 : decode cX5_readInto 18 = .ok (.aload_n 0, 1) := by decide +kernel
theorem dX5_readInto_19 : decode cX5_readInto 19 = .ok (.aload_n 1, 1) := by decide +kernel
theorem dX5_readInto_20 : decode cX5_readInto 20 = .ok (.invokevirtual 25, 3) := by decide +kernel
theorem dX5_readInto_23 : decode cX5_readInto 23 = .ok (.ifCond .ne 11, 3) := by decide +kernel
theorem dX5_readInto_26 : decode cX5_readInto 26 = .ok (.bipush (-20), 2) := by decide +kernel
theorem dX5_readInto_28 : decode cX5_readInto 28 = .ok (.aload_n 0, 1) := by decide +kernel
theorem dX5_readInto_29 : decode cX5_readInto 29 = .ok (.getfield 29, 3) := by decide +kernel
theorem dX5_readInto_32 : decode cX5_readInto 32 = .ok (.isub, 1) := by decide +kernel
theorem dX5_readInto_33 : decode cX5_readInto 33 = .ok (.ireturn, 1) := by decide +kernel
theorem dX5_readInto_34 : decode cX5_readInto 34 = .ok (.aload_n 0, 1) := by decide +kernel
theorem dX5_readInto_35 : decode cX5_readInto 35 = .ok (.getfield 32, 3) := by decide +kernel
theorem dX5_readInto_38 : decode cX5_readInto 38 = .ok (.ifCond .ne 5, 3) := by decide +kernel
theorem dX5_readInto_41 : decode cX5_readInto 41 = .ok (.iload_n 2, 1) := by decide +kernel
theorem dX5_readInto_42 : decode cX5_readInto 42 = .ok (.ireturn, 1) := by decide +kernel
theorem dX5_readInto_43 : decode cX5_readInto 43 = .ok (.aload_n 0, 1) := by decide +kernel
theorem dX5_readInto_44 : decode cX5_readInto 44 = .ok (.getfield 32, 3) := by decide +kernel
theorem dX5_readInto_47 : decode cX5_readInto 47 = .ok (.iconst 3, 1) := by decide +kernel
theorem dX5_readInto_48 : decode cX5_readInto 48 = .ok (.if_icmp .eq 11, 3) := by decide +kernel
theorem dX5_readInto_51 : decode cX5_readInto 51 = .ok (.bipush (-20), 2) := by decide +kernel
theorem dX5_readInto_53 : decode cX5_readInto 53 = .ok (.aload_n 0, 1) := by decide +kernel
theorem dX5_readInto_54 : decode cX5_readInto 54 = .ok (.getfield 29, 3) := by decide +kernel
theorem dX5_readInto_57 : decode cX5_readInto 57 = .ok (.isub, 1) := by decide +kernel
theorem dX5_readInto_58 : decode cX5_readInto 58 = .ok (.ireturn, 1) := by decide +kernel
theorem dX5_readInto_59 : decode cX5_readInto 59 = .ok (.aload_n 0, 1) := by decide +kernel
theorem dX5_readInto_60 : decode cX5_readInto 60 = .ok (.invokevirtual 22, 3) := by decide +kernel
theorem dX5_readInto_63 : decode cX5_readInto 63 = .ok (.iinc 2 1, 3) := by decide +kernel
theorem dX5_readInto_66 : decode cX5_readInto 66 = .ok (.goto (-55), 3) := by decide +kernel
theorem dX5_readInto_69 : decode cX5_readInto 69 = .ok (.bipush (-20), 2) := by decide +kernel
theorem dX5_readInto_71 : decode cX5_readInto 71 = .ok (.aload_n 0, 1) := by decide +kernel
theorem dX5_readInto_72 : decode cX5_readInto 72 = .ok (.getfield 29, 3) := by decide +kernel
theorem dX5_readInto_75 : decode cX5_readInto 75 = .ok (.isub, 1) := by decide +kernel
theorem dX5_readInto_76 : decode cX5_readInto 76 = .ok (.ireturn, 1) := by decide +kernel
theorem dX6_init_0 : decode cX6_init 0 = .ok (.aload_n 0, 1) := by decide +kernel
theorem dX6_init_1 : decode cX6_init 1 = .ok (.invokespecial 1, 3) := by decide +kernel
theorem dX6_init_4 : decode cX6_init 4 = .ok (.aload_n 0, 1) := by decide +kernel
theorem dX6_init_5 : decode cX6_init 5 = .ok (.new 7, 3) := by decide +kernel
theorem dX6_init_8 : decode cX6_init 8 = .ok (.dup, 1) := by decide +kernel
theorem dX6_init_9 : decode cX6_init 9 = .ok (.invokespecial 9, 3) := by decide +kernel
theorem dX6_init_12 : decode cX6_init 12 = .ok (.putfield 10, 3) := by decide +kernel
theorem dX6_init_15 : decode cX6_init 15 = .ok (.aload_n 0, 1) := by decide +kernel
theorem dX6_init_16 : decode cX6_init 16 = .ok (.new 7, 3) := by decide +kernel
theorem dX6_init_19 : decode cX6_init 19 = .ok (.dup, 1) := by decide +kernel
theorem dX6_init_20 : decode cX6_init 20 = .ok (.invokespecial 9, 3) := by decide +kernel
theorem dX6_init_23 : decode cX6_init 23 = .ok (.putfield 16, 3) := by decide +kernel
theorem dX6_init_26 : decode cX6_init 26 = .ok (.aload_n 0, 1) := by decide +kernel
theorem dX6_init_27 : decode cX6_init 27 = .ok (.new 7, 3) := by decide +kernel
theorem dX6_init_30 : decode cX6_init 30 = .ok (.dup, 1) := by decide +kernel
theorem dX6_init_31 : decode cX6_init 31 = .ok (.invokespecial 9, 3) := by decide +kernel
theorem dX6_init_34 : decode cX6_init 34 = .ok (.putfield 19, 3) := by decide +kernel
theorem dX6_init_37 : decode cX6_init 37 = .ok (.aload_n 0, 1) := by decide +kernel
theorem dX6_init_38 : decode cX6_init 38 = .ok (.bipush 8, 2) := by decide +kernel
theorem dX6_init_40 : decode cX6_init 40 = .ok (.anewarray 22, 3) := by decide +kernel
theorem dX6_init_43 : decode cX6_init 43 = .ok (.putfield 24, 3) := by decide +kernel
theorem dX6_init_46 : decode cX6_init 46 = .ok (.aload_n 0, 1) := by decide +kernel
theorem dX6_init_47 : decode cX6_init 47 = .ok (.new 28, 3) := by decide +kernel
theorem dX6_init_50 : decode cX6_init 50 = .ok (.dup, 1) := by decide +kernel
theorem dX6_init_51 : decode cX6_init 51 = .ok (.invokespecial 30, 3) := by decide +kernel
theorem dX6_init_54 : decode cX6_init 54 = .ok (.putfield 31, 3) := by decide +kernel
theorem dX6_init_57 : decode cX6_init 57 = .ok (.aload_n 0, 1) := by decide +kernel
theorem dX6_init_58 : decode cX6_init 58 = .ok (.new 35, 3) := by decide +kernel
theorem dX6_init_61 : decode cX6_init 61 = .ok (.dup, 1) := by decide +kernel
theorem dX6_init_62 : decode cX6_init 62 = .ok (.invokespecial 37, 3) := by decide +kernel
theorem dX6_init_65 : decode cX6_init 65 = .ok (.putfield 38, 3) := by decide +kernel
theorem dX6_init_68 : decode cX6_init 68 = .ok (.aload_n 0, 1) := by decide +kernel
theorem dX6_init_69 : decode cX6_init 69 = .ok (.new 42, 3) := by decide +kernel
theorem dX6_init_72 : decode cX6_init 72 = .ok (.dup, 1) := by decide +kernel
theorem dX6_init_73 : decode cX6_init 73 = .ok (.invokespecial 44, 3) := by decide +kernel
theorem dX6_init_76 : decode cX6_init 76 = .ok (.putfield 45, 3) := by decide +kernel
theorem dX6_init_79 : decode cX6_init 79 = .ok (.aload_n 0, 1) := by decide +kernel
theorem dX6_init_80 : decode cX6_init 80 = .ok (.iconst 5, 1) := by decide +kernel
theorem dX6_init_81 : decode cX6_init 81 = .ok (.newarray .int, 2) := by decide +kernel
theorem dX6_init_83 : decode cX6_init 83 = .ok (.putfield 49, 3) := by decide +kernel
theorem dX6_init_86 : decode cX6_init 86 = .ok (.iconst 0, 1) := by decide +kernel
theorem dX6_init_87 : decode cX6_init 87 = .ok (.istore_n 1, 1) := by decide +kernel
theorem dX6_init_88 : decode cX6_init 88 = .ok (.iload_n 1, 1) := by decide +kernel
theorem dX6_init_89 : decode cX6_init 89 = .ok (.bipush 8, 2) := by decide +kernel
theorem dX6_init_91 : decode cX6_init 91 = .ok (.if_icmp .ge 22, 3) := by decide +kernel
theorem dX6_init_94 : decode cX6_init 94 = .ok (.aload_n 0, 1) := by decide +kernel
theorem dX6_init_95 : decode cX6_init 95 = .ok (.getfield 24, 3) := by decide +kernel
theorem dX6_init_98 : decode cX6_init 98 = .ok (.iload_n 1, 1) := by decide +kernel
theorem dX6_init_99 : decode cX6_init 99 = .ok (.new 22, 3) := by decide +kernel
theorem dX6_init_102 : decode cX6_init 102 = .ok (.dup, 1) := by decide +kernel
theorem dX6_init_103 : decode cX6_init 103 = .ok (.invokespecial 53, 3) := by decide +kernel
theorem dX6_init_106 : decode cX6_init 106 = .ok (.aastore, 1) := by decide +kernel
theorem dX6_init_107 : decode cX6_init 107 = .ok (.iinc 1 1, 3) := by decide +kernel
theorem dX6_init_110 : decode cX6_init 110 = .ok (.goto (-22), 3) := by decide +kernel
theorem dX6_init_113 : decode cX6_init 113 = .ok (.return_, 1) := by decide +kernel
theorem dX6_isShelf_0 : decode cX6_isShelf 0 = .ok (.iload_n 0, 1) := by decide +kernel
theorem dX6_isShelf_1 : decode cX6_isShelf 1 = .ok (.ifCond .lt 13, 3) := by decide +kernel
theorem dX6_isShelf_4 : decode cX6_isShelf 4 = .ok (.iload_n 0, 1) := by decide +kernel
theorem dX6_isShelf_5 : decode cX6_isShelf 5 = .ok (.bipush 8, 2) := by decide +kernel
theorem dX6_isShelf_7 : decode cX6_isShelf 7 = .ok (.if_icmp .ge 7, 3) := by decide +kernel
theorem dX6_isShelf_10 : decode cX6_isShelf 10 = .ok (.iconst 1, 1) := by decide +kernel
theorem dX6_isShelf_11 : decode cX6_isShelf 11 = .ok (.goto 4, 3) := by decide +kernel
theorem dX6_isShelf_14 : decode cX6_isShelf 14 = .ok (.iconst 0, 1) := by decide +kernel
theorem dX6_isShelf_15 : decode cX6_isShelf 15 = .ok (.ireturn, 1) := by decide +kernel
theorem dX6_refuse_0 : decode cX6_refuse 0 = .ok (.bipush (-2), 2) := by decide +kernel
theorem dX6_refuse_2 : decode cX6_refuse 2 = .ok (.iload_n 1, 1) := by decide +kernel
theorem dX6_refuse_3 : decode cX6_refuse 3 = .ok (.isub, 1) := by decide +kernel
theorem dX6_refuse_4 : decode cX6_refuse 4 = .ok (.istore_n 2, 1) := by decide +kernel
theorem dX6_refuse_5 : decode cX6_refuse 5 = .ok (.iload_n 2, 1) := by decide +kernel
theorem dX6_refuse_6 : decode cX6_refuse 6 = .ok (.ifCond .lt 18, 3) := by decide +kernel
theorem dX6_refuse_9 : decode cX6_refuse 9 = .ok (.iload_n 2, 1) := by decide +kernel
theorem dX6_refuse_10 : decode cX6_refuse 10 = .ok (.iconst 5, 1) := by decide +kernel
theorem dX6_refuse_11 : decode cX6_refuse 11 = .ok (.if_icmp .ge 13, 3) := by decide +kernel
theorem dX6_refuse_14 : decode cX6_refuse 14 = .ok (.aload_n 0, 1) := by decide +kernel
theorem dX6_refuse_15 : decode cX6_refuse 15 = .ok (.getfield 49, 3) := by decide +kernel
theorem dX6_refuse_18 : decode cX6_refuse 18 = .ok (.iload_n 2, 1) := by decide +kernel
theorem dX6_refuse_19 : decode cX6_refuse 19 = .ok (.dup2, 1) := by decide +kernel
theorem dX6_refuse_20 : decode cX6_refuse 20 = .ok (.iaload, 1) := by decide +kernel
theorem dX6_refuse_21 : decode cX6_refuse 21 = .ok (.iconst 1, 1) := by decide +kernel
theorem dX6_refuse_22 : decode cX6_refuse 22 = .ok (.iadd, 1) := by decide +kernel
theorem dX6_refuse_23 : decode cX6_refuse 23 = .ok (.iastore, 1) := by decide +kernel
theorem dX6_refuse_24 : decode cX6_refuse 24 = .ok (.iload_n 1, 1) := by decide +kernel
theorem dX6_refuse_25 : decode cX6_refuse 25 = .ok (.ireturn, 1) := by decide +kernel
theorem dX6_row_0 : decode cX6_row 0 = .ok (.iload_n 1, 1) := by decide +kernel
theorem dX6_row_1 : decode cX6_row 1 = .ok (.invokestatic 54, 3) := by decide +kernel
theorem dX6_row_4 : decode cX6_row 4 = .ok (.ifCond .eq 22, 3) := by decide +kernel
theorem dX6_row_7 : decode cX6_row 7 = .ok (.iload_n 2, 1) := by decide +kernel
theorem dX6_row_8 : decode cX6_row 8 = .ok (.ifCond .lt 18, 3) := by decide +kernel
theorem dX6_row_11 : decode cX6_row 11 = .ok (.iload_n 2, 1) := by decide +kernel
theorem dX6_row_12 : decode cX6_row 12 = .ok (.iconst 4, 1) := by decide +kernel
theorem dX6_row_13 : decode cX6_row 13 = .ok (.if_icmp .gt 13, 3) := by decide +kernel
theorem dX6_row_16 : decode cX6_row 16 = .ok (.iload_n 3, 1) := by decide +kernel
theorem dX6_row_17 : decode cX6_row 17 = .ok (.ifCond .lt 9, 3) := by decide +kernel
theorem dX6_row_20 : decode cX6_row 20 = .ok (.iload_n 3, 1) := by decide +kernel
theorem dX6_row_21 : decode cX6_row 21 = .ok (.bipush 40, 2) := by decide +kernel
theorem dX6_row_23 : decode cX6_row 23 = .ok (.if_icmp .le 10, 3) := by decide +kernel
theorem dX6_row_26 : decode cX6_row 26 = .ok (.aload_n 0, 1) := by decide +kernel
theorem dX6_row_27 : decode cX6_row 27 = .ok (.bipush (-2), 2) := by decide +kernel
theorem dX6_row_29 : decode cX6_row 29 = .ok (.invokevirtual 58, 3) := by decide +kernel
theorem dX6_row_32 : decode cX6_row 32 = .ok (.ireturn, 1) := by decide +kernel
theorem dX6_row_33 : decode cX6_row 33 = .ok (.aload_n 0, 1) := by decide +kernel
theorem dX6_row_34 : decode cX6_row 34 = .ok (.getfield 24, 3) := by decide +kernel
theorem dX6_row_37 : decode cX6_row 37 = .ok (.iload_n 1, 1) := by decide +kernel
theorem dX6_row_38 : decode cX6_row 38 = .ok (.aaload, 1) := by decide +kernel
theorem dX6_row_39 : decode cX6_row 39 = .ok (.iload_n 2, 1) := by decide +kernel
theorem dX6_row_40 : decode cX6_row 40 = .ok (.iload_n 3, 1) := by decide +kernel
theorem dX6_row_41 : decode cX6_row 41 = .ok (.invokevirtual 62, 3) := by decide +kernel
theorem dX6_row_44 : decode cX6_row 44 = .ok (.iconst 1, 1) := by decide +kernel
theorem dX6_row_45 : decode cX6_row 45 = .ok (.ireturn, 1) := by decide +kernel
theorem dX6_rowRefusal_0 : decode cX6_rowRefusal 0 = .ok (.aload_n 0, 1) := by decide +kernel
theorem dX6_rowRefusal_1 : decode cX6_rowRefusal 1 = .ok (.invokevirtual 77, 3) := by decide +kernel
theorem dX6_rowRefusal_4 : decode cX6_rowRefusal 4 = .ok (.ifCond .eq 6, 3) := by decide +kernel
theorem dX6_rowRefusal_7 : decode cX6_rowRefusal 7 = .ok (.bipush (-3), 2) := by decide +kernel
theorem dX6_rowRefusal_9 : decode cX6_rowRefusal 9 = .ok (.ireturn, 1) := by decide +kernel
theorem dX6_rowRefusal_10 : decode cX6_rowRefusal 10 = .ok (.aload_n 0, 1) := by decide +kernel
theorem dX6_rowRefusal_11 : decode cX6_rowRefusal 11 = .ok (.invokevirtual 81, 3) := by decide +kernel
theorem dX6_rowRefusal_14 : decode cX6_rowRefusal 14 = .ok (.ifCond .eq 6, 3) := by decide +kernel
theorem dX6_rowRefusal_17 : decode cX6_rowRefusal 17 = .ok (.bipush (-4), 2) := by decide +kernel
theorem dX6_rowRefusal_19 : decode cX6_rowRefusal 19 = .ok (.ireturn, 1) := by decide +kernel
theorem dX6_rowRefusal_20 : decode cX6_rowRefusal 20 = .ok (.iload_n 1, 1) := by decide +kernel
theorem dX6_rowRefusal_21 : decode cX6_rowRefusal 21 = .ok (.aload_n 0, 1) := by decide +kernel
theorem dX6_rowRefusal_22 : decode cX6_rowRefusal 22 = .ok (.getfield 285, 3) := by decide +kernel
theorem dX6_rowRefusal_25 : decode cX6_rowRefusal 25 = .ok (.if_icmp .le 8, 3) := by decide +kernel
theorem dX6_rowRefusal_28 : decode cX6_rowRefusal 28 = .ok (.bipush (-2), 2) := by decide +kernel
theorem dX6_rowRefusal_30 : decode cX6_rowRefusal 30 = .ok (.goto 4, 3) := by decide +kernel
theorem dX6_rowRefusal_33 : decode cX6_rowRefusal 33 = .ok (.iconst 0, 1) := by decide +kernel
theorem dX6_rowRefusal_34 : decode cX6_rowRefusal 34 = .ok (.ireturn, 1) := by decide +kernel
theorem dX6_set_0 : decode cX6_set 0 = .ok (.iload_n 1, 1) := by decide +kernel
theorem dX6_set_1 : decode cX6_set 1 = .ok (.invokestatic 54, 3) := by decide +kernel
theorem dX6_set_4 : decode cX6_set 4 = .ok (.ifCond .ne 10, 3) := by decide +kernel
theorem dX6_set_7 : decode cX6_set 7 = .ok (.aload_n 0, 1) := by decide +kernel
theorem dX6_set_8 : decode cX6_set 8 = .ok (.bipush (-2), 2) := by decide +kernel
theorem dX6_set_10 : decode cX6_set 10 = .ok (.invokevirtual 58, 3) := by decide +kernel
theorem dX6_set_13 : decode cX6_set 13 = .ok (.ireturn, 1) := by decide +kernel
theorem dX6_set_14 : decode cX6_set 14 = .ok (.aload_n 0, 1) := by decide +kernel
theorem dX6_set_15 : decode cX6_set 15 = .ok (.getfield 24, 3) := by decide +kernel
theorem dX6_set_18 : decode cX6_set 18 = .ok (.iload_n 1, 1) := by decide +kernel
theorem dX6_set_19 : decode cX6_set 19 = .ok (.aaload, 1) := by decide +kernel
theorem dX6_set_20 : decode cX6_set 20 = .ok (.iconst 0, 1) := by decide +kernel
theorem dX6_set_21 : decode cX6_set 21 = .ok (.invokestatic 66, 3) := by decide +kernel
theorem dX6_set_24 : decode cX6_set 24 = .ok (.istore 5, 2) := by decide +kernel
theorem dX6_set_26 : decode cX6_set 26 = .ok (.iload 5, 2) := by decide +kernel
theorem dX6_set_28 : decode cX6_set 28 = .ok (.ifCond .eq 10, 3) := by decide +kernel
theorem dX6_set_31 : decode cX6_set 31 = .ok (.aload_n 0, 1) := by decide +kernel
theorem dX6_set_32 : decode cX6_set 32 = .ok (.iload 5, 2) := by decide +kernel
theorem dX6_set_34 : decode cX6_set 34 = .ok (.invokevirtual 58, 3) := by decide +kernel
theorem dX6_set_37 : decode cX6_set 37 = .ok (.ireturn, 1) := by decide +kernel
theorem dX6_set_38 : decode cX6_set 38 = .ok (.aload_n 0, 1) := by decide +kernel
theorem dX6_set_39 : decode cX6_set 39 = .ok (.getfield 24, 3) := by decide +kernel
theorem dX6_set_42 : decode cX6_set 42 = .ok (.iload_n 1, 1) := by decide +kernel
theorem dX6_set_43 : decode cX6_set 43 = .ok (.aaload, 1) := by decide +kernel
theorem dX6_set_44 : decode cX6_set 44 = .ok (.iload_n 2, 1) := by decide +kernel
theorem dX6_set_45 : decode cX6_set 45 = .ok (.invokevirtual 70, 3) := by decide +kernel
theorem dX6_set_48 : decode cX6_set 48 = .ok (.ifCond .ne 10, 3) := by decide +kernel
theorem dX6_set_51 : decode cX6_set 51 = .ok (.aload_n 0, 1) := by decide +kernel
theorem dX6_set_52 : decode cX6_set 52 = .ok (.bipush (-2), 2) := by decide +kernel
theorem dX6_set_54 : decode cX6_set 54 = .ok (.invokevirtual 58, 3) := by decide +kernel
theorem dX6_set_57 : decode cX6_set 57 = .ok (.ireturn, 1) := by decide +kernel
theorem dX6_set_58 : decode cX6_set 58 = .ok (.aload_n 0, 1) := by decide +kernel
theorem dX6_set_59 : decode cX6_set 59 = .ok (.getfield 24, 3) := by decide +kernel
theorem dX6_set_62 : decode cX6_set 62 = .ok (.iload_n 1, 1) := by decide +kernel
theorem dX6_set_63 : decode cX6_set 63 = .ok (.aaload, 1) := by decide +kernel
theorem dX6_set_64 : decode cX6_set 64 = .ok (.iload_n 2, 1) := by decide +kernel
theorem dX6_set_65 : decode cX6_set 65 = .ok (.lload_n 3, 1) := by decide +kernel
theorem dX6_set_66 : decode cX6_set 66 = .ok (.invokevirtual 73, 3) := by decide +kernel
theorem dX6_set_69 : decode cX6_set 69 = .ok (.iconst 1, 1) := by decide +kernel
theorem dX6_set_70 : decode cX6_set 70 = .ok (.ireturn, 1) := by decide +kernel
theorem dX6_copy_0 : decode cX6_copy 0 = .ok (.iload_n 1, 1) := by decide +kernel
theorem dX6_copy_1 : decode cX6_copy 1 = .ok (.invokestatic 54, 3) := by decide +kernel
theorem dX6_copy_4 : decode cX6_copy 4 = .ok (.ifCond .eq 10, 3) := by decide +kernel
theorem dX6_copy_7 : decode cX6_copy 7 = .ok (.iload_n 2, 1) := by decide +kernel
theorem dX6_copy_8 : decode cX6_copy 8 = .ok (.invokestatic 54, 3) := by decide +kernel
theorem dX6_copy_11 : decode cX6_copy 11 = .ok (.ifCond .ne 10, 3) := by decide +kernel
theorem dX6_copy_14 : decode cX6_copy 14 = .ok (.aload_n 0, 1) := by decide +kernel
theorem dX6_copy_15 : decode cX6_copy 15 = .ok (.bipush (-2), 2) := by decide +kernel
theorem dX6_copy_17 : decode cX6_copy 17 = .ok (.invokevirtual 58, 3) := by decide +kernel
theorem dX6_copy_20 : decode cX6_copy 20 = .ok (.ireturn, 1) := by decide +kernel
theorem dX6_copy_21 : decode cX6_copy 21 = .ok (.aload_n 0, 1) := by decide +kernel
theorem dX6_copy_22 : decode cX6_copy 22 = .ok (.getfield 24, 3) := by decide +kernel
theorem dX6_copy_25 : decode cX6_copy 25 = .ok (.iload_n 1, 1) := by decide +kernel
theorem dX6_copy_26 : decode cX6_copy 26 = .ok (.aaload, 1) := by decide +kernel
theorem dX6_copy_27 : decode cX6_copy 27 = .ok (.astore 6, 2) := by decide +kernel
theorem dX6_copy_29 : decode cX6_copy 29 = .ok (.aload_n 0, 1) := by decide +kernel
theorem dX6_copy_30 : decode cX6_copy 30 = .ok (.getfield 24, 3) := by decide +kernel
theorem dX6_copy_33 : decode cX6_copy 33 = .ok (.iload_n 2, 1) := by decide +kernel
theorem dX6_copy_34 : decode cX6_copy 34 = .ok (.aaload, 1) := by decide +kernel
theorem dX6_copy_35 : decode cX6_copy 35 = .ok (.astore 7, 2) := by decide +kernel
theorem dX6_copy_37 : decode cX6_copy 37 = .ok (.aload 6, 2) := by decide +kernel
theorem dX6_copy_39 : decode cX6_copy 39 = .ok (.invokevirtual 77, 3) := by decide +kernel
theorem dX6_copy_42 : decode cX6_copy 42 = .ok (.ifCond .ne 11, 3) := by decide +kernel
theorem dX6_copy_45 : decode cX6_copy 45 = .ok (.aload 7, 2) := by decide +kernel
theorem dX6_copy_47 : decode cX6_copy 47 = .ok (.invokevirtual 77, 3) := by decide +kernel
theorem dX6_copy_50 : decode cX6_copy 50 = .ok (.ifCond .eq 10, 3) := by decide +kernel
theorem dX6_copy_53 : decode cX6_copy 53 = .ok (.aload_n 0, 1) := by decide +kernel
theorem dX6_copy_54 : decode cX6_copy 54 = .ok (.bipush (-3), 2) := by decide +kernel
theorem dX6_copy_56 : decode cX6_copy 56 = .ok (.invokevirtual 58, 3) := by decide +kernel
theorem dX6_copy_59 : decode cX6_copy 59 = .ok (.ireturn, 1) := by decide +kernel
theorem dX6_copy_60 : decode cX6_copy 60 = .ok (.aload 6, 2) := by decide +kernel
theorem dX6_copy_62 : decode cX6_copy 62 = .ok (.invokevirtual 81, 3) := by decide +kernel
theorem dX6_copy_65 : decode cX6_copy 65 = .ok (.ifCond .ne 11, 3) := by decide +kernel
theorem dX6_copy_68 : decode cX6_copy 68 = .ok (.aload 7, 2) := by decide +kernel
theorem dX6_copy_70 : decode cX6_copy 70 = .ok (.invokevirtual 81, 3) := by decide +kernel
theorem dX6_copy_73 : decode cX6_copy 73 = .ok (.ifCond .eq 10, 3) := by decide +kernel
theorem dX6_copy_76 : decode cX6_copy 76 = .ok (.aload_n 0, 1) := by decide +kernel
theorem dX6_copy_77 : decode cX6_copy 77 = .ok (.bipush (-4), 2) := by decide +kernel
theorem dX6_copy_79 : decode cX6_copy 79 = .ok (.invokevirtual 58, 3) := by decide +kernel
theorem dX6_copy_82 : decode cX6_copy 82 = .ok (.ireturn, 1) := by decide +kernel
theorem dX6_copy_83 : decode cX6_copy 83 = .ok (.aload 6, 2) := by decide +kernel
theorem dX6_copy_85 : decode cX6_copy 85 = .ok (.getfield 84, 3) := by decide +kernel
theorem dX6_copy_88 : decode cX6_copy 88 = .ok (.aload 7, 2) := by decide +kernel
theorem dX6_copy_90 : decode cX6_copy 90 = .ok (.getfield 84, 3) := by decide +kernel
theorem dX6_copy_93 : decode cX6_copy 93 = .ok (.if_icmp .eq 10, 3) := by decide +kernel
theorem dX6_copy_96 : decode cX6_copy 96 = .ok (.aload_n 0, 1) := by decide +kernel
theorem dX6_copy_97 : decode cX6_copy 97 = .ok (.bipush (-3), 2) := by decide +kernel
theorem dX6_copy_99 : decode cX6_copy 99 = .ok (.invokevirtual 58, 3) := by decide +kernel
theorem dX6_copy_102 : decode cX6_copy 102 = .ok (.ireturn, 1) := by decide +kernel
theorem dX6_copy_103 : decode cX6_copy 103 = .ok (.aload 6, 2) := by decide +kernel
theorem dX6_copy_105 : decode cX6_copy 105 = .ok (.iload_n 3, 1) := by decide +kernel
theorem dX6_copy_106 : decode cX6_copy 106 = .ok (.iload 5, 2) := by decide +kernel
theorem dX6_copy_108 : decode cX6_copy 108 = .ok (.invokevirtual 88, 3) := by decide +kernel
theorem dX6_copy_111 : decode cX6_copy 111 = .ok (.ifCond .eq 15, 3) := by decide +kernel
theorem dX6_copy_114 : decode cX6_copy 114 = .ok (.aload 7, 2) := by decide +kernel
theorem dX6_copy_116 : decode cX6_copy 116 = .ok (.iload 4, 2) := by decide +kernel
theorem dX6_copy_118 : decode cX6_copy 118 = .ok (.iload 5, 2) := by decide +kernel
theorem dX6_copy_120 : decode cX6_copy 120 = .ok (.invokevirtual 88, 3) := by decide +kernel
theorem dX6_copy_123 : decode cX6_copy 123 = .ok (.ifCond .ne 10, 3) := by decide +kernel
theorem dX6_copy_126 : decode cX6_copy 126 = .ok (.aload_n 0, 1) := by decide +kernel
theorem dX6_copy_127 : decode cX6_copy 127 = .ok (.bipush (-2), 2) := by decide +kernel
theorem dX6_copy_129 : decode cX6_copy 129 = .ok (.invokevirtual 58, 3) := by decide +kernel
theorem dX6_copy_132 : decode cX6_copy 132 = .ok (.ireturn, 1) := by decide +kernel
theorem dX6_copy_133 : decode cX6_copy 133 = .ok (.aload 6, 2) := by decide +kernel
theorem dX6_copy_135 : decode cX6_copy 135 = .ok (.getfield 92, 3) := by decide +kernel
theorem dX6_copy_138 : decode cX6_copy 138 = .ok (.iload_n 3, 1) := by decide +kernel
theorem dX6_copy_139 : decode cX6_copy 139 = .ok (.aload 7, 2) := by decide +kernel
theorem dX6_copy_141 : decode cX6_copy 141 = .ok (.getfield 92, 3) := by decide +kernel
theorem dX6_copy_144 : decode cX6_copy 144 = .ok (.iload 4, 2) := by decide +kernel
theorem dX6_copy_146 : decode cX6_copy 146 = .ok (.iload 5, 2) := by decide +kernel
theorem dX6_copy_148 : decode cX6_copy 148 = .ok (.invokestatic 96, 3) := by decide +kernel
theorem dX6_copy_151 : decode cX6_copy 151 = .ok (.iload 5, 2) := by decide +kernel
theorem dX6_copy_153 : decode cX6_copy 153 = .ok (.ireturn, 1) := by decide +kernel
theorem dX6_element_0 : decode cX6_element 0 = .ok (.iload_n 1, 1) := by decide +kernel
theorem dX6_element_1 : decode cX6_element 1 = .ok (.invokestatic 54, 3) := by decide +kernel
theorem dX6_element_4 : decode cX6_element 4 = .ok (.ifCond .eq 16, 3) := by decide +kernel
theorem dX6_element_7 : decode cX6_element 7 = .ok (.aload_n 0, 1) := by decide +kernel
theorem dX6_element_8 : decode cX6_element 8 = .ok (.getfield 24, 3) := by decide +kernel
theorem dX6_element_11 : decode cX6_element 11 = .ok (.iload_n 1, 1) := by decide +kernel
theorem dX6_element_12 : decode cX6_element 12 = .ok (.aaload, 1) := by decide +kernel
theorem dX6_element_13 : decode cX6_element 13 = .ok (.iload_n 2, 1) := by decide +kernel
theorem dX6_element_14 : decode cX6_element 14 = .ok (.invokevirtual 70, 3) := by decide +kernel
theorem dX6_element_17 : decode cX6_element 17 = .ok (.ifCond .ne 5, 3) := by decide +kernel
theorem dX6_element_20 : decode cX6_element 20 = .ok (.lconst 0, 1) := by decide +kernel
theorem dX6_element_21 : decode cX6_element 21 = .ok (.lreturn, 1) := by decide +kernel
theorem dX6_element_22 : decode cX6_element 22 = .ok (.aload_n 0, 1) := by decide +kernel
theorem dX6_element_23 : decode cX6_element 23 = .ok (.getfield 24, 3) := by decide +kernel
theorem dX6_element_26 : decode cX6_element 26 = .ok (.iload_n 1, 1) := by decide +kernel
theorem dX6_element_27 : decode cX6_element 27 = .ok (.aaload, 1) := by decide +kernel
theorem dX6_element_28 : decode cX6_element 28 = .ok (.getfield 92, 3) := by decide +kernel
theorem dX6_element_31 : decode cX6_element 31 = .ok (.iload_n 2, 1) := by decide +kernel
theorem dX6_element_32 : decode cX6_element 32 = .ok (.laload, 1) := by decide +kernel
theorem dX6_element_33 : decode cX6_element 33 = .ok (.lreturn, 1) := by decide +kernel
theorem dX6_holds_0 : decode cX6_holds 0 = .ok (.iload_n 1, 1) := by decide +kernel
theorem dX6_holds_1 : decode cX6_holds 1 = .ok (.invokestatic 54, 3) := by decide +kernel
theorem dX6_holds_4 : decode cX6_holds 4 = .ok (.ifCond .eq 15, 3) := by decide +kernel
theorem dX6_holds_7 : decode cX6_holds 7 = .ok (.aload_n 0, 1) := by decide +kernel
theorem dX6_holds_8 : decode cX6_holds 8 = .ok (.getfield 24, 3) := by decide +kernel
theorem dX6_holds_11 : decode cX6_holds 11 = .ok (.iload_n 1, 1) := by decide +kernel
theorem dX6_holds_12 : decode cX6_holds 12 = .ok (.aaload, 1) := by decide +kernel
theorem dX6_holds_13 : decode cX6_holds 13 = .ok (.getfield 84, 3) := by decide +kernel
theorem dX6_holds_16 : decode cX6_holds 16 = .ok (.goto 4, 3) := by decide +kernel
theorem dX6_holds_19 : decode cX6_holds 19 = .ok (.iconst (-1), 1) := by decide +kernel
theorem dX6_holds_20 : decode cX6_holds 20 = .ok (.ireturn, 1) := by decide +kernel
theorem dX6_show_0 : decode cX6_show 0 = .ok (.iload_n 1, 1) := by decide +kernel
theorem dX6_show_1 : decode cX6_show 1 = .ok (.invokestatic 54, 3) := by decide +kernel
theorem dX6_show_4 : decode cX6_show 4 = .ok (.ifCond .eq 19, 3) := by decide +kernel
theorem dX6_show_7 : decode cX6_show 7 = .ok (.iload_n 2, 1) := by decide +kernel
theorem dX6_show_8 : decode cX6_show 8 = .ok (.iconst (-1), 1) := by decide +kernel
theorem dX6_show_9 : decode cX6_show 9 = .ok (.if_icmp .eq 21, 3) := by decide +kernel
theorem dX6_show_12 : decode cX6_show 12 = .ok (.aload_n 0, 1) := by decide +kernel
theorem dX6_show_13 : decode cX6_show 13 = .ok (.getfield 10, 3) := by decide +kernel
theorem dX6_show_16 : decode cX6_show 16 = .ok (.iload_n 2, 1) := by decide +kernel
theorem dX6_show_17 : decode cX6_show 17 = .ok (.invokevirtual 102, 3) := by decide +kernel
theorem dX6_show_20 : decode cX6_show 20 = .ok (.ifCond .ne 10, 3) := by decide +kernel
theorem dX6_show_23 : decode cX6_show 23 = .ok (.aload_n 0, 1) := by decide +kernel
theorem dX6_show_24 : decode cX6_show 24 = .ok (.bipush (-2), 2) := by decide +kernel
theorem dX6_show_26 : decode cX6_show 26 = .ok (.invokevirtual 58, 3) := by decide +kernel
theorem dX6_show_29 : decode cX6_show 29 = .ok (.ireturn, 1) := by decide +kernel
theorem dX6_show_30 : decode cX6_show 30 = .ok (.iload_n 2, 1) := by decide +kernel
theorem dX6_show_31 : decode cX6_show 31 = .ok (.iconst (-1), 1) := by decide +kernel
theorem dX6_show_32 : decode cX6_show 32 = .ok (.if_icmp .ne 15, 3) := by decide +kernel
theorem dX6_show_35 : decode cX6_show 35 = .ok (.aload_n 0, 1) := by decide +kernel
theorem dX6_show_36 : decode cX6_show 36 = .ok (.getfield 24, 3) := by decide +kernel
theorem dX6_show_39 : decode cX6_show 39 = .ok (.iload_n 1, 1) := by decide +kernel
theorem dX6_show_40 : decode cX6_show 40 = .ok (.aaload, 1) := by decide +kernel
theorem dX6_show_41 : decode cX6_show 41 = .ok (.invokevirtual 105, 3) := by decide +kernel
theorem dX6_show_44 : decode cX6_show 44 = .ok (.goto 13, 3) := by decide +kernel
theorem dX6_show_47 : decode cX6_show 47 = .ok (.aload_n 0, 1) := by decide +kernel
theorem dX6_show_48 : decode cX6_show 48 = .ok (.getfield 24, 3) := by decide +kernel
theorem dX6_show_51 : decode cX6_show 51 = .ok (.iload_n 1, 1) := by decide +kernel
theorem dX6_show_52 : decode cX6_show 52 = .ok (.aaload, 1) := by decide +kernel
theorem dX6_show_53 : decode cX6_show 53 = .ok (.iload_n 2, 1) := by decide +kernel
theorem dX6_show_54 : decode cX6_show 54 = .ok (.invokevirtual 108, 3) := by decide +kernel
theorem dX6_show_57 : decode cX6_show 57 = .ok (.iconst 1, 1) := by decide +kernel
theorem dX6_show_58 : decode cX6_show 58 = .ok (.ireturn, 1) := by decide +kernel
theorem dX6_isKind_0 : decode cX6_isKind 0 = .ok (.iload_n 0, 1) := by decide +kernel
theorem dX6_isKind_1 : decode cX6_isKind 1 = .ok (.ifCond .lt 15, 3) := by decide +kernel
theorem dX6_isKind_4 : decode cX6_isKind 4 = .ok (.iload_n 0, 1) := by decide +kernel
theorem dX6_isKind_5 : decode cX6_isKind 5 = .ok (.getstatic 279, 3) := by decide +kernel
theorem dX6_isKind_8 : decode cX6_isKind 8 = .ok (.arraylength, 1) := by decide +kernel
theorem dX6_isKind_9 : decode cX6_isKind 9 = .ok (.if_icmp .ge 7, 3) := by decide +kernel
theorem dX6_isKind_12 : decode cX6_isKind 12 = .ok (.iconst 1, 1) := by decide +kernel
theorem dX6_isKind_13 : decode cX6_isKind 13 = .ok (.goto 4, 3) := by decide +kernel
theorem dX6_isKind_16 : decode cX6_isKind 16 = .ok (.iconst 0, 1) := by decide +kernel
theorem dX6_isKind_17 : decode cX6_isKind 17 = .ok (.ireturn, 1) := by decide +kernel
theorem dX6_isUnder_0 : decode cX6_isUnder 0 = .ok (.iload_n 0, 1) := by decide +kernel
theorem dX6_isUnder_1 : decode cX6_isUnder 1 = .ok (.istore_n 2, 1) := by decide +kernel
theorem dX6_isUnder_2 : decode cX6_isUnder 2 = .ok (.iconst 0, 1) := by decide +kernel
theorem dX6_isUnder_3 : decode cX6_isUnder 3 = .ok (.istore_n 3, 1) := by decide +kernel
theorem dX6_isUnder_4 : decode cX6_isUnder 4 = .ok (.iload_n 3, 1) := by decide +kernel
theorem dX6_isUnder_5 : decode cX6_isUnder 5 = .ok (.getstatic 282, 3) := by decide +kernel
theorem dX6_isUnder_8 : decode cX6_isUnder 8 = .ok (.arraylength, 1) := by decide +kernel
theorem dX6_isUnder_9 : decode cX6_isUnder 9 = .ok (.if_icmp .ge 29, 3) := by decide +kernel
theorem dX6_isUnder_12 : decode cX6_isUnder 12 = .ok (.iload_n 2, 1) := by decide +kernel
theorem dX6_isUnder_13 : decode cX6_isUnder 13 = .ok (.invokestatic 112, 3) := by decide +kernel
theorem dX6_isUnder_16 : decode cX6_isUnder 16 = .ok (.ifCond .eq 22, 3) := by decide +kernel
theorem dX6_isUnder_19 : decode cX6_isUnder 19 = .ok (.iload_n 2, 1) := by decide +kernel
theorem dX6_isUnder_20 : decode cX6_isUnder 20 = .ok (.iload_n 1, 1) := by decide +kernel
theorem dX6_isUnder_21 : decode cX6_isUnder 21 = .ok (.if_icmp .ne 5, 3) := by decide +kernel
theorem dX6_isUnder_24 : decode cX6_isUnder 24 = .ok (.iconst 1, 1) := by decide +kernel
theorem dX6_isUnder_25 : decode cX6_isUnder 25 = .ok (.ireturn, 1) := by decide +kernel
theorem dX6_isUnder_26 : decode cX6_isUnder 26 = .ok (.getstatic 282, 3) := by decide +kernel
theorem dX6_isUnder_29 : decode cX6_isUnder 29 = .ok (.iload_n 2, 1) := by decide +kernel
theorem dX6_isUnder_30 : decode cX6_isUnder 30 = .ok (.iaload, 1) := by decide +kernel
theorem dX6_isUnder_31 : decode cX6_isUnder 31 = .ok (.istore_n 2, 1) := by decide +kernel
theorem dX6_isUnder_32 : decode cX6_isUnder 32 = .ok (.iinc 3 1, 3) := by decide +kernel
theorem dX6_isUnder_35 : decode cX6_isUnder 35 = .ok (.goto (-31), 3) := by decide +kernel
theorem dX6_isUnder_38 : decode cX6_isUnder 38 = .ok (.iconst 0, 1) := by decide +kernel
theorem dX6_isUnder_39 : decode cX6_isUnder 39 = .ok (.ireturn, 1) := by decide +kernel
theorem dX6_saying_0 : decode cX6_saying 0 = .ok (.iload_n 2, 1) := by decide +kernel
theorem dX6_saying_1 : decode cX6_saying 1 = .ok (.tableswitch 107 1 5 #[35, 45, 57, 82, 45], 35) := by decide +kernel
theorem dX6_saying_36 : decode cX6_saying 36 = .ok (.aload_n 0, 1) := by decide +kernel
theorem dX6_saying_37 : decode cX6_saying 37 = .ok (.getfield 10, 3) := by decide +kernel
theorem dX6_saying_40 : decode cX6_saying 40 = .ok (.getfield 177, 3) := by decide +kernel
theorem dX6_saying_43 : decode cX6_saying 43 = .ok (.iload_n 1, 1) := by decide +kernel
theorem dX6_saying_44 : decode cX6_saying 44 = .ok (.iaload, 1) := by decide +kernel
theorem dX6_saying_45 : decode cX6_saying 45 = .ok (.ireturn, 1) := by decide +kernel
theorem dX6_saying_46 : decode cX6_saying 46 = .ok (.aload_n 0, 1) := by decide +kernel
theorem dX6_saying_47 : decode cX6_saying 47 = .ok (.getfield 10, 3) := by decide +kernel
theorem dX6_saying_50 : decode cX6_saying 50 = .ok (.invokevirtual 189, 3) := by decide +kernel
theorem dX6_saying_53 : decode cX6_saying 53 = .ok (.iload_n 1, 1) := by decide +kernel
theorem dX6_saying_54 : decode cX6_saying 54 = .ok (.ishr, 1) := by decide +kernel
theorem dX6_saying_55 : decode cX6_saying 55 = .ok (.iconst 1, 1) := by decide +kernel
theorem dX6_saying_56 : decode cX6_saying 56 = .ok (.iand, 1) := by decide +kernel
theorem dX6_saying_57 : decode cX6_saying 57 = .ok (.ireturn, 1) := by decide +kernel
theorem dX6_saying_58 : decode cX6_saying 58 = .ok (.aload_n 0, 1) := by decide +kernel
theorem dX6_saying_59 : decode cX6_saying 59 = .ok (.getfield 10, 3) := by decide +kernel
theorem dX6_saying_62 : decode cX6_saying 62 = .ok (.aload_n 0, 1) := by decide +kernel
theorem dX6_saying_63 : decode cX6_saying 63 = .ok (.getfield 10, 3) := by decide +kernel
theorem dX6_saying_66 : decode cX6_saying 66 = .ok (.getfield 177, 3) := by decide +kernel
theorem dX6_saying_69 : decode cX6_saying 69 = .ok (.iload_n 1, 1) := by decide +kernel
theorem dX6_saying_70 : decode cX6_saying 70 = .ok (.iaload, 1) := by decide +kernel
theorem dX6_saying_71 : decode cX6_saying 71 = .ok (.invokevirtual 286, 3) := by decide +kernel
theorem dX6_saying_74 : decode cX6_saying 74 = .ok (.ifCond .eq 7, 3) := by decide +kernel
theorem dX6_saying_77 : decode cX6_saying 77 = .ok (.iconst 1, 1) := by decide +kernel
theorem dX6_saying_78 : decode cX6_saying 78 = .ok (.goto 4, 3) := by decide +kernel
theorem dX6_saying_81 : decode cX6_saying 81 = .ok (.iconst 0, 1) := by decide +kernel
theorem dX6_saying_82 : decode cX6_saying 82 = .ok (.ireturn, 1) := by decide +kernel
theorem dX6_saying_83 : decode cX6_saying 83 = .ok (.aload_n 0, 1) := by decide +kernel
theorem dX6_saying_84 : decode cX6_saying 84 = .ok (.getfield 10, 3) := by decide +kernel
theorem dX6_saying_87 : decode cX6_saying 87 = .ok (.aload_n 0, 1) := by decide +kernel
theorem dX6_saying_88 : decode cX6_saying 88 = .ok (.getfield 10, 3) := by decide +kernel
theorem dX6_saying_91 : decode cX6_saying 91 = .ok (.getfield 180, 3) := by decide +kernel
theorem dX6_saying_94 : decode cX6_saying 94 = .ok (.iload_n 1, 1) := by decide +kernel
theorem dX6_saying_95 : decode cX6_saying 95 = .ok (.iaload, 1) := by decide +kernel
theorem dX6_saying_96 : decode cX6_saying 96 = .ok (.invokevirtual 286, 3) := by decide +kernel
theorem dX6_saying_99 : decode cX6_saying 99 = .ok (.ifCond .eq 7, 3) := by decide +kernel
theorem dX6_saying_102 : decode cX6_saying 102 = .ok (.iconst 1, 1) := by decide +kernel
theorem dX6_saying_103 : decode cX6_saying 103 = .ok (.goto 4, 3) := by decide +kernel
theorem dX6_saying_106 : decode cX6_saying 106 = .ok (.iconst 0, 1) := by decide +kernel
theorem dX6_saying_107 : decode cX6_saying 107 = .ok (.ireturn, 1) := by decide +kernel
theorem dX6_saying_108 : decode cX6_saying 108 = .ok (.aload_n 0, 1) := by decide +kernel
theorem dX6_saying_109 : decode cX6_saying 109 = .ok (.getfield 10, 3) := by decide +kernel
theorem dX6_saying_112 : decode cX6_saying 112 = .ok (.iload_n 1, 1) := by decide +kernel
theorem dX6_saying_113 : decode cX6_saying 113 = .ok (.invokevirtual 183, 3) := by decide +kernel
theorem dX6_saying_116 : decode cX6_saying 116 = .ok (.ireturn, 1) := by decide +kernel
def f_X5_readStatement (n : Nat) (h : xH) (a0 : Nat) (o1 : Nat) : Option (Int32 × xH) :=
  (x_ob h a0 5).bind fun u1 =>
  (f_X5_isWord n h a0 3).bind fun q2 =>
  if q2 = 0 then
    (x_ob h a0 5).bind fun u3 =>
    (f_X5_isWord n h a0 4).bind fun q4 =>
    if q4 = 0 then
      (x_ob h a0 5).bind fun u5 =>
      (f_X5_isWord n h a0 5).bind fun q6 =>
      if q6 = 0 then
        (x_ob h a0 5).bind fun u7 =>
        (f_X5_isWord n h a0 6).bind fun q8 =>
        if q8 = 0 then
          (x_ob h a0 5).bind fun u9 =>
          (f_X5_isWord n h a0 7).bind fun q10 =>
          if q10 = 0 then
            some ((0 : Int32), h)
          else
            (x_ob h a0 5).bind fun u11 =>
            (f_X5_readMoves n h a0 o1).bind fun q12 =>
            if q12.1 = 0 then
              some ((0 : Int32), q12.2)
            else
              some ((1 : Int32), q12.2)
        else
          (x_ob h a0 5).bind fun u15 =>
          (f_X5_readWind n h a0 o1).bind fun q16 =>
          (x_bool q16.1).bind fun x17 =>
          some (x17, q16.2)
      else
        (x_ob h a0 5).bind fun u19 =>
        (f_X5_readLaw n h a0 o1).bind fun q20 =>
        (x_bool q20.1).bind fun x21 =>
        some (x21, q20.2)
    else
      (x_gI h o1 0 6).bind fun x23 =>
      if (4 : Int32) ≤ x23 then
        some ((0 : Int32), h)
      else
        (x_ob h a0 5).bind fun u24 =>
        (f_X5_readOne n h a0 o1).bind fun q25 =>
        if q25.1 = 0 then
          some ((0 : Int32), q25.2)
        else
          some ((1 : Int32), q25.2)
  else
    (x_gI h o1 0 4).bind fun x29 =>
    if (14 : Int32) ≤ x29 then
      some ((0 : Int32), h)
    else
      (x_ob h a0 5).bind fun u30 =>
      (f_X5_readDoor n h a0 o1).bind fun q31 =>
      if q31.1 = 0 then
        some ((0 : Int32), q31.2)
      else
        some ((1 : Int32), q31.2)
set_option maxRecDepth 100000 in
set_option maxHeartbeats 4000000 in
theorem c_X5_readStatement {n : Nat} {h : xH} {a0 : Nat} {o1 : Nat} {r9 : Int32} {hz : xH} (hE : f_X5_readStatement n h a0 o1 = some (r9, hz)) : Ctr M_X5_readStatement [.ref a0, .ref o1] h (some (.int r9)) hz 0 0 := by
  refine ctr_of (by decide) (fun _ _ => Nat.le_of_ble_eq_true rfl) (fun S => ?_)
  show Y S M_X5_readStatement h (some (.int r9)) hz 0 0 0 [(0, .ref a0), (1, .ref o1)] [] h 0 0
  unfold f_X5_readStatement at hE
  refine y_aload_n dX5_readStatement_0 0 rfl ?_
  refine y_ldcS 0 (by decide) rfl dX5_readStatement_1 ?_
  obtain ⟨u1, eu1, hE⟩ := Option.bind_eq_some_iff.mp hE
  obtain ⟨q2, eq2, hE⟩ := Option.bind_eq_some_iff.mp hE
  refine y_cVi0 (st := []) (as := [.ref 3]) (c_X5_isWord eq2) lk_X5_51 in_X5_isWord se_X5_isWord rfl eu1 ⟨Nat.le_of_ble_eq_true rfl, Nat.le_of_ble_eq_true rfl⟩ (Nat.le_of_ble_eq_true rfl) dX5_readStatement_3 ⟨Nat.le_refl _, Nat.le_refl _⟩ rfl ?_
  refine y_if_eq (tgt := 32) dX5_readStatement_6 (by decide) (fun hc34 => ?_) (fun hc34 => ?_)
  · rw [if_pos hc34] at hE
    refine y_aload_n dX5_readStatement_32 0 rfl ?_
    refine y_ldcS 1 (by decide) rfl dX5_readStatement_33 ?_
    obtain ⟨u3, eu3, hE⟩ := Option.bind_eq_some_iff.mp hE
    obtain ⟨q4, eq4, hE⟩ := Option.bind_eq_some_iff.mp hE
    refine y_cVi0 (st := []) (as := [.ref 4]) (c_X5_isWord eq4) lk_X5_51 in_X5_isWord se_X5_isWord rfl eu3 ⟨Nat.le_of_ble_eq_true rfl, Nat.le_of_ble_eq_true rfl⟩ (Nat.le_of_ble_eq_true rfl) dX5_readStatement_35 ⟨Nat.le_refl _, Nat.le_refl _⟩ rfl ?_
    refine y_if_eq (tgt := 63) dX5_readStatement_38 (by decide) (fun hc28 => ?_) (fun hc28 => ?_)
    · rw [if_pos hc28] at hE
      refine y_aload_n dX5_readStatement_63 0 rfl ?_
      refine y_ldcS 2 (by decide) rfl dX5_readStatement_64 ?_
      obtain ⟨u5, eu5, hE⟩ := Option.bind_eq_some_iff.mp hE
      obtain ⟨q6, eq6, hE⟩ := Option.bind_eq_some_iff.mp hE
      refine y_cVi0 (st := []) (as := [.ref 5]) (c_X5_isWord eq6) lk_X5_51 in_X5_isWord se_X5_isWord rfl eu5 ⟨Nat.le_of_ble_eq_true rfl, Nat.le_of_ble_eq_true rfl⟩ (Nat.le_of_ble_eq_true rfl) dX5_readStatement_66 ⟨Nat.le_refl _, Nat.le_refl _⟩ rfl ?_
      refine y_if_eq (tgt := 78) dX5_readStatement_69 (by decide) (fun hc22 => ?_) (fun hc22 => ?_)
      · rw [if_pos hc22] at hE
        refine y_aload_n dX5_readStatement_78 0 rfl ?_
        refine y_ldcS 3 (by decide) rfl dX5_readStatement_79 ?_
        obtain ⟨u7, eu7, hE⟩ := Option.bind_eq_some_iff.mp hE
        obtain ⟨q8, eq8, hE⟩ := Option.bind_eq_some_iff.mp hE
        refine y_cVi0 (st := []) (as := [.ref 6]) (c_X5_isWord eq8) lk_X5_51 in_X5_isWord se_X5_isWord rfl eu7 ⟨Nat.le_of_ble_eq_true rfl, Nat.le_of_ble_eq_true rfl⟩ (Nat.le_of_ble_eq_true rfl) dX5_readStatement_81 ⟨Nat.le_refl _, Nat.le_refl _⟩ rfl ?_
        refine y_if_eq (tgt := 93) dX5_readStatement_84 (by decide) (fun hc18 => ?_) (fun hc18 => ?_)
        · rw [if_pos hc18] at hE
          refine y_aload_n dX5_readStatement_93 0 rfl ?_
          refine y_ldcS 4 (by decide) rfl dX5_readStatement_94 ?_
          obtain ⟨u9, eu9, hE⟩ := Option.bind_eq_some_iff.mp hE
          obtain ⟨q10, eq10, hE⟩ := Option.bind_eq_some_iff.mp hE
          refine y_cVi0 (st := []) (as := [.ref 7]) (c_X5_isWord eq10) lk_X5_51 in_X5_isWord se_X5_isWord rfl eu9 ⟨Nat.le_of_ble_eq_true rfl, Nat.le_of_ble_eq_true rfl⟩ (Nat.le_of_ble_eq_true rfl) dX5_readStatement_96 ⟨Nat.le_refl _, Nat.le_refl _⟩ rfl ?_
          refine y_if_eq (tgt := 114) dX5_readStatement_99 (by decide) (fun hc14 => ?_) (fun hc14 => ?_)
          · rw [if_pos hc14] at hE
            refine y_iconst (v := (0 : Int32)) dX5_readStatement_114 (by decide) ?_
            obtain ⟨rfl, rfl⟩ := x_inj2 hE
            exact y_ret dX5_readStatement_115 (Nat.le_refl _) (Nat.le_refl _) ⟨_, rfl, rfl⟩
          · rw [if_neg hc14] at hE
            refine y_aload_n dX5_readStatement_102 0 rfl ?_
            refine y_aload_n dX5_readStatement_103 1 rfl ?_
            obtain ⟨u11, eu11, hE⟩ := Option.bind_eq_some_iff.mp hE
            obtain ⟨q12, eq12, hE⟩ := Option.bind_eq_some_iff.mp hE
            refine y_cVi0 (st := []) (as := [.ref o1]) (c_X5_readMoves eq12) lk_X5_83 in_X5_readMoves se_X5_readMoves rfl eu11 ⟨Nat.le_of_ble_eq_true rfl, Nat.le_of_ble_eq_true rfl⟩ (Nat.le_of_ble_eq_true rfl) dX5_readStatement_104 ⟨Nat.le_refl _, Nat.le_refl _⟩ rfl ?_
            refine y_if_eq (tgt := 114) dX5_readStatement_107 (by decide) (fun hc13 => ?_) (fun hc13 => ?_)
            · rw [if_pos hc13] at hE
              refine y_iconst (v := (0 : Int32)) dX5_readStatement_114 (by decide) ?_
              obtain ⟨rfl, rfl⟩ := x_inj2 hE
              exact y_ret dX5_readStatement_115 (Nat.le_refl _) (Nat.le_refl _) ⟨_, rfl, rfl⟩
            · rw [if_neg hc13] at hE
              refine y_iconst (v := (1 : Int32)) dX5_readStatement_110 (by decide) ?_
              refine y_goto (tgt := 115) dX5_readStatement_111 (by decide) ?_
              obtain ⟨rfl, rfl⟩ := x_inj2 hE
              exact y_ret dX5_readStatement_115 (Nat.le_refl _) (Nat.le_refl _) ⟨_, rfl, rfl⟩
        · rw [if_neg hc18] at hE
          refine y_aload_n dX5_readStatement_87 0 rfl ?_
          refine y_aload_n dX5_readStatement_88 1 rfl ?_
          obtain ⟨u15, eu15, hE⟩ := Option.bind_eq_some_iff.mp hE
          obtain ⟨q16, eq16, hE⟩ := Option.bind_eq_some_iff.mp hE
          refine y_cVi0 (st := []) (as := [.ref o1]) (c_X5_readWind eq16) lk_X5_78 in_X5_readWind se_X5_readWind rfl eu15 ⟨Nat.le_of_ble_eq_true rfl, Nat.le_of_ble_eq_true rfl⟩ (Nat.le_of_ble_eq_true rfl) dX5_readStatement_89 ⟨Nat.le_refl _, Nat.le_refl _⟩ rfl ?_
          obtain ⟨x17, ex17, hE⟩ := Option.bind_eq_some_iff.mp hE
          obtain ⟨e9, hnb⟩ := x_bool.spec ex17
          rw [e9]
          obtain ⟨rfl, rfl⟩ := x_inj2 hE
          exact y_ret dX5_readStatement_92 (Nat.le_refl _) (Nat.le_refl _) ⟨_, rfl, hnb⟩
      · rw [if_neg hc22] at hE
        refine y_aload_n dX5_readStatement_72 0 rfl ?_
        refine y_aload_n dX5_readStatement_73 1 rfl ?_
        obtain ⟨u19, eu19, hE⟩ := Option.bind_eq_some_iff.mp hE
        obtain ⟨q20, eq20, hE⟩ := Option.bind_eq_some_iff.mp hE
        refine y_cVi0 (st := []) (as := [.ref o1]) (c_X5_readLaw eq20) lk_X5_73 in_X5_readLaw se_X5_readLaw rfl eu19 ⟨Nat.le_of_ble_eq_true rfl, Nat.le_of_ble_eq_true rfl⟩ (Nat.le_of_ble_eq_true rfl) dX5_readStatement_74 ⟨Nat.le_refl _, Nat.le_refl _⟩ rfl ?_
        obtain ⟨x21, ex21, hE⟩ := Option.bind_eq_some_iff.mp hE
        obtain ⟨e9, hnb⟩ := x_bool.spec ex21
        rw [e9]
        obtain ⟨rfl, rfl⟩ := x_inj2 hE
        exact y_ret dX5_readStatement_77 (Nat.le_refl _) (Nat.le_refl _) ⟨_, rfl, hnb⟩
    · rw [if_neg hc28] at hE
      refine y_aload_n dX5_readStatement_41 1 rfl ?_
      obtain ⟨x23, ex23, hE⟩ := Option.bind_eq_some_iff.mp hE
      refine y_getI fl_X5_65 ex23 dX5_readStatement_42 ?_
      refine y_iconst (v := (4 : Int32)) dX5_readStatement_45 (by decide) ?_
      refine y_icmp_ge (tgt := 61) dX5_readStatement_46 (by decide) (fun hc27 => ?_) (fun hc27 => ?_)
      · rw [if_pos hc27] at hE
        refine y_iconst (v := (0 : Int32)) dX5_readStatement_61 (by decide) ?_
        obtain ⟨rfl, rfl⟩ := x_inj2 hE
        exact y_ret dX5_readStatement_62 (Nat.le_refl _) (Nat.le_refl _) ⟨_, rfl, rfl⟩
      · rw [if_neg hc27] at hE
        refine y_aload_n dX5_readStatement_49 0 rfl ?_
        refine y_aload_n dX5_readStatement_50 1 rfl ?_
        obtain ⟨u24, eu24, hE⟩ := Option.bind_eq_some_iff.mp hE
        obtain ⟨q25, eq25, hE⟩ := Option.bind_eq_some_iff.mp hE
        refine y_cVi0 (st := []) (as := [.ref o1]) (c_X5_readOne eq25) lk_X5_68 in_X5_readOne se_X5_readOne rfl eu24 ⟨Nat.le_of_ble_eq_true rfl, Nat.le_of_ble_eq_true rfl⟩ (Nat.le_of_ble_eq_true rfl) dX5_readStatement_51 ⟨Nat.le_refl _, Nat.le_refl _⟩ rfl ?_
        refine y_if_eq (tgt := 61) dX5_readStatement_54 (by decide) (fun hc26 => ?_) (fun hc26 => ?_)
        · rw [if_pos hc26] at hE
          refine y_iconst (v := (0 : Int32)) dX5_readStatement_61 (by decide) ?_
          obtain ⟨rfl, rfl⟩ := x_inj2 hE
          exact y_ret dX5_readStatement_62 (Nat.le_refl _) (Nat.le_refl _) ⟨_, rfl, rfl⟩
        · rw [if_neg hc26] at hE
          refine y_iconst (v := (1 : Int32)) dX5_readStatement_57 (by decide) ?_
          refine y_goto (tgt := 62) dX5_readStatement_58 (by decide) ?_
          obtain ⟨rfl, rfl⟩ := x_inj2 hE
          exact y_ret dX5_readStatement_62 (Nat.le_refl _) (Nat.le_refl _) ⟨_, rfl, rfl⟩
  · rw [if_neg hc34] at hE
    refine y_aload_n dX5_readStatement_9 1 rfl ?_
    obtain ⟨x29, ex29, hE⟩ := Option.bind_eq_some_iff.mp hE
    refine y_getI fl_X5_55 ex29 dX5_readStatement_10 ?_
    refine y_bipush (v := (14 : Int32)) dX5_readStatement_13 (by decide) ?_
    refine y_icmp_ge (tgt := 30) dX5_readStatement_15 (by decide) (fun hc33 => ?_) (fun hc33 => ?_)
    · rw [if_pos hc33] at hE
      refine y_iconst (v := (0 : Int32)) dX5_readStatement_30 (by decide) ?_
      obtain ⟨rfl, rfl⟩ := x_inj2 hE
      exact y_ret dX5_readStatement_31 (Nat.le_refl _) (Nat.le_refl _) ⟨_, rfl, rfl⟩
    · rw [if_neg hc33] at hE
      refine y_aload_n dX5_readStatement_18 0 rfl ?_
      refine y_aload_n dX5_readStatement_19 1 rfl ?_
      obtain ⟨u30, eu30, hE⟩ := Option.bind_eq_some_iff.mp hE
      obtain ⟨q31, eq31, hE⟩ := Option.bind_eq_some_iff.mp hE
      refine y_cVi0 (st := []) (as := [.ref o1]) (c_X5_readDoor eq31) lk_X5_60 in_X5_readDoor se_X5_readDoor rfl eu30 ⟨Nat.le_of_ble_eq_true rfl, Nat.le_of_ble_eq_true rfl⟩ (Nat.le_of_ble_eq_true rfl) dX5_readStatement_20 ⟨Nat.le_refl _, Nat.le_refl _⟩ rfl ?_
      refine y_if_eq (tgt := 30) dX5_readStatement_23 (by decide) (fun hc32 => ?_) (fun hc32 => ?_)
      · rw [if_pos hc32] at hE
        refine y_iconst (v := (0 : Int32)) dX5_readStatement_30 (by decide) ?_
        obtain ⟨rfl, rfl⟩ := x_inj2 hE
        exact y_ret dX5_readStatement_31 (Nat.le_refl _) (Nat.le_refl _) ⟨_, rfl, rfl⟩
      · rw [if_neg hc32] at hE
        refine y_iconst (v := (1 : Int32)) dX5_readStatement_26 (by decide) ?_
        refine y_goto (tgt := 31) dX5_readStatement_27 (by decide) ?_
        obtain ⟨rfl, rfl⟩ := x_inj2 hE
        exact y_ret dX5_readStatement_31 (Nat.le_refl _) (Nat.le_refl _) ⟨_, rfl, rfl⟩
def f_X5_readInto_L11 (n : Nat) (v0 : Nat) (v1 : Nat) : Nat → Int32 → xH → Option (Sum (Int32 × xH) (xH))
  | 0, _, _ => none
  | k + 1, v2, h =>
    if (250 : Int32) < v2 then
      some (.inr h)
    else
      (x_ob h v0 5).bind fun u4 =>
      (f_X5_readStatement n h v0 v1).bind fun q5 =>
      if q5.1 = 0 then
        (x_gI q5.2 v0 5 3).bind fun x6 =>
        some (.inl (((-20 : Int32) - x6), q5.2))
      else
        (x_gI q5.2 v0 5 2).bind fun x7 =>
        if x7 = 0 then
          some (.inl (v2, q5.2))
        else
          (x_gI q5.2 v0 5 2).bind fun x8 =>
          if x8 = (3 : Int32) then
            (x_ob q5.2 v0 5).bind fun u9 =>
            (f_X5_nextToken n q5.2 v0).bind fun q10 =>
            (some (v2 + (1 : Int32))).bind fun x11 =>
            f_X5_readInto_L11 n v0 v1 k x11 q10
          else
            (x_gI q5.2 v0 5 3).bind fun x12 =>
            some (.inl (((-20 : Int32) - x12), q5.2))
set_option maxRecDepth 100000 in
set_option maxHeartbeats 4000000 in
theorem l_X5_readInto_11 {S : Nat × (Nat → Int32)} {rv : Option Value} {h0 h1 : xH} {mc ms : Nat} {cells slots : Nat} (hm : cells ≤ mc ∧ slots ≤ ms) (n : Nat) (v0 : Nat) (v1 : Nat) : ∀ (k : Nat) (v2 : Int32) (h : xH) (res : Sum (Int32 × xH) (xH)), f_X5_readInto_L11 n v0 v1 k v2 h = some res → (∀ r9, res = .inl r9 → rv = some (.int r9.1) ∧ h1 = r9.2) → (∀ r9, res = .inr r9 → Y S M_X5_readInto h0 rv h1 mc ms 69 [(0, .ref v0)] [] r9 cells slots) → Y S M_X5_readInto h0 rv h1 mc ms 11 [(0, .ref v0), (1, .ref v1), (2, .int v2)] [] h cells slots := by
  intro k
  induction k with
  | zero =>
    intro _ _ _ hE
    cases hE
  | succ k ih =>
    intro v2 h res hE KR K
    unfold f_X5_readInto_L11 at hE
    refine y_iload_n dX5_readInto_11 2 rfl ?_
    refine y_sipush (v := (250 : Int32)) dX5_readInto_12 (by decide) ?_
    refine y_icmp_gt (tgt := 69) dX5_readInto_15 (by decide) (fun hc16 => ?_) (fun hc16 => ?_)
    · rw [if_pos hc16] at hE
      obtain rfl := Option.some.inj hE
      exact y_pick [0] rfl (K _ rfl)
    · rw [if_neg hc16] at hE
      refine y_aload_n dX5_readInto_18 0 rfl ?_
      refine y_aload_n dX5_readInto_19 1 rfl ?_
      obtain ⟨u4, eu4, hE⟩ := Option.bind_eq_some_iff.mp hE
      obtain ⟨q5, eq5, hE⟩ := Option.bind_eq_some_iff.mp hE
      refine y_cVi0 (st := []) (as := [.ref v1]) (c_X5_readStatement eq5) lk_X5_25 in_X5_readStatement se_X5_readStatement rfl eu4 ⟨Nat.le_of_ble_eq_true rfl, Nat.le_of_ble_eq_true rfl⟩ (Nat.le_of_ble_eq_true rfl) dX5_readInto_20 hm rfl ?_
      refine y_if_ne (tgt := 34) dX5_readInto_23 (by decide) (fun hc15 => ?_) (fun hc15 => ?_)
      · rw [if_pos hc15] at hE
        refine y_bipush (v := (-20 : Int32)) dX5_readInto_26 (by decide) ?_
        refine y_aload_n dX5_readInto_28 0 rfl ?_
        obtain ⟨x6, ex6, hE⟩ := Option.bind_eq_some_iff.mp hE
        refine y_getI fl_X5_29 ex6 dX5_readInto_29 ?_
        refine y_isub dX5_readInto_32 ?_
        obtain rfl := Option.some.inj hE
        obtain ⟨rfl, rfl⟩ := KR _ rfl
        dsimp only
        exact y_ret dX5_readInto_33 hm.1 hm.2 ⟨_, rfl, rfl⟩
      · rw [if_neg hc15] at hE
        refine y_aload_n dX5_readInto_34 0 rfl ?_
        obtain ⟨x7, ex7, hE⟩ := Option.bind_eq_some_iff.mp hE
        refine y_getI fl_X5_32 ex7 dX5_readInto_35 ?_
        refine y_if_ne (tgt := 43) dX5_readInto_38 (by decide) (fun hc14 => ?_) (fun hc14 => ?_)
        · rw [if_pos hc14] at hE
          refine y_iload_n dX5_readInto_41 2 rfl ?_
          obtain rfl := Option.some.inj hE
          obtain ⟨rfl, rfl⟩ := KR _ rfl
          dsimp only
          exact y_ret dX5_readInto_42 hm.1 hm.2 ⟨_, rfl, rfl⟩
        · rw [if_neg hc14] at hE
          refine y_aload_n dX5_readInto_43 0 rfl ?_
          obtain ⟨x8, ex8, hE⟩ := Option.bind_eq_some_iff.mp hE
          refine y_getI fl_X5_32 ex8 dX5_readInto_44 ?_
          refine y_iconst (v := (3 : Int32)) dX5_readInto_47 (by decide) ?_
          refine y_icmp_eq (tgt := 59) dX5_readInto_48 (by decide) (fun hc13 => ?_) (fun hc13 => ?_)
          · rw [if_pos hc13] at hE
            refine y_aload_n dX5_readInto_59 0 rfl ?_
            obtain ⟨u9, eu9, hE⟩ := Option.bind_eq_some_iff.mp hE
            obtain ⟨q10, eq10, hE⟩ := Option.bind_eq_some_iff.mp hE
            refine y_cVv0 (st := []) (as := []) (c_X5_nextToken eq10) lk_X5_22 in_X5_nextToken se_X5_nextToken rfl eu9 ⟨Nat.le_of_ble_eq_true rfl, Nat.le_of_ble_eq_true rfl⟩ (Nat.le_of_ble_eq_true rfl) dX5_readInto_60 hm rfl ?_
            obtain ⟨x11, ex11, hE⟩ := Option.bind_eq_some_iff.mp hE
            refine y_iinc (ls' := [(2, .int x11), (0, .ref v0), (1, .ref v1)]) dX5_readInto_63 2 rfl (Option.some.inj ex11) (by decide) rfl ?_
            refine y_goto (tgt := 11) dX5_readInto_66 (by decide) ?_
            refine y_pick [1, 2, 0] rfl ?_
            exact ih _ _ _ hE KR K
          · rw [if_neg hc13] at hE
            refine y_bipush (v := (-20 : Int32)) dX5_readInto_51 (by decide) ?_
            refine y_aload_n dX5_readInto_53 0 rfl ?_
            obtain ⟨x12, ex12, hE⟩ := Option.bind_eq_some_iff.mp hE
            refine y_getI fl_X5_29 ex12 dX5_readInto_54 ?_
            refine y_isub dX5_readInto_57 ?_
            obtain rfl := Option.some.inj hE
            obtain ⟨rfl, rfl⟩ := KR _ rfl
            dsimp only
            exact y_ret dX5_readInto_58 hm.1 hm.2 ⟨_, rfl, rfl⟩
def f_X5_readInto (n : Nat) (h : xH) (a0 : Nat) (o1 : Nat) : Option (Int32 × xH) :=
  (x_put h a0 5 4 (.int (0 : Int32))).bind fun h1 =>
  (x_ob h1 a0 5).bind fun u2 =>
  (f_X5_nextToken n h1 a0).bind fun q3 =>
  (f_X5_readInto_L11 n a0 o1 n (1 : Int32) q3).bind fun q17 =>
  match q17 with
  | .inl r18 => some r18
  | .inr e19 =>
    (x_gI e19 a0 5 3).bind fun x20 =>
    some (((-20 : Int32) - x20), e19)
set_option maxRecDepth 100000 in
set_option maxHeartbeats 4000000 in
theorem c_X5_readInto {n : Nat} {h : xH} {a0 : Nat} {o1 : Nat} {r9 : Int32} {hz : xH} (hE : f_X5_readInto n h a0 o1 = some (r9, hz)) : Ctr M_X5_readInto [.ref a0, .ref o1] h (some (.int r9)) hz 0 0 := by
  refine ctr_of (by decide) (fun _ _ => Nat.le_of_ble_eq_true rfl) (fun S => ?_)
  show Y S M_X5_readInto h (some (.int r9)) hz 0 0 0 [(0, .ref a0), (1, .ref o1)] [] h 0 0
  unfold f_X5_readInto at hE
  refine y_aload_n dX5_readInto_0 0 rfl ?_
  refine y_iconst (v := (0 : Int32)) dX5_readInto_1 (by decide) ?_
  obtain ⟨h1, eh1, hE⟩ := Option.bind_eq_some_iff.mp hE
  refine y_putI fp_X5_19 eh1 dX5_readInto_2 ?_
  refine y_aload_n dX5_readInto_5 0 rfl ?_
  obtain ⟨u2, eu2, hE⟩ := Option.bind_eq_some_iff.mp hE
  obtain ⟨q3, eq3, hE⟩ := Option.bind_eq_some_iff.mp hE
  refine y_cVv0 (st := []) (as := []) (c_X5_nextToken eq3) lk_X5_22 in_X5_nextToken se_X5_nextToken rfl eu2 ⟨Nat.le_of_ble_eq_true rfl, Nat.le_of_ble_eq_true rfl⟩ (Nat.le_of_ble_eq_true rfl) dX5_readInto_6 ⟨Nat.le_refl _, Nat.le_refl _⟩ rfl ?_
  refine y_iconst (v := (1 : Int32)) dX5_readInto_9 (by decide) ?_
  refine y_istore_n (ls' := [(2, .int (1 : Int32)), (0, .ref a0), (1, .ref o1)]) dX5_readInto_10 (by decide) rfl rfl ?_
  obtain ⟨q17, eq17, hE⟩ := Option.bind_eq_some_iff.mp hE
  refine y_pick [1, 2, 0] rfl ?_
  cases q17 with
  | inl r18 =>
    dsimp only at hE
    cases hE
    exact l_X5_readInto_11 (S := S) ⟨Nat.le_refl _, Nat.le_refl _⟩ n a0 o1 n (1 : Int32) q3 _ eq17 (fun r8 hr8 => by cases hr8; exact ⟨rfl, rfl⟩) (fun r8 hr8 => by cases hr8)
  | inr e19 =>
    dsimp only at hE
    refine l_X5_readInto_11 (S := S) ⟨Nat.le_refl _, Nat.le_refl _⟩ n a0 o1 n (1 : Int32) q3 _ eq17 (fun r8 hr8 => by cases hr8) (fun r8 hr8 => ?_)
    cases hr8
    refine y_bipush (v := (-20 : Int32)) dX5_readInto_69 (by decide) ?_
    refine y_aload_n dX5_readInto_71 0 rfl ?_
    obtain ⟨x20, ex20, hE⟩ := Option.bind_eq_some_iff.mp hE
    refine y_getI fl_X5_29 ex20 dX5_readInto_72 ?_
    refine y_isub dX5_readInto_75 ?_
    obtain ⟨rfl, rfl⟩ := x_inj2 hE
    exact y_ret dX5_readInto_76 (Nat.le_refl _) (Nat.le_refl _) ⟨_, rfl, rfl⟩
def f_X6_init_L88 (v0 : Nat) : Nat → Int32 → xH → Option ((xH) × Nat × Nat)
  | 0, _, _ => none
  | k + 1, v1, h =>
    if (8 : Int32) ≤ v1 then
      some (h, 0, 0)
    else
      (x_gR h v0 6 4).bind fun a43 =>
      x_add 1 3 <|
      (f_X4_init (h ++ [.inr (4, [.int 0, .int 0, .null])]) (h.length + 16)).bind fun q46 =>
      x_add q46.2.1 q46.2.2 <|
      (x_stQ q46.1 a43 v1 (h.length + 16)).bind fun h49 =>
      (some (v1 + (1 : Int32))).bind fun x50 =>
      f_X6_init_L88 v0 k x50 h49
set_option maxRecDepth 100000 in
set_option maxHeartbeats 4000000 in
theorem l_X6_init_88 {S : Nat × (Nat → Int32)} {rv : Option Value} {h0 h1 : xH} {mc ms : Nat} {tc ts : Nat} (v0 : Nat) : ∀ (k : Nat) (v1 : Int32) (h : xH) (res : xH) (c9 s9 cells slots : Nat), f_X6_init_L88 v0 k v1 h = some (res, c9, s9) → cells + c9 = tc → slots + s9 = ts → (tc ≤ mc ∧ ts ≤ ms) → (∀ r9, res = r9 → Y S M_X6_init h0 rv h1 mc ms 113 [] [] r9 tc ts) → Y S M_X6_init h0 rv h1 mc ms 88 [(0, .ref v0), (1, .int v1)] [] h cells slots := by
  intro k
  induction k with
  | zero =>
    intro _ _ _ _ _ _ _ hE
    cases hE
  | succ k ih =>
    intro v1 h res c9 s9 cells slots hE hc9 hs9 hm K
    unfold f_X6_init_L88 at hE
    refine y_iload_n dX6_init_88 1 rfl ?_
    refine y_bipush (v := (8 : Int32)) dX6_init_89 (by decide) ?_
    refine y_icmp_ge (tgt := 113) dX6_init_91 (by decide) (fun hc51 => ?_) (fun hc51 => ?_)
    · rw [if_pos hc51] at hE
      obtain ⟨rfl, rfl, rfl⟩ := x_inj3 hE
      refine y_cnt (c2 := tc) (s2 := ts) (by omega) (by omega) ?_
      exact y_pick [] rfl (K _ rfl)
    · rw [if_neg hc51] at hE
      refine y_aload_n dX6_init_94 0 rfl ?_
      obtain ⟨a43, ea43, hE⟩ := Option.bind_eq_some_iff.mp hE
      refine y_getR fl_X6_24 ea43 dX6_init_95 ?_
      refine y_iload_n dX6_init_98 1 rfl ?_
      obtain ⟨c44, s45, hN, ecc44, ess45⟩ := x_add.spec hE
      clear hE; have hE := hN; clear hN
      refine y_new (fs := [.int 0, .int 0, .null]) cl_X4 (x_wt (tb 93 (by decide +kernel)) rfl) (x_wt (tb 236 (by decide +kernel)) rfl) (x_wt (tb 7 (by decide +kernel)) rfl) (by decide) rfl ⟨by omega, by omega⟩ dX6_init_99 ?_
      refine y_dup dX6_init_102 rfl ?_
      obtain ⟨q46, eq46, hE⟩ := Option.bind_eq_some_iff.mp hE
      obtain ⟨c47, s48, hN, ecc47, ess48⟩ := x_add.spec hE
      clear hE; have hE := hN; clear hN
      refine y_cIv1 (st := [.ref (h.length + 16), .int v1, .ref a43]) (as := []) (c_X4_init (eq46.trans (show some q46 = some (q46.1, q46.2.1, q46.2.2) from rfl))) lk_X6_53 in_X4_init rfl rfl (by omega) ⟨Nat.le_of_ble_eq_true rfl, Nat.le_of_ble_eq_true rfl⟩ (Nat.le_of_ble_eq_true rfl) dX6_init_103 ⟨by omega, by omega⟩ rfl ?_
      obtain ⟨h49, eh49, hE⟩ := Option.bind_eq_some_iff.mp hE
      refine y_aast eh49 dX6_init_106 ?_
      obtain ⟨x50, ex50, hE⟩ := Option.bind_eq_some_iff.mp hE
      refine y_iinc (ls' := [(1, .int x50), (0, .ref v0)]) dX6_init_107 1 rfl (Option.some.inj ex50) (by decide) rfl ?_
      refine y_goto (tgt := 88) dX6_init_110 (by decide) ?_
      refine y_pick [1, 0] rfl ?_
      exact ih _ _ _ _ _ _ _ hE (by omega) (by omega) hm K
def f_X6_init (n : Nat) (h : xH) (a0 : Nat) : Option ((xH) × Nat × Nat) :=
  x_add 1 11 <|
  (f_X0_init (h ++ [.inr (0, [.null, .null, .null, .null, .int 0, .int 0, .int 0, .int 0, .int 0, .int 0, .int 0])]) (h.length + 16)).bind fun q3 =>
  x_add q3.2.1 q3.2.2 <|
  (x_put q3.1 a0 6 0 (.ref (h.length + 16))).bind fun h6 =>
  x_add 1 11 <|
  (f_X0_init (h6 ++ [.inr (0, [.null, .null, .null, .null, .int 0, .int 0, .int 0, .int 0, .int 0, .int 0, .int 0])]) (h6.length + 16)).bind fun q9 =>
  x_add q9.2.1 q9.2.2 <|
  (x_put q9.1 a0 6 1 (.ref (h6.length + 16))).bind fun h12 =>
  x_add 1 11 <|
  (f_X0_init (h12 ++ [.inr (0, [.null, .null, .null, .null, .int 0, .int 0, .int 0, .int 0, .int 0, .int 0, .int 0])]) (h12.length + 16)).bind fun q15 =>
  x_add q15.2.1 q15.2.2 <|
  (x_put q15.1 a0 6 2 (.ref (h12.length + 16))).bind fun h18 =>
  x_add 1 8 <|
  (x_put (h18 ++ [.inl (.object "WhoOpensOne$Shelf", 8, .inr (.inr (.inr (.inr (fun _ => none)))))]) a0 6 4 (.ref (h18.length + 16))).bind fun h21 =>
  x_add 1 5 <|
  (f_X5_init (h21 ++ [.inr (5, [.null, .int 0, .int 0, .int 0, .int 0])]) (h21.length + 16)).bind fun q24 =>
  x_add q24.2.1 q24.2.2 <|
  (x_put q24.1 a0 6 5 (.ref (h21.length + 16))).bind fun h27 =>
  x_add 1 11 <|
  (f_X3_init (h27 ++ [.inr (3, [.null, .int 0, .null, .null, .null, .int 0, .int 0, .int 0, .int 0, .int 0, .int 0])]) (h27.length + 16)).bind fun q30 =>
  x_add q30.2.1 q30.2.2 <|
  (x_put q30.1 a0 6 6 (.ref (h27.length + 16))).bind fun h33 =>
  x_add 1 7 <|
  (f_X1_init (h33 ++ [.inr (1, [.null, .int 0, .int 0, .int 0, .int 0, .int 0, .int 0])]) (h33.length + 16)).bind fun q36 =>
  x_add q36.2.1 q36.2.2 <|
  (x_put q36.1 a0 6 7 (.ref (h33.length + 16))).bind fun h39 =>
  x_add 1 5 <|
  (x_put (h39 ++ [.inl (.int, 5, .inl (fun _ => 0))]) a0 6 8 (.ref (h39.length + 16))).bind fun h42 =>
  (f_X6_init_L88 a0 n (0 : Int32) h42).bind fun q52 =>
  x_add q52.2.1 q52.2.2 <|
  some (q52.1, 0, 0)
set_option maxRecDepth 100000 in
set_option maxHeartbeats 4000000 in
theorem c_X6_init {n : Nat} {h : xH} {a0 : Nat} {hz : xH} {c9 s9 : Nat} (hE : f_X6_init n h a0 = some (hz, c9, s9)) : Ctr M_X6_init [.ref a0] h none hz c9 s9 := by
  refine ctr_of (by decide) (fun _ _ => Nat.le_of_ble_eq_true rfl) (fun S => ?_)
  show Y S M_X6_init h none hz c9 s9 0 [(0, .ref a0)] [] h 0 0
  unfold f_X6_init at hE
  refine y_aload_n dX6_init_0 0 rfl ?_
  refine y_objInit (x_wt (tb 21 (by decide +kernel)) rfl) (x_wt (tb 22 (by decide +kernel)) rfl) (x_wt (tb 23 (by decide +kernel)) rfl) (by decide) (Nat.le_of_ble_eq_true rfl) dX6_init_1 ?_
  refine y_aload_n dX6_init_4 0 rfl ?_
  obtain ⟨c1, s2, hN, ecc1, ess2⟩ := x_add.spec hE
  clear hE; have hE := hN; clear hN
  refine y_new (fs := [.null, .null, .null, .null, .int 0, .int 0, .int 0, .int 0, .int 0, .int 0, .int 0]) cl_X0 (x_wt (tb 24 (by decide +kernel)) rfl) (x_wt (tb 25 (by decide +kernel)) rfl) (x_wt (tb 2 (by decide +kernel)) rfl) (by decide) rfl ⟨by omega, by omega⟩ dX6_init_5 ?_
  refine y_dup dX6_init_8 rfl ?_
  obtain ⟨q3, eq3, hE⟩ := Option.bind_eq_some_iff.mp hE
  obtain ⟨c4, s5, hN, ecc4, ess5⟩ := x_add.spec hE
  clear hE; have hE := hN; clear hN
  refine y_cIv1 (st := [.ref (h.length + 16), .ref a0]) (as := []) (c_X0_init (eq3.trans (show some q3 = some (q3.1, q3.2.1, q3.2.2) from rfl))) lk_X6_9 in_X0_init rfl rfl (by omega) ⟨Nat.le_of_ble_eq_true rfl, Nat.le_of_ble_eq_true rfl⟩ (Nat.le_of_ble_eq_true rfl) dX6_init_9 ⟨by omega, by omega⟩ rfl ?_
  obtain ⟨h6, eh6, hE⟩ := Option.bind_eq_some_iff.mp hE
  refine y_putR fp_X6_10 (fun q => by first | rfl | cases q) (fun _ => rfl) (fun _ => rfl) eh6 dX6_init_12 ?_
  refine y_aload_n dX6_init_15 0 rfl ?_
  obtain ⟨c7, s8, hN, ecc7, ess8⟩ := x_add.spec hE
  clear hE; have hE := hN; clear hN
  refine y_new (fs := [.null, .null, .null, .null, .int 0, .int 0, .int 0, .int 0, .int 0, .int 0, .int 0]) cl_X0 (x_wt (tb 24 (by decide +kernel)) rfl) (x_wt (tb 25 (by decide +kernel)) rfl) (x_wt (tb 2 (by decide +kernel)) rfl) (by decide) rfl ⟨by omega, by omega⟩ dX6_init_16 ?_
  refine y_dup dX6_init_19 rfl ?_
  obtain ⟨q9, eq9, hE⟩ := Option.bind_eq_some_iff.mp hE
  obtain ⟨c10, s11, hN, ecc10, ess11⟩ := x_add.spec hE
  clear hE; have hE := hN; clear hN
  refine y_cIv1 (st := [.ref (h6.length + 16), .ref a0]) (as := []) (c_X0_init (eq9.trans (show some q9 = some (q9.1, q9.2.1, q9.2.2) from rfl))) lk_X6_9 in_X0_init rfl rfl (by omega) ⟨Nat.le_of_ble_eq_true rfl, Nat.le_of_ble_eq_true rfl⟩ (Nat.le_of_ble_eq_true rfl) dX6_init_20 ⟨by omega, by omega⟩ rfl ?_
  obtain ⟨h12, eh12, hE⟩ := Option.bind_eq_some_iff.mp hE
  refine y_putR fp_X6_16 (fun q => by first | rfl | cases q) (fun _ => rfl) (fun _ => rfl) eh12 dX6_init_23 ?_
  refine y_aload_n dX6_init_26 0 rfl ?_
  obtain ⟨c13, s14, hN, ecc13, ess14⟩ := x_add.spec hE
  clear hE; have hE := hN; clear hN
  refine y_new (fs := [.null, .null, .null, .null, .int 0, .int 0, .int 0, .int 0, .int 0, .int 0, .int 0]) cl_X0 (x_wt (tb 24 (by decide +kernel)) rfl) (x_wt (tb 25 (by decide +kernel)) rfl) (x_wt (tb 2 (by decide +kernel)) rfl) (by decide) rfl ⟨by omega, by omega⟩ dX6_init_27 ?_
  refine y_dup dX6_init_30 rfl ?_
  obtain ⟨q15, eq15, hE⟩ := Option.bind_eq_some_iff.mp hE
  obtain ⟨c16, s17, hN, ecc16, ess17⟩ := x_add.spec hE
  clear hE; have hE := hN; clear hN
  refine y_cIv1 (st := [.ref (h12.length + 16), .ref a0]) (as := []) (c_X0_init (eq15.trans (show some q15 = some (q15.1, q15.2.1, q15.2.2) from rfl))) lk_X6_9 in_X0_init rfl rfl (by omega) ⟨Nat.le_of_ble_eq_true rfl, Nat.le_of_ble_eq_true rfl⟩ (Nat.le_of_ble_eq_true rfl) dX6_init_31 ⟨by omega, by omega⟩ rfl ?_
  obtain ⟨h18, eh18, hE⟩ := Option.bind_eq_some_iff.mp hE
  refine y_putR fp_X6_19 (fun q => by first | rfl | cases q) (fun _ => rfl) (fun _ => rfl) eh18 dX6_init_34 ?_
  refine y_aload_n dX6_init_37 0 rfl ?_
  refine y_bipush (v := (8 : Int32)) dX6_init_38 (by decide) ?_
  obtain ⟨c19, s20, hN, ecc19, ess20⟩ := x_add.spec hE
  clear hE; have hE := hN; clear hN
  refine y_newQ (N := 8) (x_wt (tb 93 (by decide +kernel)) rfl) (by decide) (by decide) (by decide) ⟨by omega, by omega⟩ dX6_init_40 ?_
  obtain ⟨h21, eh21, hE⟩ := Option.bind_eq_some_iff.mp hE
  refine y_putR fp_X6_24 (fun q => by first | rfl | cases q) (fun _ => rfl) (fun _ => rfl) eh21 dX6_init_43 ?_
  refine y_aload_n dX6_init_46 0 rfl ?_
  obtain ⟨c22, s23, hN, ecc22, ess23⟩ := x_add.spec hE
  clear hE; have hE := hN; clear hN
  refine y_new (fs := [.null, .int 0, .int 0, .int 0, .int 0]) cl_X5 (x_wt (tb 95 (by decide +kernel)) rfl) (x_wt (tb 96 (by decide +kernel)) rfl) (x_wt (tb 3 (by decide +kernel)) rfl) (by decide) rfl ⟨by omega, by omega⟩ dX6_init_47 ?_
  refine y_dup dX6_init_50 rfl ?_
  obtain ⟨q24, eq24, hE⟩ := Option.bind_eq_some_iff.mp hE
  obtain ⟨c25, s26, hN, ecc25, ess26⟩ := x_add.spec hE
  clear hE; have hE := hN; clear hN
  refine y_cIv1 (st := [.ref (h21.length + 16), .ref a0]) (as := []) (c_X5_init (eq24.trans (show some q24 = some (q24.1, q24.2.1, q24.2.2) from rfl))) lk_X6_30 in_X5_init rfl rfl (by omega) ⟨Nat.le_of_ble_eq_true rfl, Nat.le_of_ble_eq_true rfl⟩ (Nat.le_of_ble_eq_true rfl) dX6_init_51 ⟨by omega, by omega⟩ rfl ?_
  obtain ⟨h27, eh27, hE⟩ := Option.bind_eq_some_iff.mp hE
  refine y_putR fp_X6_31 (fun q => by first | rfl | cases q) (fun _ => rfl) (fun _ => rfl) eh27 dX6_init_54 ?_
  refine y_aload_n dX6_init_57 0 rfl ?_
  obtain ⟨c28, s29, hN, ecc28, ess29⟩ := x_add.spec hE
  clear hE; have hE := hN; clear hN
  refine y_new (fs := [.null, .int 0, .null, .null, .null, .int 0, .int 0, .int 0, .int 0, .int 0, .int 0]) cl_X3 (x_wt (tb 118 (by decide +kernel)) rfl) (x_wt (tb 119 (by decide +kernel)) rfl) (x_wt (tb 4 (by decide +kernel)) rfl) (by decide) rfl ⟨by omega, by omega⟩ dX6_init_58 ?_
  refine y_dup dX6_init_61 rfl ?_
  obtain ⟨q30, eq30, hE⟩ := Option.bind_eq_some_iff.mp hE
  obtain ⟨c31, s32, hN, ecc31, ess32⟩ := x_add.spec hE
  clear hE; have hE := hN; clear hN
  refine y_cIv1 (st := [.ref (h27.length + 16), .ref a0]) (as := []) (c_X3_init (eq30.trans (show some q30 = some (q30.1, q30.2.1, q30.2.2) from rfl))) lk_X6_37 in_X3_init rfl rfl (by omega) ⟨Nat.le_of_ble_eq_true rfl, Nat.le_of_ble_eq_true rfl⟩ (Nat.le_of_ble_eq_true rfl) dX6_init_62 ⟨by omega, by omega⟩ rfl ?_
  obtain ⟨h33, eh33, hE⟩ := Option.bind_eq_some_iff.mp hE
  refine y_putR fp_X6_38 (fun q => by first | rfl | cases q) (fun _ => rfl) (fun _ => rfl) eh33 dX6_init_65 ?_
  refine y_aload_n dX6_init_68 0 rfl ?_
  obtain ⟨c34, s35, hN, ecc34, ess35⟩ := x_add.spec hE
  clear hE; have hE := hN; clear hN
  refine y_new (fs := [.null, .int 0, .int 0, .int 0, .int 0, .int 0, .int 0]) cl_X1 (x_wt (tb 208 (by decide +kernel)) rfl) (x_wt (tb 209 (by decide +kernel)) rfl) (x_wt (tb 6 (by decide +kernel)) rfl) (by decide) rfl ⟨by omega, by omega⟩ dX6_init_69 ?_
  refine y_dup dX6_init_72 rfl ?_
  obtain ⟨q36, eq36, hE⟩ := Option.bind_eq_some_iff.mp hE
  obtain ⟨c37, s38, hN, ecc37, ess38⟩ := x_add.spec hE
  clear hE; have hE := hN; clear hN
  refine y_cIv1 (st := [.ref (h33.length + 16), .ref a0]) (as := []) (c_X1_init (eq36.trans (show some q36 = some (q36.1, q36.2.1, q36.2.2) from rfl))) lk_X6_44 in_X1_init rfl rfl (by omega) ⟨Nat.le_of_ble_eq_true rfl, Nat.le_of_ble_eq_true rfl⟩ (Nat.le_of_ble_eq_true rfl) dX6_init_73 ⟨by omega, by omega⟩ rfl ?_
  obtain ⟨h39, eh39, hE⟩ := Option.bind_eq_some_iff.mp hE
  refine y_putR fp_X6_45 (fun q => by first | rfl | cases q) (fun _ => rfl) (fun _ => rfl) eh39 dX6_init_76 ?_
  refine y_aload_n dX6_init_79 0 rfl ?_
  refine y_iconst (v := (5 : Int32)) dX6_init_80 (by decide) ?_
  obtain ⟨c40, s41, hN, ecc40, ess41⟩ := x_add.spec hE
  clear hE; have hE := hN; clear hN
  refine y_newI (N := 5) (x_wt (tb 92 (by decide +kernel)) rfl) (by decide) (by decide) (by decide) ⟨by omega, by omega⟩ dX6_init_81 ?_
  obtain ⟨h42, eh42, hE⟩ := Option.bind_eq_some_iff.mp hE
  refine y_putR fp_X6_49 (fun q => by first | rfl | cases q) (fun _ => rfl) (fun _ => rfl) eh42 dX6_init_83 ?_
  refine y_iconst (v := (0 : Int32)) dX6_init_86 (by decide) ?_
  refine y_istore_n (ls' := [(1, .int (0 : Int32)), (0, .ref a0)]) dX6_init_87 (by decide) rfl rfl ?_
  obtain ⟨q52, eq52, hE⟩ := Option.bind_eq_some_iff.mp hE
  obtain ⟨c53, s54, hN, ecc53, ess54⟩ := x_add.spec hE
  clear hE; have hE := hN; clear hN
  refine y_pick [1, 0] rfl ?_
  refine l_X6_init_88 (S := S) a0 n (0 : Int32) h42 _ _ _ _ _ (eq52.trans (show some q52 = some (q52.1, q52.2.1, q52.2.2) from rfl)) rfl rfl ⟨by omega, by omega⟩ (fun r8 hr8 => ?_)
  subst hr8
  obtain ⟨rfl, rfl, rfl⟩ := x_inj3 hE
  exact y_ret dX6_init_113 (by omega) (by omega) rfl
def f_X6_isShelf (h : xH) (p0 : Int32) : Option (Int32) :=
  if p0 < 0 then
    some (0 : Int32)
  else
    if (8 : Int32) ≤ p0 then
      some (0 : Int32)
    else
      some (1 : Int32)
set_option maxRecDepth 100000 in
set_option maxHeartbeats 4000000 in
theorem c_X6_isShelf {h : xH} {p0 : Int32} {r9 : Int32} (hE : f_X6_isShelf h p0 = some r9) : Ctr M_X6_isShelf [.int p0] h (some (.int r9)) h 0 0 := by
  refine ctr_of (by decide) (fun _ _ => Nat.le_of_ble_eq_true rfl) (fun S => ?_)
  show Y S M_X6_isShelf h (some (.int r9)) h 0 0 0 [(0, .int p0)] [] h 0 0
  unfold f_X6_isShelf at hE
  refine y_iload_n dX6_isShelf_0 0 rfl ?_
  refine y_if_lt (tgt := 14) dX6_isShelf_1 (by decide) (fun hc2 => ?_) (fun hc2 => ?_)
  · rw [if_pos hc2] at hE
    refine y_iconst (v := (0 : Int32)) dX6_isShelf_14 (by decide) ?_
    obtain rfl := Option.some.inj hE
    exact y_ret dX6_isShelf_15 (Nat.le_refl _) (Nat.le_refl _) ⟨_, rfl, rfl⟩
  · rw [if_neg hc2] at hE
    refine y_iload_n dX6_isShelf_4 0 rfl ?_
    refine y_bipush (v := (8 : Int32)) dX6_isShelf_5 (by decide) ?_
    refine y_icmp_ge (tgt := 14) dX6_isShelf_7 (by decide) (fun hc1 => ?_) (fun hc1 => ?_)
    · rw [if_pos hc1] at hE
      refine y_iconst (v := (0 : Int32)) dX6_isShelf_14 (by decide) ?_
      obtain rfl := Option.some.inj hE
      exact y_ret dX6_isShelf_15 (Nat.le_refl _) (Nat.le_refl _) ⟨_, rfl, rfl⟩
    · rw [if_neg hc1] at hE
      refine y_iconst (v := (1 : Int32)) dX6_isShelf_10 (by decide) ?_
      refine y_goto (tgt := 15) dX6_isShelf_11 (by decide) ?_
      obtain rfl := Option.some.inj hE
      exact y_ret dX6_isShelf_15 (Nat.le_refl _) (Nat.le_refl _) ⟨_, rfl, rfl⟩
def f_X6_refuse (h : xH) (a0 : Nat) (p1 : Int32) : Option (Int32 × xH) :=
  (some ((-2 : Int32) - p1)).bind fun x1 =>
  if x1 < 0 then
    some (p1, h)
  else
    if (5 : Int32) ≤ x1 then
      some (p1, h)
    else
      (x_gR h a0 6 8).bind fun a2 =>
      (x_ld h a2 x1).bind fun x3 =>
      (x_st h a2 x1 (x3 + (1 : Int32))).bind fun h4 =>
      some (p1, h4)
set_option maxRecDepth 100000 in
set_option maxHeartbeats 4000000 in
theorem c_X6_refuse {h : xH} {a0 : Nat} {p1 : Int32} {r9 : Int32} {hz : xH} (hE : f_X6_refuse h a0 p1 = some (r9, hz)) : Ctr M_X6_refuse [.ref a0, .int p1] h (some (.int r9)) hz 0 0 := by
  refine ctr_of (by decide) (fun _ _ => Nat.le_of_ble_eq_true rfl) (fun S => ?_)
  show Y S M_X6_refuse h (some (.int r9)) hz 0 0 0 [(0, .ref a0), (1, .int p1)] [] h 0 0
  unfold f_X6_refuse at hE
  refine y_bipush (v := (-2 : Int32)) dX6_refuse_0 (by decide) ?_
  refine y_iload_n dX6_refuse_2 1 rfl ?_
  refine y_isub dX6_refuse_3 ?_
  obtain ⟨x1, ex1, hE⟩ := Option.bind_eq_some_iff.mp hE
  refine y_istore_n (ls' := [(2, .int x1), (0, .ref a0), (1, .int p1)]) dX6_refuse_4 (by decide) (Option.some.inj ex1) rfl ?_
  refine y_iload_n dX6_refuse_5 0 rfl ?_
  refine y_if_lt (tgt := 24) dX6_refuse_6 (by decide) (fun hc6 => ?_) (fun hc6 => ?_)
  · rw [if_pos hc6] at hE
    refine y_iload_n dX6_refuse_24 2 rfl ?_
    obtain ⟨rfl, rfl⟩ := x_inj2 hE
    exact y_ret dX6_refuse_25 (Nat.le_refl _) (Nat.le_refl _) ⟨_, rfl, rfl⟩
  · rw [if_neg hc6] at hE
    refine y_iload_n dX6_refuse_9 0 rfl ?_
    refine y_iconst (v := (5 : Int32)) dX6_refuse_10 (by decide) ?_
    refine y_icmp_ge (tgt := 24) dX6_refuse_11 (by decide) (fun hc5 => ?_) (fun hc5 => ?_)
    · rw [if_pos hc5] at hE
      refine y_iload_n dX6_refuse_24 2 rfl ?_
      obtain ⟨rfl, rfl⟩ := x_inj2 hE
      exact y_ret dX6_refuse_25 (Nat.le_refl _) (Nat.le_refl _) ⟨_, rfl, rfl⟩
    · rw [if_neg hc5] at hE
      refine y_aload_n dX6_refuse_14 1 rfl ?_
      obtain ⟨a2, ea2, hE⟩ := Option.bind_eq_some_iff.mp hE
      refine y_getR fl_X6_49 ea2 dX6_refuse_15 ?_
      refine y_iload_n dX6_refuse_18 0 rfl ?_
      refine y_dup2 dX6_refuse_19 rfl rfl ?_
      obtain ⟨x3, ex3, hE⟩ := Option.bind_eq_some_iff.mp hE
      refine y_iald ex3 dX6_refuse_20 ?_
      refine y_iconst (v := (1 : Int32)) dX6_refuse_21 (by decide) ?_
      refine y_iadd dX6_refuse_22 ?_
      obtain ⟨h4, eh4, hE⟩ := Option.bind_eq_some_iff.mp hE
      refine y_iast eh4 dX6_refuse_23 ?_
      refine y_iload_n dX6_refuse_24 2 rfl ?_
      obtain ⟨rfl, rfl⟩ := x_inj2 hE
      exact y_ret dX6_refuse_25 (Nat.le_refl _) (Nat.le_refl _) ⟨_, rfl, rfl⟩
def f_X6_row (n : Nat) (h : xH) (a0 : Nat) (p1 : Int32) (p2 : Int32) (p3 : Int32) : Option (Int32 × xH) :=
  (f_X6_isShelf h p1).bind fun q1 =>
  if q1 = 0 then
    (x_ob h a0 6).bind fun u2 =>
    (f_X6_refuse h a0 (-2 : Int32)).bind fun q3 =>
    some (q3.1, q3.2)
  else
    if p2 < 0 then
      (x_ob h a0 6).bind fun u4 =>
      (f_X6_refuse h a0 (-2 : Int32)).bind fun q5 =>
      some (q5.1, q5.2)
    else
      if (4 : Int32) < p2 then
        (x_ob h a0 6).bind fun u6 =>
        (f_X6_refuse h a0 (-2 : Int32)).bind fun q7 =>
        some (q7.1, q7.2)
      else
        if p3 < 0 then
          (x_ob h a0 6).bind fun u8 =>
          (f_X6_refuse h a0 (-2 : Int32)).bind fun q9 =>
          some (q9.1, q9.2)
        else
          if p3 ≤ (40 : Int32) then
            (x_gR h a0 6 4).bind fun a10 =>
            (x_ldQ h a10 p1).bind fun a11 =>
            (x_ob h a11 4).bind fun u12 =>
            (f_X4_takeRow n h a11 p2 p3).bind fun q13 =>
            some ((1 : Int32), q13)
          else
            (x_ob h a0 6).bind fun u14 =>
            (f_X6_refuse h a0 (-2 : Int32)).bind fun q15 =>
            some (q15.1, q15.2)
set_option maxRecDepth 100000 in
set_option maxHeartbeats 4000000 in
theorem c_X6_row {n : Nat} {h : xH} {a0 : Nat} {p1 : Int32} {p2 : Int32} {p3 : Int32} {r9 : Int32} {hz : xH} (hE : f_X6_row n h a0 p1 p2 p3 = some (r9, hz)) : Ctr M_X6_row [.ref a0, .int p1, .int p2, .int p3] h (some (.int r9)) hz 0 0 := by
  refine ctr_of (by decide) (fun _ _ => Nat.le_of_ble_eq_true rfl) (fun S => ?_)
  show Y S M_X6_row h (some (.int r9)) hz 0 0 0 [(0, .ref a0), (1, .int p1), (2, .int p2), (3, .int p3)] [] h 0 0
  unfold f_X6_row at hE
  refine y_iload_n dX6_row_0 1 rfl ?_
  obtain ⟨q1, eq1, hE⟩ := Option.bind_eq_some_iff.mp hE
  refine y_cSi0 (st := []) (as := [.int p1]) (c_X6_isShelf eq1) lk_X6_54 st_X6_isShelf ⟨Nat.le_of_ble_eq_true rfl, Nat.le_of_ble_eq_true rfl⟩ (Nat.le_of_ble_eq_true rfl) dX6_row_1 ⟨Nat.le_refl _, Nat.le_refl _⟩ rfl ?_
  refine y_if_eq (tgt := 26) dX6_row_4 (by decide) (fun hc20 => ?_) (fun hc20 => ?_)
  · rw [if_pos hc20] at hE
    refine y_aload_n dX6_row_26 0 rfl ?_
    refine y_bipush (v := (-2 : Int32)) dX6_row_27 (by decide) ?_
    obtain ⟨u2, eu2, hE⟩ := Option.bind_eq_some_iff.mp hE
    obtain ⟨q3, eq3, hE⟩ := Option.bind_eq_some_iff.mp hE
    refine y_cVi0 (st := []) (as := [.int (-2 : Int32)]) (c_X6_refuse eq3) lk_X6_58 in_X6_refuse se_X6_refuse rfl eu2 ⟨Nat.le_of_ble_eq_true rfl, Nat.le_of_ble_eq_true rfl⟩ (Nat.le_of_ble_eq_true rfl) dX6_row_29 ⟨Nat.le_refl _, Nat.le_refl _⟩ rfl ?_
    obtain ⟨rfl, rfl⟩ := x_inj2 hE
    exact y_ret dX6_row_32 (Nat.le_refl _) (Nat.le_refl _) ⟨_, rfl, rfl⟩
  · rw [if_neg hc20] at hE
    refine y_iload_n dX6_row_7 2 rfl ?_
    refine y_if_lt (tgt := 26) dX6_row_8 (by decide) (fun hc19 => ?_) (fun hc19 => ?_)
    · rw [if_pos hc19] at hE
      refine y_aload_n dX6_row_26 0 rfl ?_
      refine y_bipush (v := (-2 : Int32)) dX6_row_27 (by decide) ?_
      obtain ⟨u4, eu4, hE⟩ := Option.bind_eq_some_iff.mp hE
      obtain ⟨q5, eq5, hE⟩ := Option.bind_eq_some_iff.mp hE
      refine y_cVi0 (st := []) (as := [.int (-2 : Int32)]) (c_X6_refuse eq5) lk_X6_58 in_X6_refuse se_X6_refuse rfl eu4 ⟨Nat.le_of_ble_eq_true rfl, Nat.le_of_ble_eq_true rfl⟩ (Nat.le_of_ble_eq_true rfl) dX6_row_29 ⟨Nat.le_refl _, Nat.le_refl _⟩ rfl ?_
      obtain ⟨rfl, rfl⟩ := x_inj2 hE
      exact y_ret dX6_row_32 (Nat.le_refl _) (Nat.le_refl _) ⟨_, rfl, rfl⟩
    · rw [if_neg hc19] at hE
      refine y_iload_n dX6_row_11 2 rfl ?_
      refine y_iconst (v := (4 : Int32)) dX6_row_12 (by decide) ?_
      refine y_icmp_gt (tgt := 26) dX6_row_13 (by decide) (fun hc18 => ?_) (fun hc18 => ?_)
      · rw [if_pos hc18] at hE
        refine y_aload_n dX6_row_26 0 rfl ?_
        refine y_bipush (v := (-2 : Int32)) dX6_row_27 (by decide) ?_
        obtain ⟨u6, eu6, hE⟩ := Option.bind_eq_some_iff.mp hE
        obtain ⟨q7, eq7, hE⟩ := Option.bind_eq_some_iff.mp hE
        refine y_cVi0 (st := []) (as := [.int (-2 : Int32)]) (c_X6_refuse eq7) lk_X6_58 in_X6_refuse se_X6_refuse rfl eu6 ⟨Nat.le_of_ble_eq_true rfl, Nat.le_of_ble_eq_true rfl⟩ (Nat.le_of_ble_eq_true rfl) dX6_row_29 ⟨Nat.le_refl _, Nat.le_refl _⟩ rfl ?_
        obtain ⟨rfl, rfl⟩ := x_inj2 hE
        exact y_ret dX6_row_32 (Nat.le_refl _) (Nat.le_refl _) ⟨_, rfl, rfl⟩
      · rw [if_neg hc18] at hE
        refine y_iload_n dX6_row_16 3 rfl ?_
        refine y_if_lt (tgt := 26) dX6_row_17 (by decide) (fun hc17 => ?_) (fun hc17 => ?_)
        · rw [if_pos hc17] at hE
          refine y_aload_n dX6_row_26 0 rfl ?_
          refine y_bipush (v := (-2 : Int32)) dX6_row_27 (by decide) ?_
          obtain ⟨u8, eu8, hE⟩ := Option.bind_eq_some_iff.mp hE
          obtain ⟨q9, eq9, hE⟩ := Option.bind_eq_some_iff.mp hE
          refine y_cVi0 (st := []) (as := [.int (-2 : Int32)]) (c_X6_refuse eq9) lk_X6_58 in_X6_refuse se_X6_refuse rfl eu8 ⟨Nat.le_of_ble_eq_true rfl, Nat.le_of_ble_eq_true rfl⟩ (Nat.le_of_ble_eq_true rfl) dX6_row_29 ⟨Nat.le_refl _, Nat.le_refl _⟩ rfl ?_
          obtain ⟨rfl, rfl⟩ := x_inj2 hE
          exact y_ret dX6_row_32 (Nat.le_refl _) (Nat.le_refl _) ⟨_, rfl, rfl⟩
        · rw [if_neg hc17] at hE
          refine y_iload_n dX6_row_20 3 rfl ?_
          refine y_bipush (v := (40 : Int32)) dX6_row_21 (by decide) ?_
          refine y_icmp_le (tgt := 33) dX6_row_23 (by decide) (fun hc16 => ?_) (fun hc16 => ?_)
          · rw [if_pos hc16] at hE
            refine y_aload_n dX6_row_33 0 rfl ?_
            obtain ⟨a10, ea10, hE⟩ := Option.bind_eq_some_iff.mp hE
            refine y_getR fl_X6_24 ea10 dX6_row_34 ?_
            refine y_iload_n dX6_row_37 1 rfl ?_
            obtain ⟨a11, ea11, hE⟩ := Option.bind_eq_some_iff.mp hE
            refine y_aald ea11 dX6_row_38 ?_
            refine y_iload_n dX6_row_39 2 rfl ?_
            refine y_iload_n dX6_row_40 3 rfl ?_
            obtain ⟨u12, eu12, hE⟩ := Option.bind_eq_some_iff.mp hE
            obtain ⟨q13, eq13, hE⟩ := Option.bind_eq_some_iff.mp hE
            refine y_cVv0 (st := []) (as := [.int p2, .int p3]) (c_X4_takeRow eq13) lk_X6_62 in_X4_takeRow se_X4_takeRow rfl eu12 ⟨Nat.le_of_ble_eq_true rfl, Nat.le_of_ble_eq_true rfl⟩ (Nat.le_of_ble_eq_true rfl) dX6_row_41 ⟨Nat.le_refl _, Nat.le_refl _⟩ rfl ?_
            refine y_iconst (v := (1 : Int32)) dX6_row_44 (by decide) ?_
            obtain ⟨rfl, rfl⟩ := x_inj2 hE
            exact y_ret dX6_row_45 (Nat.le_refl _) (Nat.le_refl _) ⟨_, rfl, rfl⟩
          · rw [if_neg hc16] at hE
            refine y_aload_n dX6_row_26 0 rfl ?_
            refine y_bipush (v := (-2 : Int32)) dX6_row_27 (by decide) ?_
            obtain ⟨u14, eu14, hE⟩ := Option.bind_eq_some_iff.mp hE
            obtain ⟨q15, eq15, hE⟩ := Option.bind_eq_some_iff.mp hE
            refine y_cVi0 (st := []) (as := [.int (-2 : Int32)]) (c_X6_refuse eq15) lk_X6_58 in_X6_refuse se_X6_refuse rfl eu14 ⟨Nat.le_of_ble_eq_true rfl, Nat.le_of_ble_eq_true rfl⟩ (Nat.le_of_ble_eq_true rfl) dX6_row_29 ⟨Nat.le_refl _, Nat.le_refl _⟩ rfl ?_
            obtain ⟨rfl, rfl⟩ := x_inj2 hE
            exact y_ret dX6_row_32 (Nat.le_refl _) (Nat.le_refl _) ⟨_, rfl, rfl⟩
def f_X6_rowRefusal (h : xH) (o0 : Nat) (p1 : Int32) : Option (Int32) :=
  (x_ob h o0 4).bind fun u1 =>
  (f_X4_holdsDoor h o0).bind fun q2 =>
  if q2 = 0 then
    (x_ob h o0 4).bind fun u3 =>
    (f_X4_isEmpty h o0).bind fun q4 =>
    if q4 = 0 then
      (x_gI h o0 4 1).bind fun x5 =>
      if p1 ≤ x5 then
        some (0 : Int32)
      else
        some (-2 : Int32)
    else
      some (-4 : Int32)
  else
    some (-3 : Int32)
set_option maxRecDepth 100000 in
set_option maxHeartbeats 4000000 in
theorem c_X6_rowRefusal {h : xH} {o0 : Nat} {p1 : Int32} {r9 : Int32} (hE : f_X6_rowRefusal h o0 p1 = some r9) : Ctr M_X6_rowRefusal [.ref o0, .int p1] h (some (.int r9)) h 0 0 := by
  refine ctr_of (by decide) (fun _ _ => Nat.le_of_ble_eq_true rfl) (fun S => ?_)
  show Y S M_X6_rowRefusal h (some (.int r9)) h 0 0 0 [(0, .ref o0), (1, .int p1)] [] h 0 0
  unfold f_X6_rowRefusal at hE
  refine y_aload_n dX6_rowRefusal_0 0 rfl ?_
  obtain ⟨u1, eu1, hE⟩ := Option.bind_eq_some_iff.mp hE
  obtain ⟨q2, eq2, hE⟩ := Option.bind_eq_some_iff.mp hE
  refine y_cVi0 (st := []) (as := []) (c_X4_holdsDoor eq2) lk_X6_77 in_X4_holdsDoor se_X4_holdsDoor rfl eu1 ⟨Nat.le_of_ble_eq_true rfl, Nat.le_of_ble_eq_true rfl⟩ (Nat.le_of_ble_eq_true rfl) dX6_rowRefusal_1 ⟨Nat.le_refl _, Nat.le_refl _⟩ rfl ?_
  refine y_if_eq (tgt := 10) dX6_rowRefusal_4 (by decide) (fun hc8 => ?_) (fun hc8 => ?_)
  · rw [if_pos hc8] at hE
    refine y_aload_n dX6_rowRefusal_10 0 rfl ?_
    obtain ⟨u3, eu3, hE⟩ := Option.bind_eq_some_iff.mp hE
    obtain ⟨q4, eq4, hE⟩ := Option.bind_eq_some_iff.mp hE
    refine y_cVi0 (st := []) (as := []) (c_X4_isEmpty eq4) lk_X6_81 in_X4_isEmpty se_X4_isEmpty rfl eu3 ⟨Nat.le_of_ble_eq_true rfl, Nat.le_of_ble_eq_true rfl⟩ (Nat.le_of_ble_eq_true rfl) dX6_rowRefusal_11 ⟨Nat.le_refl _, Nat.le_refl _⟩ rfl ?_
    refine y_if_eq (tgt := 20) dX6_rowRefusal_14 (by decide) (fun hc7 => ?_) (fun hc7 => ?_)
    · rw [if_pos hc7] at hE
      refine y_iload_n dX6_rowRefusal_20 1 rfl ?_
      refine y_aload_n dX6_rowRefusal_21 0 rfl ?_
      obtain ⟨x5, ex5, hE⟩ := Option.bind_eq_some_iff.mp hE
      refine y_getI fl_X6_285 ex5 dX6_rowRefusal_22 ?_
      refine y_icmp_le (tgt := 33) dX6_rowRefusal_25 (by decide) (fun hc6 => ?_) (fun hc6 => ?_)
      · rw [if_pos hc6] at hE
        refine y_iconst (v := (0 : Int32)) dX6_rowRefusal_33 (by decide) ?_
        obtain rfl := Option.some.inj hE
        exact y_ret dX6_rowRefusal_34 (Nat.le_refl _) (Nat.le_refl _) ⟨_, rfl, rfl⟩
      · rw [if_neg hc6] at hE
        refine y_bipush (v := (-2 : Int32)) dX6_rowRefusal_28 (by decide) ?_
        refine y_goto (tgt := 34) dX6_rowRefusal_30 (by decide) ?_
        obtain rfl := Option.some.inj hE
        exact y_ret dX6_rowRefusal_34 (Nat.le_refl _) (Nat.le_refl _) ⟨_, rfl, rfl⟩
    · rw [if_neg hc7] at hE
      refine y_bipush (v := (-4 : Int32)) dX6_rowRefusal_17 (by decide) ?_
      obtain rfl := Option.some.inj hE
      exact y_ret dX6_rowRefusal_19 (Nat.le_refl _) (Nat.le_refl _) ⟨_, rfl, rfl⟩
  · rw [if_neg hc8] at hE
    refine y_bipush (v := (-3 : Int32)) dX6_rowRefusal_7 (by decide) ?_
    obtain rfl := Option.some.inj hE
    exact y_ret dX6_rowRefusal_9 (Nat.le_refl _) (Nat.le_refl _) ⟨_, rfl, rfl⟩
def f_X6_set (h : xH) (a0 : Nat) (p1 : Int32) (p2 : Int32) (p3 : Int64) : Option (Int32 × xH) :=
  (f_X6_isShelf h p1).bind fun q1 =>
  if q1 = 0 then
    (x_ob h a0 6).bind fun u2 =>
    (f_X6_refuse h a0 (-2 : Int32)).bind fun q3 =>
    some (q3.1, q3.2)
  else
    (x_gR h a0 6 4).bind fun a4 =>
    (x_ldQ h a4 p1).bind fun a5 =>
    (f_X6_rowRefusal h a5 (0 : Int32)).bind fun q6 =>
    if q6 = 0 then
      (x_gR h a0 6 4).bind fun a7 =>
      (x_ldQ h a7 p1).bind fun a8 =>
      (x_ob h a8 4).bind fun u9 =>
      (f_X4_hasElement h a8 p2).bind fun q10 =>
      if q10 = 0 then
        (x_ob h a0 6).bind fun u11 =>
        (f_X6_refuse h a0 (-2 : Int32)).bind fun q12 =>
        some (q12.1, q12.2)
      else
        (x_gR h a0 6 4).bind fun a13 =>
        (x_ldQ h a13 p1).bind fun a14 =>
        (x_ob h a14 4).bind fun u15 =>
        (f_X4_put h a14 p2 p3).bind fun q16 =>
        some ((1 : Int32), q16)
    else
      (x_ob h a0 6).bind fun u18 =>
      (f_X6_refuse h a0 q6).bind fun q19 =>
      some (q19.1, q19.2)
set_option maxRecDepth 100000 in
set_option maxHeartbeats 4000000 in
theorem c_X6_set {h : xH} {a0 : Nat} {p1 : Int32} {p2 : Int32} {p3 : Int64} {r9 : Int32} {hz : xH} (hE : f_X6_set h a0 p1 p2 p3 = some (r9, hz)) : Ctr M_X6_set [.ref a0, .int p1, .int p2, .long p3] h (some (.int r9)) hz 0 0 := by
  refine ctr_of (by decide) (fun _ _ => Nat.le_of_ble_eq_true rfl) (fun S => ?_)
  show Y S M_X6_set h (some (.int r9)) hz 0 0 0 [(0, .ref a0), (1, .int p1), (2, .int p2), (3, .long p3)] [] h 0 0
  unfold f_X6_set at hE
  refine y_iload_n dX6_set_0 1 rfl ?_
  obtain ⟨q1, eq1, hE⟩ := Option.bind_eq_some_iff.mp hE
  refine y_cSi0 (st := []) (as := [.int p1]) (c_X6_isShelf eq1) lk_X6_54 st_X6_isShelf ⟨Nat.le_of_ble_eq_true rfl, Nat.le_of_ble_eq_true rfl⟩ (Nat.le_of_ble_eq_true rfl) dX6_set_1 ⟨Nat.le_refl _, Nat.le_refl _⟩ rfl ?_
  refine y_if_ne (tgt := 14) dX6_set_4 (by decide) (fun hc21 => ?_) (fun hc21 => ?_)
  · rw [if_pos hc21] at hE
    refine y_aload_n dX6_set_7 0 rfl ?_
    refine y_bipush (v := (-2 : Int32)) dX6_set_8 (by decide) ?_
    obtain ⟨u2, eu2, hE⟩ := Option.bind_eq_some_iff.mp hE
    obtain ⟨q3, eq3, hE⟩ := Option.bind_eq_some_iff.mp hE
    refine y_cVi0 (st := []) (as := [.int (-2 : Int32)]) (c_X6_refuse eq3) lk_X6_58 in_X6_refuse se_X6_refuse rfl eu2 ⟨Nat.le_of_ble_eq_true rfl, Nat.le_of_ble_eq_true rfl⟩ (Nat.le_of_ble_eq_true rfl) dX6_set_10 ⟨Nat.le_refl _, Nat.le_refl _⟩ rfl ?_
    obtain ⟨rfl, rfl⟩ := x_inj2 hE
    exact y_ret dX6_set_13 (Nat.le_refl _) (Nat.le_refl _) ⟨_, rfl, rfl⟩
  · rw [if_neg hc21] at hE
    refine y_aload_n dX6_set_14 0 rfl ?_
    obtain ⟨a4, ea4, hE⟩ := Option.bind_eq_some_iff.mp hE
    refine y_getR fl_X6_24 ea4 dX6_set_15 ?_
    refine y_iload_n dX6_set_18 1 rfl ?_
    obtain ⟨a5, ea5, hE⟩ := Option.bind_eq_some_iff.mp hE
    refine y_aald ea5 dX6_set_19 ?_
    refine y_iconst (v := (0 : Int32)) dX6_set_20 (by decide) ?_
    obtain ⟨q6, eq6, hE⟩ := Option.bind_eq_some_iff.mp hE
    refine y_cSi0 (st := []) (as := [.ref a5, .int (0 : Int32)]) (c_X6_rowRefusal eq6) lk_X6_66 st_X6_rowRefusal ⟨Nat.le_of_ble_eq_true rfl, Nat.le_of_ble_eq_true rfl⟩ (Nat.le_of_ble_eq_true rfl) dX6_set_21 ⟨Nat.le_refl _, Nat.le_refl _⟩ rfl ?_
    refine y_istore (ls' := [(5, .int q6), (0, .ref a0), (1, .int p1), (2, .int p2), (3, .long p3)]) dX6_set_24 (by decide) rfl rfl ?_
    refine y_iload dX6_set_26 0 rfl ?_
    refine y_if_eq (tgt := 38) dX6_set_28 (by decide) (fun hc20 => ?_) (fun hc20 => ?_)
    · rw [if_pos hc20] at hE
      refine y_aload_n dX6_set_38 1 rfl ?_
      obtain ⟨a7, ea7, hE⟩ := Option.bind_eq_some_iff.mp hE
      refine y_getR fl_X6_24 ea7 dX6_set_39 ?_
      refine y_iload_n dX6_set_42 2 rfl ?_
      obtain ⟨a8, ea8, hE⟩ := Option.bind_eq_some_iff.mp hE
      refine y_aald ea8 dX6_set_43 ?_
      refine y_iload_n dX6_set_44 3 rfl ?_
      obtain ⟨u9, eu9, hE⟩ := Option.bind_eq_some_iff.mp hE
      obtain ⟨q10, eq10, hE⟩ := Option.bind_eq_some_iff.mp hE
      refine y_cVi0 (st := []) (as := [.int p2]) (c_X4_hasElement eq10) lk_X6_70 in_X4_hasElement se_X4_hasElement rfl eu9 ⟨Nat.le_of_ble_eq_true rfl, Nat.le_of_ble_eq_true rfl⟩ (Nat.le_of_ble_eq_true rfl) dX6_set_45 ⟨Nat.le_refl _, Nat.le_refl _⟩ rfl ?_
      refine y_if_ne (tgt := 58) dX6_set_48 (by decide) (fun hc17 => ?_) (fun hc17 => ?_)
      · rw [if_pos hc17] at hE
        refine y_aload_n dX6_set_51 1 rfl ?_
        refine y_bipush (v := (-2 : Int32)) dX6_set_52 (by decide) ?_
        obtain ⟨u11, eu11, hE⟩ := Option.bind_eq_some_iff.mp hE
        obtain ⟨q12, eq12, hE⟩ := Option.bind_eq_some_iff.mp hE
        refine y_cVi0 (st := []) (as := [.int (-2 : Int32)]) (c_X6_refuse eq12) lk_X6_58 in_X6_refuse se_X6_refuse rfl eu11 ⟨Nat.le_of_ble_eq_true rfl, Nat.le_of_ble_eq_true rfl⟩ (Nat.le_of_ble_eq_true rfl) dX6_set_54 ⟨Nat.le_refl _, Nat.le_refl _⟩ rfl ?_
        obtain ⟨rfl, rfl⟩ := x_inj2 hE
        exact y_ret dX6_set_57 (Nat.le_refl _) (Nat.le_refl _) ⟨_, rfl, rfl⟩
      · rw [if_neg hc17] at hE
        refine y_aload_n dX6_set_58 1 rfl ?_
        obtain ⟨a13, ea13, hE⟩ := Option.bind_eq_some_iff.mp hE
        refine y_getR fl_X6_24 ea13 dX6_set_59 ?_
        refine y_iload_n dX6_set_62 2 rfl ?_
        obtain ⟨a14, ea14, hE⟩ := Option.bind_eq_some_iff.mp hE
        refine y_aald ea14 dX6_set_63 ?_
        refine y_iload_n dX6_set_64 3 rfl ?_
        refine y_lload_n dX6_set_65 4 rfl ?_
        obtain ⟨u15, eu15, hE⟩ := Option.bind_eq_some_iff.mp hE
        obtain ⟨q16, eq16, hE⟩ := Option.bind_eq_some_iff.mp hE
        refine y_cVv0 (st := []) (as := [.int p2, .long p3]) (c_X4_put eq16) lk_X6_73 in_X4_put se_X4_put rfl eu15 ⟨Nat.le_of_ble_eq_true rfl, Nat.le_of_ble_eq_true rfl⟩ (Nat.le_of_ble_eq_true rfl) dX6_set_66 ⟨Nat.le_refl _, Nat.le_refl _⟩ rfl ?_
        refine y_iconst (v := (1 : Int32)) dX6_set_69 (by decide) ?_
        obtain ⟨rfl, rfl⟩ := x_inj2 hE
        exact y_ret dX6_set_70 (Nat.le_refl _) (Nat.le_refl _) ⟨_, rfl, rfl⟩
    · rw [if_neg hc20] at hE
      refine y_aload_n dX6_set_31 1 rfl ?_
      refine y_iload dX6_set_32 0 rfl ?_
      obtain ⟨u18, eu18, hE⟩ := Option.bind_eq_some_iff.mp hE
      obtain ⟨q19, eq19, hE⟩ := Option.bind_eq_some_iff.mp hE
      refine y_cVi0 (st := []) (as := [.int q6]) (c_X6_refuse eq19) lk_X6_58 in_X6_refuse se_X6_refuse rfl eu18 ⟨Nat.le_of_ble_eq_true rfl, Nat.le_of_ble_eq_true rfl⟩ (Nat.le_of_ble_eq_true rfl) dX6_set_34 ⟨Nat.le_refl _, Nat.le_refl _⟩ rfl ?_
      obtain ⟨rfl, rfl⟩ := x_inj2 hE
      exact y_ret dX6_set_37 (Nat.le_refl _) (Nat.le_refl _) ⟨_, rfl, rfl⟩
def f_X6_copy (h : xH) (a0 : Nat) (p1 : Int32) (p2 : Int32) (p3 : Int32) (p4 : Int32) (p5 : Int32) : Option (Int32 × xH) :=
  (f_X6_isShelf h p1).bind fun q1 =>
  if q1 = 0 then
    (x_ob h a0 6).bind fun u2 =>
    (f_X6_refuse h a0 (-2 : Int32)).bind fun q3 =>
    some (q3.1, q3.2)
  else
    (f_X6_isShelf h p2).bind fun q4 =>
    if q4 = 0 then
      (x_ob h a0 6).bind fun u5 =>
      (f_X6_refuse h a0 (-2 : Int32)).bind fun q6 =>
      some (q6.1, q6.2)
    else
      (x_gR h a0 6 4).bind fun a7 =>
      (x_ldQ h a7 p1).bind fun a8 =>
      (x_gR h a0 6 4).bind fun a9 =>
      (x_ldQ h a9 p2).bind fun a10 =>
      (x_ob h a8 4).bind fun u11 =>
      (f_X4_holdsDoor h a8).bind fun q12 =>
      if q12 = 0 then
        (x_ob h a10 4).bind fun u13 =>
        (f_X4_holdsDoor h a10).bind fun q14 =>
        if q14 = 0 then
          (x_ob h a8 4).bind fun u15 =>
          (f_X4_isEmpty h a8).bind fun q16 =>
          if q16 = 0 then
            (x_ob h a10 4).bind fun u17 =>
            (f_X4_isEmpty h a10).bind fun q18 =>
            if q18 = 0 then
              (x_gI h a8 4 0).bind fun x19 =>
              (x_gI h a10 4 0).bind fun x20 =>
              if x19 = x20 then
                (x_ob h a8 4).bind fun u21 =>
                (f_X4_hasStretch h a8 p3 p5).bind fun q22 =>
                if q22 = 0 then
                  (x_ob h a0 6).bind fun u23 =>
                  (f_X6_refuse h a0 (-2 : Int32)).bind fun q24 =>
                  some (q24.1, q24.2)
                else
                  (x_ob h a10 4).bind fun u25 =>
                  (f_X4_hasStretch h a10 p4 p5).bind fun q26 =>
                  if q26 = 0 then
                    (x_ob h a0 6).bind fun u27 =>
                    (f_X6_refuse h a0 (-2 : Int32)).bind fun q28 =>
                    some (q28.1, q28.2)
                  else
                    (x_gR h a8 4 2).bind fun a29 =>
                    (x_gR h a10 4 2).bind fun a30 =>
                    (x_cpyL h a29 p3 a30 p4 p5).bind fun h31 =>
                    some (p5, h31)
              else
                (x_ob h a0 6).bind fun u34 =>
                (f_X6_refuse h a0 (-3 : Int32)).bind fun q35 =>
                some (q35.1, q35.2)
            else
              (x_ob h a0 6).bind fun u37 =>
              (f_X6_refuse h a0 (-4 : Int32)).bind fun q38 =>
              some (q38.1, q38.2)
          else
            (x_ob h a0 6).bind fun u40 =>
            (f_X6_refuse h a0 (-4 : Int32)).bind fun q41 =>
            some (q41.1, q41.2)
        else
          (x_ob h a0 6).bind fun u43 =>
          (f_X6_refuse h a0 (-3 : Int32)).bind fun q44 =>
          some (q44.1, q44.2)
      else
        (x_ob h a0 6).bind fun u46 =>
        (f_X6_refuse h a0 (-3 : Int32)).bind fun q47 =>
        some (q47.1, q47.2)
set_option maxRecDepth 100000 in
set_option maxHeartbeats 4000000 in
theorem c_X6_copy {h : xH} {a0 : Nat} {p1 : Int32} {p2 : Int32} {p3 : Int32} {p4 : Int32} {p5 : Int32} {r9 : Int32} {hz : xH} (hE : f_X6_copy h a0 p1 p2 p3 p4 p5 = some (r9, hz)) : Ctr M_X6_copy [.ref a0, .int p1, .int p2, .int p3, .int p4, .int p5] h (some (.int r9)) hz 0 0 := by
  refine ctr_of (by decide) (fun _ _ => Nat.le_of_ble_eq_true rfl) (fun S => ?_)
  show Y S M_X6_copy h (some (.int r9)) hz 0 0 0 [(0, .ref a0), (1, .int p1), (2, .int p2), (3, .int p3), (4, .int p4), (5, .int p5)] [] h 0 0
  unfold f_X6_copy at hE
  refine y_iload_n dX6_copy_0 1 rfl ?_
  obtain ⟨q1, eq1, hE⟩ := Option.bind_eq_some_iff.mp hE
  refine y_cSi0 (st := []) (as := [.int p1]) (c_X6_isShelf eq1) lk_X6_54 st_X6_isShelf ⟨Nat.le_of_ble_eq_true rfl, Nat.le_of_ble_eq_true rfl⟩ (Nat.le_of_ble_eq_true rfl) dX6_copy_1 ⟨Nat.le_refl _, Nat.le_refl _⟩ rfl ?_
  refine y_if_eq (tgt := 14) dX6_copy_4 (by decide) (fun hc50 => ?_) (fun hc50 => ?_)
  · rw [if_pos hc50] at hE
    refine y_aload_n dX6_copy_14 0 rfl ?_
    refine y_bipush (v := (-2 : Int32)) dX6_copy_15 (by decide) ?_
    obtain ⟨u2, eu2, hE⟩ := Option.bind_eq_some_iff.mp hE
    obtain ⟨q3, eq3, hE⟩ := Option.bind_eq_some_iff.mp hE
    refine y_cVi0 (st := []) (as := [.int (-2 : Int32)]) (c_X6_refuse eq3) lk_X6_58 in_X6_refuse se_X6_refuse rfl eu2 ⟨Nat.le_of_ble_eq_true rfl, Nat.le_of_ble_eq_true rfl⟩ (Nat.le_of_ble_eq_true rfl) dX6_copy_17 ⟨Nat.le_refl _, Nat.le_refl _⟩ rfl ?_
    obtain ⟨rfl, rfl⟩ := x_inj2 hE
    exact y_ret dX6_copy_20 (Nat.le_refl _) (Nat.le_refl _) ⟨_, rfl, rfl⟩
  · rw [if_neg hc50] at hE
    refine y_iload_n dX6_copy_7 2 rfl ?_
    obtain ⟨q4, eq4, hE⟩ := Option.bind_eq_some_iff.mp hE
    refine y_cSi0 (st := []) (as := [.int p2]) (c_X6_isShelf eq4) lk_X6_54 st_X6_isShelf ⟨Nat.le_of_ble_eq_true rfl, Nat.le_of_ble_eq_true rfl⟩ (Nat.le_of_ble_eq_true rfl) dX6_copy_8 ⟨Nat.le_refl _, Nat.le_refl _⟩ rfl ?_
    refine y_if_ne (tgt := 21) dX6_copy_11 (by decide) (fun hc49 => ?_) (fun hc49 => ?_)
    · rw [if_pos hc49] at hE
      refine y_aload_n dX6_copy_14 0 rfl ?_
      refine y_bipush (v := (-2 : Int32)) dX6_copy_15 (by decide) ?_
      obtain ⟨u5, eu5, hE⟩ := Option.bind_eq_some_iff.mp hE
      obtain ⟨q6, eq6, hE⟩ := Option.bind_eq_some_iff.mp hE
      refine y_cVi0 (st := []) (as := [.int (-2 : Int32)]) (c_X6_refuse eq6) lk_X6_58 in_X6_refuse se_X6_refuse rfl eu5 ⟨Nat.le_of_ble_eq_true rfl, Nat.le_of_ble_eq_true rfl⟩ (Nat.le_of_ble_eq_true rfl) dX6_copy_17 ⟨Nat.le_refl _, Nat.le_refl _⟩ rfl ?_
      obtain ⟨rfl, rfl⟩ := x_inj2 hE
      exact y_ret dX6_copy_20 (Nat.le_refl _) (Nat.le_refl _) ⟨_, rfl, rfl⟩
    · rw [if_neg hc49] at hE
      refine y_aload_n dX6_copy_21 0 rfl ?_
      obtain ⟨a7, ea7, hE⟩ := Option.bind_eq_some_iff.mp hE
      refine y_getR fl_X6_24 ea7 dX6_copy_22 ?_
      refine y_iload_n dX6_copy_25 1 rfl ?_
      obtain ⟨a8, ea8, hE⟩ := Option.bind_eq_some_iff.mp hE
      refine y_aald ea8 dX6_copy_26 ?_
      refine y_astore (ls' := [(6, .ref a8), (0, .ref a0), (1, .int p1), (2, .int p2), (3, .int p3), (4, .int p4), (5, .int p5)]) dX6_copy_27 (by decide) rfl rfl ?_
      refine y_aload_n dX6_copy_29 1 rfl ?_
      obtain ⟨a9, ea9, hE⟩ := Option.bind_eq_some_iff.mp hE
      refine y_getR fl_X6_24 ea9 dX6_copy_30 ?_
      refine y_iload_n dX6_copy_33 3 rfl ?_
      obtain ⟨a10, ea10, hE⟩ := Option.bind_eq_some_iff.mp hE
      refine y_aald ea10 dX6_copy_34 ?_
      refine y_astore (ls' := [(7, .ref a10), (6, .ref a8), (0, .ref a0), (1, .int p1), (2, .int p2), (3, .int p3), (4, .int p4), (5, .int p5)]) dX6_copy_35 (by decide) rfl rfl ?_
      refine y_aload dX6_copy_37 1 rfl ?_
      obtain ⟨u11, eu11, hE⟩ := Option.bind_eq_some_iff.mp hE
      obtain ⟨q12, eq12, hE⟩ := Option.bind_eq_some_iff.mp hE
      refine y_cVi0 (st := []) (as := []) (c_X4_holdsDoor eq12) lk_X6_77 in_X4_holdsDoor se_X4_holdsDoor rfl eu11 ⟨Nat.le_of_ble_eq_true rfl, Nat.le_of_ble_eq_true rfl⟩ (Nat.le_of_ble_eq_true rfl) dX6_copy_39 ⟨Nat.le_refl _, Nat.le_refl _⟩ rfl ?_
      refine y_if_ne (tgt := 53) dX6_copy_42 (by decide) (fun hc48 => ?_) (fun hc48 => ?_)
      · rw [if_pos hc48] at hE
        refine y_aload dX6_copy_45 0 rfl ?_
        obtain ⟨u13, eu13, hE⟩ := Option.bind_eq_some_iff.mp hE
        obtain ⟨q14, eq14, hE⟩ := Option.bind_eq_some_iff.mp hE
        refine y_cVi0 (st := []) (as := []) (c_X4_holdsDoor eq14) lk_X6_77 in_X4_holdsDoor se_X4_holdsDoor rfl eu13 ⟨Nat.le_of_ble_eq_true rfl, Nat.le_of_ble_eq_true rfl⟩ (Nat.le_of_ble_eq_true rfl) dX6_copy_47 ⟨Nat.le_refl _, Nat.le_refl _⟩ rfl ?_
        refine y_if_eq (tgt := 60) dX6_copy_50 (by decide) (fun hc45 => ?_) (fun hc45 => ?_)
        · rw [if_pos hc45] at hE
          refine y_aload dX6_copy_60 1 rfl ?_
          obtain ⟨u15, eu15, hE⟩ := Option.bind_eq_some_iff.mp hE
          obtain ⟨q16, eq16, hE⟩ := Option.bind_eq_some_iff.mp hE
          refine y_cVi0 (st := []) (as := []) (c_X4_isEmpty eq16) lk_X6_81 in_X4_isEmpty se_X4_isEmpty rfl eu15 ⟨Nat.le_of_ble_eq_true rfl, Nat.le_of_ble_eq_true rfl⟩ (Nat.le_of_ble_eq_true rfl) dX6_copy_62 ⟨Nat.le_refl _, Nat.le_refl _⟩ rfl ?_
          refine y_if_ne (tgt := 76) dX6_copy_65 (by decide) (fun hc42 => ?_) (fun hc42 => ?_)
          · rw [if_pos hc42] at hE
            refine y_aload dX6_copy_68 0 rfl ?_
            obtain ⟨u17, eu17, hE⟩ := Option.bind_eq_some_iff.mp hE
            obtain ⟨q18, eq18, hE⟩ := Option.bind_eq_some_iff.mp hE
            refine y_cVi0 (st := []) (as := []) (c_X4_isEmpty eq18) lk_X6_81 in_X4_isEmpty se_X4_isEmpty rfl eu17 ⟨Nat.le_of_ble_eq_true rfl, Nat.le_of_ble_eq_true rfl⟩ (Nat.le_of_ble_eq_true rfl) dX6_copy_70 ⟨Nat.le_refl _, Nat.le_refl _⟩ rfl ?_
            refine y_if_eq (tgt := 83) dX6_copy_73 (by decide) (fun hc39 => ?_) (fun hc39 => ?_)
            · rw [if_pos hc39] at hE
              refine y_aload dX6_copy_83 1 rfl ?_
              obtain ⟨x19, ex19, hE⟩ := Option.bind_eq_some_iff.mp hE
              refine y_getI fl_X6_84 ex19 dX6_copy_85 ?_
              refine y_aload dX6_copy_88 0 rfl ?_
              obtain ⟨x20, ex20, hE⟩ := Option.bind_eq_some_iff.mp hE
              refine y_getI fl_X6_84 ex20 dX6_copy_90 ?_
              refine y_icmp_eq (tgt := 103) dX6_copy_93 (by decide) (fun hc36 => ?_) (fun hc36 => ?_)
              · rw [if_pos hc36] at hE
                refine y_aload dX6_copy_103 1 rfl ?_
                refine y_iload_n dX6_copy_105 5 rfl ?_
                refine y_iload dX6_copy_106 7 rfl ?_
                obtain ⟨u21, eu21, hE⟩ := Option.bind_eq_some_iff.mp hE
                obtain ⟨q22, eq22, hE⟩ := Option.bind_eq_some_iff.mp hE
                refine y_cVi0 (st := []) (as := [.int p3, .int p5]) (c_X4_hasStretch eq22) lk_X6_88 in_X4_hasStretch se_X4_hasStretch rfl eu21 ⟨Nat.le_of_ble_eq_true rfl, Nat.le_of_ble_eq_true rfl⟩ (Nat.le_of_ble_eq_true rfl) dX6_copy_108 ⟨Nat.le_refl _, Nat.le_refl _⟩ rfl ?_
                refine y_if_eq (tgt := 126) dX6_copy_111 (by decide) (fun hc33 => ?_) (fun hc33 => ?_)
                · rw [if_pos hc33] at hE
                  refine y_aload_n dX6_copy_126 2 rfl ?_
                  refine y_bipush (v := (-2 : Int32)) dX6_copy_127 (by decide) ?_
                  obtain ⟨u23, eu23, hE⟩ := Option.bind_eq_some_iff.mp hE
                  obtain ⟨q24, eq24, hE⟩ := Option.bind_eq_some_iff.mp hE
                  refine y_cVi0 (st := []) (as := [.int (-2 : Int32)]) (c_X6_refuse eq24) lk_X6_58 in_X6_refuse se_X6_refuse rfl eu23 ⟨Nat.le_of_ble_eq_true rfl, Nat.le_of_ble_eq_true rfl⟩ (Nat.le_of_ble_eq_true rfl) dX6_copy_129 ⟨Nat.le_refl _, Nat.le_refl _⟩ rfl ?_
                  obtain ⟨rfl, rfl⟩ := x_inj2 hE
                  exact y_ret dX6_copy_132 (Nat.le_refl _) (Nat.le_refl _) ⟨_, rfl, rfl⟩
                · rw [if_neg hc33] at hE
                  refine y_aload dX6_copy_114 0 rfl ?_
                  refine y_iload dX6_copy_116 6 rfl ?_
                  refine y_iload dX6_copy_118 7 rfl ?_
                  obtain ⟨u25, eu25, hE⟩ := Option.bind_eq_some_iff.mp hE
                  obtain ⟨q26, eq26, hE⟩ := Option.bind_eq_some_iff.mp hE
                  refine y_cVi0 (st := []) (as := [.int p4, .int p5]) (c_X4_hasStretch eq26) lk_X6_88 in_X4_hasStretch se_X4_hasStretch rfl eu25 ⟨Nat.le_of_ble_eq_true rfl, Nat.le_of_ble_eq_true rfl⟩ (Nat.le_of_ble_eq_true rfl) dX6_copy_120 ⟨Nat.le_refl _, Nat.le_refl _⟩ rfl ?_
                  refine y_if_ne (tgt := 133) dX6_copy_123 (by decide) (fun hc32 => ?_) (fun hc32 => ?_)
                  · rw [if_pos hc32] at hE
                    refine y_aload_n dX6_copy_126 2 rfl ?_
                    refine y_bipush (v := (-2 : Int32)) dX6_copy_127 (by decide) ?_
                    obtain ⟨u27, eu27, hE⟩ := Option.bind_eq_some_iff.mp hE
                    obtain ⟨q28, eq28, hE⟩ := Option.bind_eq_some_iff.mp hE
                    refine y_cVi0 (st := []) (as := [.int (-2 : Int32)]) (c_X6_refuse eq28) lk_X6_58 in_X6_refuse se_X6_refuse rfl eu27 ⟨Nat.le_of_ble_eq_true rfl, Nat.le_of_ble_eq_true rfl⟩ (Nat.le_of_ble_eq_true rfl) dX6_copy_129 ⟨Nat.le_refl _, Nat.le_refl _⟩ rfl ?_
                    obtain ⟨rfl, rfl⟩ := x_inj2 hE
                    exact y_ret dX6_copy_132 (Nat.le_refl _) (Nat.le_refl _) ⟨_, rfl, rfl⟩
                  · rw [if_neg hc32] at hE
                    refine y_aload dX6_copy_133 1 rfl ?_
                    obtain ⟨a29, ea29, hE⟩ := Option.bind_eq_some_iff.mp hE
                    refine y_getR fl_X6_92 ea29 dX6_copy_135 ?_
                    refine y_iload_n dX6_copy_138 5 rfl ?_
                    refine y_aload dX6_copy_139 0 rfl ?_
                    obtain ⟨a30, ea30, hE⟩ := Option.bind_eq_some_iff.mp hE
                    refine y_getR fl_X6_92 ea30 dX6_copy_141 ?_
                    refine y_iload dX6_copy_144 6 rfl ?_
                    refine y_iload dX6_copy_146 7 rfl ?_
                    obtain ⟨h31, eh31, hE⟩ := Option.bind_eq_some_iff.mp hE
                    refine y_cpyL eh31 (x_wt (tb 333 (by decide +kernel)) rfl) (by decide) (by decide) (Nat.le_of_ble_eq_true rfl) dX6_copy_148 ?_
                    refine y_iload dX6_copy_151 7 rfl ?_
                    obtain ⟨rfl, rfl⟩ := x_inj2 hE
                    exact y_ret dX6_copy_153 (Nat.le_refl _) (Nat.le_refl _) ⟨_, rfl, rfl⟩
              · rw [if_neg hc36] at hE
                refine y_aload_n dX6_copy_96 2 rfl ?_
                refine y_bipush (v := (-3 : Int32)) dX6_copy_97 (by decide) ?_
                obtain ⟨u34, eu34, hE⟩ := Option.bind_eq_some_iff.mp hE
                obtain ⟨q35, eq35, hE⟩ := Option.bind_eq_some_iff.mp hE
                refine y_cVi0 (st := []) (as := [.int (-3 : Int32)]) (c_X6_refuse eq35) lk_X6_58 in_X6_refuse se_X6_refuse rfl eu34 ⟨Nat.le_of_ble_eq_true rfl, Nat.le_of_ble_eq_true rfl⟩ (Nat.le_of_ble_eq_true rfl) dX6_copy_99 ⟨Nat.le_refl _, Nat.le_refl _⟩ rfl ?_
                obtain ⟨rfl, rfl⟩ := x_inj2 hE
                exact y_ret dX6_copy_102 (Nat.le_refl _) (Nat.le_refl _) ⟨_, rfl, rfl⟩
            · rw [if_neg hc39] at hE
              refine y_aload_n dX6_copy_76 2 rfl ?_
              refine y_bipush (v := (-4 : Int32)) dX6_copy_77 (by decide) ?_
              obtain ⟨u37, eu37, hE⟩ := Option.bind_eq_some_iff.mp hE
              obtain ⟨q38, eq38, hE⟩ := Option.bind_eq_some_iff.mp hE
              refine y_cVi0 (st := []) (as := [.int (-4 : Int32)]) (c_X6_refuse eq38) lk_X6_58 in_X6_refuse se_X6_refuse rfl eu37 ⟨Nat.le_of_ble_eq_true rfl, Nat.le_of_ble_eq_true rfl⟩ (Nat.le_of_ble_eq_true rfl) dX6_copy_79 ⟨Nat.le_refl _, Nat.le_refl _⟩ rfl ?_
              obtain ⟨rfl, rfl⟩ := x_inj2 hE
              exact y_ret dX6_copy_82 (Nat.le_refl _) (Nat.le_refl _) ⟨_, rfl, rfl⟩
          · rw [if_neg hc42] at hE
            refine y_aload_n dX6_copy_76 2 rfl ?_
            refine y_bipush (v := (-4 : Int32)) dX6_copy_77 (by decide) ?_
            obtain ⟨u40, eu40, hE⟩ := Option.bind_eq_some_iff.mp hE
            obtain ⟨q41, eq41, hE⟩ := Option.bind_eq_some_iff.mp hE
            refine y_cVi0 (st := []) (as := [.int (-4 : Int32)]) (c_X6_refuse eq41) lk_X6_58 in_X6_refuse se_X6_refuse rfl eu40 ⟨Nat.le_of_ble_eq_true rfl, Nat.le_of_ble_eq_true rfl⟩ (Nat.le_of_ble_eq_true rfl) dX6_copy_79 ⟨Nat.le_refl _, Nat.le_refl _⟩ rfl ?_
            obtain ⟨rfl, rfl⟩ := x_inj2 hE
            exact y_ret dX6_copy_82 (Nat.le_refl _) (Nat.le_refl _) ⟨_, rfl, rfl⟩
        · rw [if_neg hc45] at hE
          refine y_aload_n dX6_copy_53 2 rfl ?_
          refine y_bipush (v := (-3 : Int32)) dX6_copy_54 (by decide) ?_
          obtain ⟨u43, eu43, hE⟩ := Option.bind_eq_some_iff.mp hE
          obtain ⟨q44, eq44, hE⟩ := Option.bind_eq_some_iff.mp hE
          refine y_cVi0 (st := []) (as := [.int (-3 : Int32)]) (c_X6_refuse eq44) lk_X6_58 in_X6_refuse se_X6_refuse rfl eu43 ⟨Nat.le_of_ble_eq_true rfl, Nat.le_of_ble_eq_true rfl⟩ (Nat.le_of_ble_eq_true rfl) dX6_copy_56 ⟨Nat.le_refl _, Nat.le_refl _⟩ rfl ?_
          obtain ⟨rfl, rfl⟩ := x_inj2 hE
          exact y_ret dX6_copy_59 (Nat.le_refl _) (Nat.le_refl _) ⟨_, rfl, rfl⟩
      · rw [if_neg hc48] at hE
        refine y_aload_n dX6_copy_53 2 rfl ?_
        refine y_bipush (v := (-3 : Int32)) dX6_copy_54 (by decide) ?_
        obtain ⟨u46, eu46, hE⟩ := Option.bind_eq_some_iff.mp hE
        obtain ⟨q47, eq47, hE⟩ := Option.bind_eq_some_iff.mp hE
        refine y_cVi0 (st := []) (as := [.int (-3 : Int32)]) (c_X6_refuse eq47) lk_X6_58 in_X6_refuse se_X6_refuse rfl eu46 ⟨Nat.le_of_ble_eq_true rfl, Nat.le_of_ble_eq_true rfl⟩ (Nat.le_of_ble_eq_true rfl) dX6_copy_56 ⟨Nat.le_refl _, Nat.le_refl _⟩ rfl ?_
        obtain ⟨rfl, rfl⟩ := x_inj2 hE
        exact y_ret dX6_copy_59 (Nat.le_refl _) (Nat.le_refl _) ⟨_, rfl, rfl⟩
def f_X6_element (h : xH) (a0 : Nat) (p1 : Int32) (p2 : Int32) : Option (Int64) :=
  (f_X6_isShelf h p1).bind fun q1 =>
  if q1 = 0 then
    some (0 : Int64)
  else
    (x_gR h a0 6 4).bind fun a2 =>
    (x_ldQ h a2 p1).bind fun a3 =>
    (x_ob h a3 4).bind fun u4 =>
    (f_X4_hasElement h a3 p2).bind fun q5 =>
    if q5 = 0 then
      some (0 : Int64)
    else
      (x_gR h a0 6 4).bind fun a6 =>
      (x_ldQ h a6 p1).bind fun a7 =>
      (x_gR h a7 4 2).bind fun a8 =>
      (x_ldL h a8 p2).bind fun x9 =>
      some x9
set_option maxRecDepth 100000 in
set_option maxHeartbeats 4000000 in
theorem c_X6_element {h : xH} {a0 : Nat} {p1 : Int32} {p2 : Int32} {r9 : Int64} (hE : f_X6_element h a0 p1 p2 = some r9) : Ctr M_X6_element [.ref a0, .int p1, .int p2] h (some (.long r9)) h 0 0 := by
  refine ctr_of (by decide) (fun _ _ => Nat.le_of_ble_eq_true rfl) (fun S => ?_)
  show Y S M_X6_element h (some (.long r9)) h 0 0 0 [(0, .ref a0), (1, .int p1), (2, .int p2)] [] h 0 0
  unfold f_X6_element at hE
  refine y_iload_n dX6_element_0 1 rfl ?_
  obtain ⟨q1, eq1, hE⟩ := Option.bind_eq_some_iff.mp hE
  refine y_cSi0 (st := []) (as := [.int p1]) (c_X6_isShelf eq1) lk_X6_54 st_X6_isShelf ⟨Nat.le_of_ble_eq_true rfl, Nat.le_of_ble_eq_true rfl⟩ (Nat.le_of_ble_eq_true rfl) dX6_element_1 ⟨Nat.le_refl _, Nat.le_refl _⟩ rfl ?_
  refine y_if_eq (tgt := 20) dX6_element_4 (by decide) (fun hc11 => ?_) (fun hc11 => ?_)
  · rw [if_pos hc11] at hE
    refine y_lconst (v := (0 : Int64)) dX6_element_20 (by decide) ?_
    obtain rfl := Option.some.inj hE
    exact y_ret dX6_element_21 (Nat.le_refl _) (Nat.le_refl _) rfl
  · rw [if_neg hc11] at hE
    refine y_aload_n dX6_element_7 0 rfl ?_
    obtain ⟨a2, ea2, hE⟩ := Option.bind_eq_some_iff.mp hE
    refine y_getR fl_X6_24 ea2 dX6_element_8 ?_
    refine y_iload_n dX6_element_11 1 rfl ?_
    obtain ⟨a3, ea3, hE⟩ := Option.bind_eq_some_iff.mp hE
    refine y_aald ea3 dX6_element_12 ?_
    refine y_iload_n dX6_element_13 2 rfl ?_
    obtain ⟨u4, eu4, hE⟩ := Option.bind_eq_some_iff.mp hE
    obtain ⟨q5, eq5, hE⟩ := Option.bind_eq_some_iff.mp hE
    refine y_cVi0 (st := []) (as := [.int p2]) (c_X4_hasElement eq5) lk_X6_70 in_X4_hasElement se_X4_hasElement rfl eu4 ⟨Nat.le_of_ble_eq_true rfl, Nat.le_of_ble_eq_true rfl⟩ (Nat.le_of_ble_eq_true rfl) dX6_element_14 ⟨Nat.le_refl _, Nat.le_refl _⟩ rfl ?_
    refine y_if_ne (tgt := 22) dX6_element_17 (by decide) (fun hc10 => ?_) (fun hc10 => ?_)
    · rw [if_pos hc10] at hE
      refine y_lconst (v := (0 : Int64)) dX6_element_20 (by decide) ?_
      obtain rfl := Option.some.inj hE
      exact y_ret dX6_element_21 (Nat.le_refl _) (Nat.le_refl _) rfl
    · rw [if_neg hc10] at hE
      refine y_aload_n dX6_element_22 0 rfl ?_
      obtain ⟨a6, ea6, hE⟩ := Option.bind_eq_some_iff.mp hE
      refine y_getR fl_X6_24 ea6 dX6_element_23 ?_
      refine y_iload_n dX6_element_26 1 rfl ?_
      obtain ⟨a7, ea7, hE⟩ := Option.bind_eq_some_iff.mp hE
      refine y_aald ea7 dX6_element_27 ?_
      obtain ⟨a8, ea8, hE⟩ := Option.bind_eq_some_iff.mp hE
      refine y_getR fl_X6_92 ea8 dX6_element_28 ?_
      refine y_iload_n dX6_element_31 2 rfl ?_
      obtain ⟨x9, ex9, hE⟩ := Option.bind_eq_some_iff.mp hE
      refine y_lald ex9 dX6_element_32 ?_
      obtain rfl := Option.some.inj hE
      exact y_ret dX6_element_33 (Nat.le_refl _) (Nat.le_refl _) rfl
def f_X6_holds (h : xH) (a0 : Nat) (p1 : Int32) : Option (Int32) :=
  (f_X6_isShelf h p1).bind fun q1 =>
  if q1 = 0 then
    some (-1 : Int32)
  else
    (x_gR h a0 6 4).bind fun a2 =>
    (x_ldQ h a2 p1).bind fun a3 =>
    (x_gI h a3 4 0).bind fun x4 =>
    some x4
set_option maxRecDepth 100000 in
set_option maxHeartbeats 4000000 in
theorem c_X6_holds {h : xH} {a0 : Nat} {p1 : Int32} {r9 : Int32} (hE : f_X6_holds h a0 p1 = some r9) : Ctr M_X6_holds [.ref a0, .int p1] h (some (.int r9)) h 0 0 := by
  refine ctr_of (by decide) (fun _ _ => Nat.le_of_ble_eq_true rfl) (fun S => ?_)
  show Y S M_X6_holds h (some (.int r9)) h 0 0 0 [(0, .ref a0), (1, .int p1)] [] h 0 0
  unfold f_X6_holds at hE
  refine y_iload_n dX6_holds_0 1 rfl ?_
  obtain ⟨q1, eq1, hE⟩ := Option.bind_eq_some_iff.mp hE
  refine y_cSi0 (st := []) (as := [.int p1]) (c_X6_isShelf eq1) lk_X6_54 st_X6_isShelf ⟨Nat.le_of_ble_eq_true rfl, Nat.le_of_ble_eq_true rfl⟩ (Nat.le_of_ble_eq_true rfl) dX6_holds_1 ⟨Nat.le_refl _, Nat.le_refl _⟩ rfl ?_
  refine y_if_eq (tgt := 19) dX6_holds_4 (by decide) (fun hc5 => ?_) (fun hc5 => ?_)
  · rw [if_pos hc5] at hE
    refine y_iconst (v := (-1 : Int32)) dX6_holds_19 (by decide) ?_
    obtain rfl := Option.some.inj hE
    exact y_ret dX6_holds_20 (Nat.le_refl _) (Nat.le_refl _) ⟨_, rfl, rfl⟩
  · rw [if_neg hc5] at hE
    refine y_aload_n dX6_holds_7 0 rfl ?_
    obtain ⟨a2, ea2, hE⟩ := Option.bind_eq_some_iff.mp hE
    refine y_getR fl_X6_24 ea2 dX6_holds_8 ?_
    refine y_iload_n dX6_holds_11 1 rfl ?_
    obtain ⟨a3, ea3, hE⟩ := Option.bind_eq_some_iff.mp hE
    refine y_aald ea3 dX6_holds_12 ?_
    obtain ⟨x4, ex4, hE⟩ := Option.bind_eq_some_iff.mp hE
    refine y_getI fl_X6_84 ex4 dX6_holds_13 ?_
    refine y_goto (tgt := 20) dX6_holds_16 (by decide) ?_
    obtain rfl := Option.some.inj hE
    exact y_ret dX6_holds_20 (Nat.le_refl _) (Nat.le_refl _) ⟨_, rfl, rfl⟩
def f_X6_show_J30 (h : xH) (v0 : Nat) (v1 : Int32) (v2 : Int32) : Option (Int32 × xH) :=
  if v2 = (-1 : Int32) then
    (x_gR h v0 6 4).bind fun a4 =>
    (x_ldQ h a4 v1).bind fun a5 =>
    (x_ob h a5 4).bind fun u6 =>
    (f_X4_clear h a5).bind fun q7 =>
    some ((1 : Int32), q7)
  else
    (x_gR h v0 6 4).bind fun a8 =>
    (x_ldQ h a8 v1).bind fun a9 =>
    (x_ob h a9 4).bind fun u10 =>
    (f_X4_takeDoor h a9 v2).bind fun q11 =>
    some ((1 : Int32), q11)
set_option maxRecDepth 100000 in
set_option maxHeartbeats 4000000 in
theorem j_X6_show_30 {S : Nat × (Nat → Int32)} {h0 : xH} {mc ms cells slots : Nat} {h : xH} {v0 : Nat} {v1 : Int32} {v2 : Int32} {r9 : Int32} {hz : xH} (hE : f_X6_show_J30 h v0 v1 v2 = some (r9, hz)) (hm : cells ≤ mc ∧ slots ≤ ms) : Y S M_X6_show h0 (some (.int r9)) hz mc ms 30 [(0, .ref v0), (1, .int v1), (2, .int v2)] [] h cells slots := by
  unfold f_X6_show_J30 at hE
  refine y_iload_n dX6_show_30 2 rfl ?_
  refine y_iconst (v := (-1 : Int32)) dX6_show_31 (by decide) ?_
  refine y_icmp_ne (tgt := 47) dX6_show_32 (by decide) (fun hc12 => ?_) (fun hc12 => ?_)
  · rw [if_pos hc12] at hE
    refine y_aload_n dX6_show_35 0 rfl ?_
    obtain ⟨a4, ea4, hE⟩ := Option.bind_eq_some_iff.mp hE
    refine y_getR fl_X6_24 ea4 dX6_show_36 ?_
    refine y_iload_n dX6_show_39 1 rfl ?_
    obtain ⟨a5, ea5, hE⟩ := Option.bind_eq_some_iff.mp hE
    refine y_aald ea5 dX6_show_40 ?_
    obtain ⟨u6, eu6, hE⟩ := Option.bind_eq_some_iff.mp hE
    obtain ⟨q7, eq7, hE⟩ := Option.bind_eq_some_iff.mp hE
    refine y_cVv0 (st := []) (as := []) (c_X4_clear eq7) lk_X6_105 in_X4_clear se_X4_clear rfl eu6 ⟨Nat.le_of_ble_eq_true rfl, Nat.le_of_ble_eq_true rfl⟩ (Nat.le_of_ble_eq_true rfl) dX6_show_41 hm rfl ?_
    refine y_goto (tgt := 57) dX6_show_44 (by decide) ?_
    refine y_iconst (v := (1 : Int32)) dX6_show_57 (by decide) ?_
    obtain ⟨rfl, rfl⟩ := x_inj2 hE
    exact y_ret dX6_show_58 hm.1 hm.2 ⟨_, rfl, rfl⟩
  · rw [if_neg hc12] at hE
    refine y_aload_n dX6_show_47 0 rfl ?_
    obtain ⟨a8, ea8, hE⟩ := Option.bind_eq_some_iff.mp hE
    refine y_getR fl_X6_24 ea8 dX6_show_48 ?_
    refine y_iload_n dX6_show_51 1 rfl ?_
    obtain ⟨a9, ea9, hE⟩ := Option.bind_eq_some_iff.mp hE
    refine y_aald ea9 dX6_show_52 ?_
    refine y_iload_n dX6_show_53 2 rfl ?_
    obtain ⟨u10, eu10, hE⟩ := Option.bind_eq_some_iff.mp hE
    obtain ⟨q11, eq11, hE⟩ := Option.bind_eq_some_iff.mp hE
    refine y_cVv0 (st := []) (as := [.int v2]) (c_X4_takeDoor eq11) lk_X6_108 in_X4_takeDoor se_X4_takeDoor rfl eu10 ⟨Nat.le_of_ble_eq_true rfl, Nat.le_of_ble_eq_true rfl⟩ (Nat.le_of_ble_eq_true rfl) dX6_show_54 hm rfl ?_
    refine y_iconst (v := (1 : Int32)) dX6_show_57 (by decide) ?_
    obtain ⟨rfl, rfl⟩ := x_inj2 hE
    exact y_ret dX6_show_58 hm.1 hm.2 ⟨_, rfl, rfl⟩
def f_X6_show (h : xH) (a0 : Nat) (p1 : Int32) (p2 : Int32) : Option (Int32 × xH) :=
  (f_X6_isShelf h p1).bind fun q1 =>
  if q1 = 0 then
    (x_ob h a0 6).bind fun u2 =>
    (f_X6_refuse h a0 (-2 : Int32)).bind fun q3 =>
    some (q3.1, q3.2)
  else
    if p2 = (-1 : Int32) then
      f_X6_show_J30 h a0 p1 p2
    else
      (x_gR h a0 6 0).bind fun a13 =>
      (x_ob h a13 0).bind fun u14 =>
      (f_X0_hasDoor h a13 p2).bind fun q15 =>
      if q15 = 0 then
        (x_ob h a0 6).bind fun u16 =>
        (f_X6_refuse h a0 (-2 : Int32)).bind fun q17 =>
        some (q17.1, q17.2)
      else
        f_X6_show_J30 h a0 p1 p2
set_option maxRecDepth 100000 in
set_option maxHeartbeats 4000000 in
theorem c_X6_show {h : xH} {a0 : Nat} {p1 : Int32} {p2 : Int32} {r9 : Int32} {hz : xH} (hE : f_X6_show h a0 p1 p2 = some (r9, hz)) : Ctr M_X6_show [.ref a0, .int p1, .int p2] h (some (.int r9)) hz 0 0 := by
  refine ctr_of (by decide) (fun _ _ => Nat.le_of_ble_eq_true rfl) (fun S => ?_)
  show Y S M_X6_show h (some (.int r9)) hz 0 0 0 [(0, .ref a0), (1, .int p1), (2, .int p2)] [] h 0 0
  unfold f_X6_show at hE
  refine y_iload_n dX6_show_0 1 rfl ?_
  obtain ⟨q1, eq1, hE⟩ := Option.bind_eq_some_iff.mp hE
  refine y_cSi0 (st := []) (as := [.int p1]) (c_X6_isShelf eq1) lk_X6_54 st_X6_isShelf ⟨Nat.le_of_ble_eq_true rfl, Nat.le_of_ble_eq_true rfl⟩ (Nat.le_of_ble_eq_true rfl) dX6_show_1 ⟨Nat.le_refl _, Nat.le_refl _⟩ rfl ?_
  refine y_if_eq (tgt := 23) dX6_show_4 (by decide) (fun hc20 => ?_) (fun hc20 => ?_)
  · rw [if_pos hc20] at hE
    refine y_aload_n dX6_show_23 0 rfl ?_
    refine y_bipush (v := (-2 : Int32)) dX6_show_24 (by decide) ?_
    obtain ⟨u2, eu2, hE⟩ := Option.bind_eq_some_iff.mp hE
    obtain ⟨q3, eq3, hE⟩ := Option.bind_eq_some_iff.mp hE
    refine y_cVi0 (st := []) (as := [.int (-2 : Int32)]) (c_X6_refuse eq3) lk_X6_58 in_X6_refuse se_X6_refuse rfl eu2 ⟨Nat.le_of_ble_eq_true rfl, Nat.le_of_ble_eq_true rfl⟩ (Nat.le_of_ble_eq_true rfl) dX6_show_26 ⟨Nat.le_refl _, Nat.le_refl _⟩ rfl ?_
    obtain ⟨rfl, rfl⟩ := x_inj2 hE
    exact y_ret dX6_show_29 (Nat.le_refl _) (Nat.le_refl _) ⟨_, rfl, rfl⟩
  · rw [if_neg hc20] at hE
    refine y_iload_n dX6_show_7 2 rfl ?_
    refine y_iconst (v := (-1 : Int32)) dX6_show_8 (by decide) ?_
    refine y_icmp_eq (tgt := 30) dX6_show_9 (by decide) (fun hc19 => ?_) (fun hc19 => ?_)
    · rw [if_pos hc19] at hE
      refine y_pick [0, 1, 2] rfl ?_
      exact j_X6_show_30 hE ⟨Nat.le_refl _, Nat.le_refl _⟩
    · rw [if_neg hc19] at hE
      refine y_aload_n dX6_show_12 0 rfl ?_
      obtain ⟨a13, ea13, hE⟩ := Option.bind_eq_some_iff.mp hE
      refine y_getR fl_X6_10 ea13 dX6_show_13 ?_
      refine y_iload_n dX6_show_16 2 rfl ?_
      obtain ⟨u14, eu14, hE⟩ := Option.bind_eq_some_iff.mp hE
      obtain ⟨q15, eq15, hE⟩ := Option.bind_eq_some_iff.mp hE
      refine y_cVi0 (st := []) (as := [.int p2]) (c_X0_hasDoor eq15) lk_X6_102 in_X0_hasDoor se_X0_hasDoor rfl eu14 ⟨Nat.le_of_ble_eq_true rfl, Nat.le_of_ble_eq_true rfl⟩ (Nat.le_of_ble_eq_true rfl) dX6_show_17 ⟨Nat.le_refl _, Nat.le_refl _⟩ rfl ?_
      refine y_if_ne (tgt := 30) dX6_show_20 (by decide) (fun hc18 => ?_) (fun hc18 => ?_)
      · rw [if_pos hc18] at hE
        refine y_aload_n dX6_show_23 0 rfl ?_
        refine y_bipush (v := (-2 : Int32)) dX6_show_24 (by decide) ?_
        obtain ⟨u16, eu16, hE⟩ := Option.bind_eq_some_iff.mp hE
        obtain ⟨q17, eq17, hE⟩ := Option.bind_eq_some_iff.mp hE
        refine y_cVi0 (st := []) (as := [.int (-2 : Int32)]) (c_X6_refuse eq17) lk_X6_58 in_X6_refuse se_X6_refuse rfl eu16 ⟨Nat.le_of_ble_eq_true rfl, Nat.le_of_ble_eq_true rfl⟩ (Nat.le_of_ble_eq_true rfl) dX6_show_26 ⟨Nat.le_refl _, Nat.le_refl _⟩ rfl ?_
        obtain ⟨rfl, rfl⟩ := x_inj2 hE
        exact y_ret dX6_show_29 (Nat.le_refl _) (Nat.le_refl _) ⟨_, rfl, rfl⟩
      · rw [if_neg hc18] at hE
        refine y_pick [0, 1, 2] rfl ?_
        exact j_X6_show_30 hE ⟨Nat.le_refl _, Nat.le_refl _⟩
def f_X6_isKind (h : xH) (p0 : Int32) : Option (Int32) :=
  if p0 < 0 then
    some (0 : Int32)
  else
    if (6 : Int32) ≤ p0 then
      some (0 : Int32)
    else
      some (1 : Int32)
set_option maxRecDepth 100000 in
set_option maxHeartbeats 4000000 in
theorem c_X6_isKind {h : xH} {p0 : Int32} {r9 : Int32} (hE : f_X6_isKind h p0 = some r9) : Ctr M_X6_isKind [.int p0] h (some (.int r9)) h 0 0 := by
  refine ctr_of (by decide) (fun _ _ => Nat.le_of_ble_eq_true rfl) (fun S => ?_)
  show Y S M_X6_isKind h (some (.int r9)) h 0 0 0 [(0, .int p0)] [] h 0 0
  unfold f_X6_isKind at hE
  refine y_iload_n dX6_isKind_0 0 rfl ?_
  refine y_if_lt (tgt := 16) dX6_isKind_1 (by decide) (fun hc2 => ?_) (fun hc2 => ?_)
  · rw [if_pos hc2] at hE
    refine y_iconst (v := (0 : Int32)) dX6_isKind_16 (by decide) ?_
    obtain rfl := Option.some.inj hE
    exact y_ret dX6_isKind_17 (Nat.le_refl _) (Nat.le_refl _) ⟨_, rfl, rfl⟩
  · rw [if_neg hc2] at hE
    refine y_iload_n dX6_isKind_4 0 rfl ?_
    refine y_gets (n := "WEIGHTS") (d := "[I") 1 (by decide) (fun _ _ _ _ q => q.2.2.1.1) (Or.inl (x_wt (tb 367 (by decide +kernel)) rfl)) dX6_isKind_5 ?_
    refine y_tWlen dX6_isKind_8 ?_
    refine y_icmp_ge (tgt := 16) dX6_isKind_9 (by decide) (fun hc1 => ?_) (fun hc1 => ?_)
    · rw [if_pos hc1] at hE
      refine y_iconst (v := (0 : Int32)) dX6_isKind_16 (by decide) ?_
      obtain rfl := Option.some.inj hE
      exact y_ret dX6_isKind_17 (Nat.le_refl _) (Nat.le_refl _) ⟨_, rfl, rfl⟩
    · rw [if_neg hc1] at hE
      refine y_iconst (v := (1 : Int32)) dX6_isKind_12 (by decide) ?_
      refine y_goto (tgt := 17) dX6_isKind_13 (by decide) ?_
      obtain rfl := Option.some.inj hE
      exact y_ret dX6_isKind_17 (Nat.le_refl _) (Nat.le_refl _) ⟨_, rfl, rfl⟩
def f_X6_isUnder_L4 (h : xH) (v1 : Int32) : Nat → Int32 → Int32 → Option (Sum (Int32) (Unit))
  | 0, _, _ => none
  | k + 1, v2, v3 =>
    if (6 : Int32) ≤ v3 then
      some (.inr ())
    else
      (f_X6_isKind h v2).bind fun q1 =>
      if q1 = 0 then
        some (.inr ())
      else
        if v2 = v1 then
          some (.inl (1 : Int32))
        else
          (x_tabU v2).bind fun x2 =>
          (some (v3 + (1 : Int32))).bind fun x3 =>
          f_X6_isUnder_L4 h v1 k x2 x3
set_option maxRecDepth 100000 in
set_option maxHeartbeats 4000000 in
theorem l_X6_isUnder_4 {S : Nat × (Nat → Int32)} {rv : Option Value} {h0 h1 : xH} {mc ms : Nat} {cells slots : Nat} (hm : cells ≤ mc ∧ slots ≤ ms) (h : xH) (v1 : Int32) : ∀ (k : Nat) (v2 : Int32) (v3 : Int32) (res : Sum (Int32) (Unit)), f_X6_isUnder_L4 h v1 k v2 v3 = some res → (∀ r9, res = .inl r9 → rv = some (.int r9) ∧ h1 = h) → (∀ r9, res = .inr r9 → Y S M_X6_isUnder h0 rv h1 mc ms 38 [] [] h cells slots) → Y S M_X6_isUnder h0 rv h1 mc ms 4 [(1, .int v1), (2, .int v2), (3, .int v3)] [] h cells slots := by
  intro k
  induction k with
  | zero =>
    intro _ _ _ hE
    cases hE
  | succ k ih =>
    intro v2 v3 res hE KR K
    unfold f_X6_isUnder_L4 at hE
    refine y_iload_n dX6_isUnder_4 2 rfl ?_
    refine y_gets (n := "UNDER") (d := "[I") 2 (by decide) (fun _ _ _ _ q => q.2.2.2.1.1) (Or.inl (x_wt (tb 376 (by decide +kernel)) rfl)) dX6_isUnder_5 ?_
    refine y_tUlen dX6_isUnder_8 ?_
    refine y_icmp_ge (tgt := 38) dX6_isUnder_9 (by decide) (fun hc6 => ?_) (fun hc6 => ?_)
    · rw [if_pos hc6] at hE
      obtain rfl := Option.some.inj hE
      exact y_pick [] rfl (K _ rfl)
    · rw [if_neg hc6] at hE
      refine y_iload_n dX6_isUnder_12 1 rfl ?_
      obtain ⟨q1, eq1, hE⟩ := Option.bind_eq_some_iff.mp hE
      refine y_cSi0 (st := []) (as := [.int v2]) (c_X6_isKind eq1) lk_X6_112 st_X6_isKind ⟨Nat.le_of_ble_eq_true rfl, Nat.le_of_ble_eq_true rfl⟩ (Nat.le_of_ble_eq_true rfl) dX6_isUnder_13 hm rfl ?_
      refine y_if_eq (tgt := 38) dX6_isUnder_16 (by decide) (fun hc5 => ?_) (fun hc5 => ?_)
      · rw [if_pos hc5] at hE
        obtain rfl := Option.some.inj hE
        exact y_pick [] rfl (K _ rfl)
      · rw [if_neg hc5] at hE
        refine y_iload_n dX6_isUnder_19 1 rfl ?_
        refine y_iload_n dX6_isUnder_20 0 rfl ?_
        refine y_icmp_ne (tgt := 26) dX6_isUnder_21 (by decide) (fun hc4 => ?_) (fun hc4 => ?_)
        · rw [if_pos hc4] at hE
          refine y_iconst (v := (1 : Int32)) dX6_isUnder_24 (by decide) ?_
          obtain rfl := Option.some.inj hE
          obtain ⟨rfl, rfl⟩ := KR _ rfl
          exact y_ret dX6_isUnder_25 hm.1 hm.2 ⟨_, rfl, rfl⟩
        · rw [if_neg hc4] at hE
          refine y_gets (n := "UNDER") (d := "[I") 2 (by decide) (fun _ _ _ _ q => q.2.2.2.1.1) (Or.inl (x_wt (tb 376 (by decide +kernel)) rfl)) dX6_isUnder_26 ?_
          refine y_iload_n dX6_isUnder_29 1 rfl ?_
          obtain ⟨x2, ex2, hE⟩ := Option.bind_eq_some_iff.mp hE
          refine y_tU' ex2 dX6_isUnder_30 ?_
          refine y_istore_n (ls' := [(2, .int x2), (1, .int v1), (3, .int v3)]) dX6_isUnder_31 (by decide) rfl rfl ?_
          obtain ⟨x3, ex3, hE⟩ := Option.bind_eq_some_iff.mp hE
          refine y_iinc (ls' := [(3, .int x3), (2, .int x2), (1, .int v1)]) dX6_isUnder_32 2 rfl (Option.some.inj ex3) (by decide) rfl ?_
          refine y_goto (tgt := 4) dX6_isUnder_35 (by decide) ?_
          refine y_pick [2, 1, 0] rfl ?_
          exact ih _ _ _ hE KR K
def f_X6_isUnder (n : Nat) (h : xH) (p0 : Int32) (p1 : Int32) : Option (Int32) :=
  (f_X6_isUnder_L4 h p1 n p0 (0 : Int32)).bind fun q7 =>
  match q7 with
  | .inl r8 => some r8
  | .inr e9 =>
    some (0 : Int32)
set_option maxRecDepth 100000 in
set_option maxHeartbeats 4000000 in
theorem c_X6_isUnder {n : Nat} {h : xH} {p0 : Int32} {p1 : Int32} {r9 : Int32} (hE : f_X6_isUnder n h p0 p1 = some r9) : Ctr M_X6_isUnder [.int p0, .int p1] h (some (.int r9)) h 0 0 := by
  refine ctr_of (by decide) (fun _ _ => Nat.le_of_ble_eq_true rfl) (fun S => ?_)
  show Y S M_X6_isUnder h (some (.int r9)) h 0 0 0 [(0, .int p0), (1, .int p1)] [] h 0 0
  unfold f_X6_isUnder at hE
  refine y_iload_n dX6_isUnder_0 0 rfl ?_
  refine y_istore_n (ls' := [(2, .int p0), (0, .int p0), (1, .int p1)]) dX6_isUnder_1 (by decide) rfl rfl ?_
  refine y_iconst (v := (0 : Int32)) dX6_isUnder_2 (by decide) ?_
  refine y_istore_n (ls' := [(3, .int (0 : Int32)), (2, .int p0), (0, .int p0), (1, .int p1)]) dX6_isUnder_3 (by decide) rfl rfl ?_
  obtain ⟨q7, eq7, hE⟩ := Option.bind_eq_some_iff.mp hE
  refine y_pick [3, 1, 0] rfl ?_
  cases q7 with
  | inl r8 =>
    dsimp only at hE
    cases hE
    exact l_X6_isUnder_4 (S := S) ⟨Nat.le_refl _, Nat.le_refl _⟩ h p1 n p0 (0 : Int32) _ eq7 (fun r8 hr8 => by cases hr8; exact ⟨rfl, rfl⟩) (fun r8 hr8 => by cases hr8)
  | inr e9 =>
    dsimp only at hE
    refine l_X6_isUnder_4 (S := S) ⟨Nat.le_refl _, Nat.le_refl _⟩ h p1 n p0 (0 : Int32) _ eq7 (fun r8 hr8 => by cases hr8) (fun r8 hr8 => ?_)
    cases hr8
    refine y_iconst (v := (0 : Int32)) dX6_isUnder_38 (by decide) ?_
    obtain rfl := Option.some.inj hE
    exact y_ret dX6_isUnder_39 (Nat.le_refl _) (Nat.le_refl _) ⟨_, rfl, rfl⟩
def f_X6_saying (n : Nat) (h : xH) (a0 : Nat) (p1 : Int32) (p2 : Int32) : Option (Int32) :=
  if p2 = (1 : Int32) then
    (x_gR h a0 6 0).bind fun a1 =>
    (x_gR h a1 0 1).bind fun a2 =>
    (x_ld h a2 p1).bind fun x3 =>
    some x3
  else
  if p2 = (2 : Int32) ∨ p2 = (5 : Int32) then
    (x_gR h a0 6 0).bind fun a5 =>
    (x_ob h a5 0).bind fun u6 =>
    (f_X0_shuttable n h a5).bind fun q7 =>
    some ((i_shr q7 p1) &&& (1 : Int32))
  else
  if p2 = (3 : Int32) then
    (x_gR h a0 6 0).bind fun a9 =>
    (x_gR h a0 6 0).bind fun a10 =>
    (x_gR h a10 0 1).bind fun a11 =>
    (x_ld h a11 p1).bind fun x12 =>
    (x_ob h a9 0).bind fun u13 =>
    (f_X0_someoneIn n h a9 x12).bind fun q14 =>
    if q14 = 0 then
      some (0 : Int32)
    else
      some (1 : Int32)
  else
  if p2 = (4 : Int32) then
    (x_gR h a0 6 0).bind fun a17 =>
    (x_gR h a0 6 0).bind fun a18 =>
    (x_gR h a18 0 2).bind fun a19 =>
    (x_ld h a19 p1).bind fun x20 =>
    (x_ob h a17 0).bind fun u21 =>
    (f_X0_someoneIn n h a17 x20).bind fun q22 =>
    if q22 = 0 then
      some (0 : Int32)
    else
      some (1 : Int32)
  else
  (x_gR h a0 6 0).bind fun a25 =>
  (x_ob h a25 0).bind fun u26 =>
  (f_X0_weightOf h a25 p1).bind fun q27 =>
  some q27
set_option maxRecDepth 100000 in
set_option maxHeartbeats 4000000 in
theorem c_X6_saying {n : Nat} {h : xH} {a0 : Nat} {p1 : Int32} {p2 : Int32} {r9 : Int32} (hE : f_X6_saying n h a0 p1 p2 = some r9) : Ctr M_X6_saying [.ref a0, .int p1, .int p2] h (some (.int r9)) h 0 0 := by
  refine ctr_of (by decide) (fun _ _ => Nat.le_of_ble_eq_true rfl) (fun S => ?_)
  show Y S M_X6_saying h (some (.int r9)) h 0 0 0 [(0, .ref a0), (1, .int p1), (2, .int p2)] [] h 0 0
  unfold f_X6_saying at hE
  refine y_iload_n dX6_saying_0 2 rfl ?_
  by_cases hc4 : p2 = (1 : Int32)
  · rw [if_pos hc4] at hE
    have hk := hc4
    refine y_tabIn (tgt := 36) dX6_saying_1 (by rw [hk]; decide) (by rw [hk]; decide) (by rw [hk]; rfl) (by decide) ?_
    refine y_aload_n dX6_saying_36 0 rfl ?_
    obtain ⟨a1, ea1, hE⟩ := Option.bind_eq_some_iff.mp hE
    refine y_getR fl_X6_10 ea1 dX6_saying_37 ?_
    obtain ⟨a2, ea2, hE⟩ := Option.bind_eq_some_iff.mp hE
    refine y_getR fl_X6_177 ea2 dX6_saying_40 ?_
    refine y_iload_n dX6_saying_43 1 rfl ?_
    obtain ⟨x3, ex3, hE⟩ := Option.bind_eq_some_iff.mp hE
    refine y_iald ex3 dX6_saying_44 ?_
    obtain rfl := Option.some.inj hE
    exact y_ret dX6_saying_45 (Nat.le_refl _) (Nat.le_refl _) ⟨_, rfl, rfl⟩
  · rw [if_neg hc4] at hE
    by_cases hc8 : p2 = (2 : Int32) ∨ p2 = (5 : Int32)
    · rw [if_pos hc8] at hE
      have hT : Y S M_X6_saying h (some (.int r9)) h 0 0 46 [(0, .ref a0), (1, .int p1), (2, .int p2)] [] h 0 0 := by
        refine y_aload_n dX6_saying_46 0 rfl ?_
        obtain ⟨a5, ea5, hE⟩ := Option.bind_eq_some_iff.mp hE
        refine y_getR fl_X6_10 ea5 dX6_saying_47 ?_
        obtain ⟨u6, eu6, hE⟩ := Option.bind_eq_some_iff.mp hE
        obtain ⟨q7, eq7, hE⟩ := Option.bind_eq_some_iff.mp hE
        refine y_cVi0 (st := []) (as := []) (c_X0_shuttable eq7) lk_X6_189 in_X0_shuttable se_X0_shuttable rfl eu6 ⟨Nat.le_of_ble_eq_true rfl, Nat.le_of_ble_eq_true rfl⟩ (Nat.le_of_ble_eq_true rfl) dX6_saying_50 ⟨Nat.le_refl _, Nat.le_refl _⟩ rfl ?_
        refine y_iload_n dX6_saying_53 1 rfl ?_
        refine y_ishr dX6_saying_54 ?_
        refine y_iconst (v := (1 : Int32)) dX6_saying_55 (by decide) ?_
        refine y_iand dX6_saying_56 ?_
        obtain rfl := Option.some.inj hE
        exact y_ret dX6_saying_57 (Nat.le_refl _) (Nat.le_refl _) ⟨_, rfl, rfl⟩
      rcases hc8 with hk | hk
      · exact y_tabIn (tgt := 46) dX6_saying_1 (by rw [hk]; decide) (by rw [hk]; decide) (by rw [hk]; rfl) (by decide) hT
      · exact y_tabIn (tgt := 46) dX6_saying_1 (by rw [hk]; decide) (by rw [hk]; decide) (by rw [hk]; rfl) (by decide) hT
    · rw [if_neg hc8] at hE
      by_cases hc16 : p2 = (3 : Int32)
      · rw [if_pos hc16] at hE
        have hk := hc16
        refine y_tabIn (tgt := 58) dX6_saying_1 (by rw [hk]; decide) (by rw [hk]; decide) (by rw [hk]; rfl) (by decide) ?_
        refine y_aload_n dX6_saying_58 0 rfl ?_
        obtain ⟨a9, ea9, hE⟩ := Option.bind_eq_some_iff.mp hE
        refine y_getR fl_X6_10 ea9 dX6_saying_59 ?_
        refine y_aload_n dX6_saying_62 0 rfl ?_
        obtain ⟨a10, ea10, hE⟩ := Option.bind_eq_some_iff.mp hE
        refine y_getR fl_X6_10 ea10 dX6_saying_63 ?_
        obtain ⟨a11, ea11, hE⟩ := Option.bind_eq_some_iff.mp hE
        refine y_getR fl_X6_177 ea11 dX6_saying_66 ?_
        refine y_iload_n dX6_saying_69 1 rfl ?_
        obtain ⟨x12, ex12, hE⟩ := Option.bind_eq_some_iff.mp hE
        refine y_iald ex12 dX6_saying_70 ?_
        obtain ⟨u13, eu13, hE⟩ := Option.bind_eq_some_iff.mp hE
        obtain ⟨q14, eq14, hE⟩ := Option.bind_eq_some_iff.mp hE
        refine y_cVi0 (st := []) (as := [.int x12]) (c_X0_someoneIn eq14) lk_X6_286 in_X0_someoneIn se_X0_someoneIn rfl eu13 ⟨Nat.le_of_ble_eq_true rfl, Nat.le_of_ble_eq_true rfl⟩ (Nat.le_of_ble_eq_true rfl) dX6_saying_71 ⟨Nat.le_refl _, Nat.le_refl _⟩ rfl ?_
        refine y_if_eq (tgt := 81) dX6_saying_74 (by decide) (fun hc15 => ?_) (fun hc15 => ?_)
        · rw [if_pos hc15] at hE
          refine y_iconst (v := (0 : Int32)) dX6_saying_81 (by decide) ?_
          obtain rfl := Option.some.inj hE
          exact y_ret dX6_saying_82 (Nat.le_refl _) (Nat.le_refl _) ⟨_, rfl, rfl⟩
        · rw [if_neg hc15] at hE
          refine y_iconst (v := (1 : Int32)) dX6_saying_77 (by decide) ?_
          refine y_goto (tgt := 82) dX6_saying_78 (by decide) ?_
          obtain rfl := Option.some.inj hE
          exact y_ret dX6_saying_82 (Nat.le_refl _) (Nat.le_refl _) ⟨_, rfl, rfl⟩
      · rw [if_neg hc16] at hE
        by_cases hc24 : p2 = (4 : Int32)
        · rw [if_pos hc24] at hE
          have hk := hc24
          refine y_tabIn (tgt := 83) dX6_saying_1 (by rw [hk]; decide) (by rw [hk]; decide) (by rw [hk]; rfl) (by decide) ?_
          refine y_aload_n dX6_saying_83 0 rfl ?_
          obtain ⟨a17, ea17, hE⟩ := Option.bind_eq_some_iff.mp hE
          refine y_getR fl_X6_10 ea17 dX6_saying_84 ?_
          refine y_aload_n dX6_saying_87 0 rfl ?_
          obtain ⟨a18, ea18, hE⟩ := Option.bind_eq_some_iff.mp hE
          refine y_getR fl_X6_10 ea18 dX6_saying_88 ?_
          obtain ⟨a19, ea19, hE⟩ := Option.bind_eq_some_iff.mp hE
          refine y_getR fl_X6_180 ea19 dX6_saying_91 ?_
          refine y_iload_n dX6_saying_94 1 rfl ?_
          obtain ⟨x20, ex20, hE⟩ := Option.bind_eq_some_iff.mp hE
          refine y_iald ex20 dX6_saying_95 ?_
          obtain ⟨u21, eu21, hE⟩ := Option.bind_eq_some_iff.mp hE
          obtain ⟨q22, eq22, hE⟩ := Option.bind_eq_some_iff.mp hE
          refine y_cVi0 (st := []) (as := [.int x20]) (c_X0_someoneIn eq22) lk_X6_286 in_X0_someoneIn se_X0_someoneIn rfl eu21 ⟨Nat.le_of_ble_eq_true rfl, Nat.le_of_ble_eq_true rfl⟩ (Nat.le_of_ble_eq_true rfl) dX6_saying_96 ⟨Nat.le_refl _, Nat.le_refl _⟩ rfl ?_
          refine y_if_eq (tgt := 106) dX6_saying_99 (by decide) (fun hc23 => ?_) (fun hc23 => ?_)
          · rw [if_pos hc23] at hE
            refine y_iconst (v := (0 : Int32)) dX6_saying_106 (by decide) ?_
            obtain rfl := Option.some.inj hE
            exact y_ret dX6_saying_107 (Nat.le_refl _) (Nat.le_refl _) ⟨_, rfl, rfl⟩
          · rw [if_neg hc23] at hE
            refine y_iconst (v := (1 : Int32)) dX6_saying_102 (by decide) ?_
            refine y_goto (tgt := 107) dX6_saying_103 (by decide) ?_
            obtain rfl := Option.some.inj hE
            exact y_ret dX6_saying_107 (Nat.le_refl _) (Nat.le_refl _) ⟨_, rfl, rfl⟩
        · rw [if_neg hc24] at hE
          have hO : (p2).toInt < 1 ∨ 5 < (p2).toInt := by
            refine x_tabo (by decide) (by decide) (fun j g1 g2 => ?_)
            rcases (show j = 1 ∨ j = 2 ∨ j = 3 ∨ j = 4 ∨ j = 5 by omega) with rfl | rfl | rfl | rfl | rfl
            · exact hc4
            · exact fun q => hc8 (by simp [q])
            · exact hc16
            · exact hc24
            · exact fun q => hc8 (by simp [q])
          refine y_tabOut (tgt := 108) dX6_saying_1 hO (by decide) ?_
          refine y_aload_n dX6_saying_108 0 rfl ?_
          obtain ⟨a25, ea25, hE⟩ := Option.bind_eq_some_iff.mp hE
          refine y_getR fl_X6_10 ea25 dX6_saying_109 ?_
          refine y_iload_n dX6_saying_112 1 rfl ?_
          obtain ⟨u26, eu26, hE⟩ := Option.bind_eq_some_iff.mp hE
          obtain ⟨q27, eq27, hE⟩ := Option.bind_eq_some_iff.mp hE
          refine y_cVi0 (st := []) (as := [.int p1]) (c_X0_weightOf eq27) lk_X6_183 in_X0_weightOf se_X0_weightOf rfl eu26 ⟨Nat.le_of_ble_eq_true rfl, Nat.le_of_ble_eq_true rfl⟩ (Nat.le_of_ble_eq_true rfl) dX6_saying_113 ⟨Nat.le_refl _, Nat.le_refl _⟩ rfl ?_
          obtain rfl := Option.some.inj hE
          exact y_ret dX6_saying_116 (Nat.le_refl _) (Nat.le_refl _) ⟨_, rfl, rfl⟩
