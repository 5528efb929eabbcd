theorem dX4_takeDoor_0 : decode cX4_takeDoor 0 = .ok (.aload_n 0, 1) := by decide +kernel
theorem dX4_takeDoor_1 : decode cX4_takeDoor 1 = .ok (.bipush 10, 2) := by decide +kernel
theorem dX4_takeDoor_3 : decode cX4_takeDoor 3 = .ok (.iload_n 1, 1) := by decide +kernel
theorem dX4_takeDoor_4 : decode cX4_takeDoor 4 = .ok (.iadd, 1) := by decide +kernel
theorem dX4_takeDoor_5 : decode cX4_takeDoor 5 = .ok (.putfield 9, 3) := by decide +kernel
theorem dX4_takeDoor_8 : decode cX4_takeDoor 8 = .ok (.aload_n 0, 1) := by decide +kernel
theorem dX4_takeDoor_9 : decode cX4_takeDoor 9 = .ok (.iconst 0, 1) := by decide +kernel
theorem dX4_takeDoor_10 : decode cX4_takeDoor 10 = .ok (.putfield 19, 3) := by decide +kernel
theorem dX4_takeDoor_13 : decode cX4_takeDoor 13 = .ok (.return_, 1) := by decide +kernel
theorem dX4_takeRow_0 : decode cX4_takeRow 0 = .ok (.aload_n 0, 1) := by decide +kernel
theorem dX4_takeRow_1 : decode cX4_takeRow 1 = .ok (.iload_n 1, 1) := by decide +kernel
theorem dX4_takeRow_2 : decode cX4_takeRow 2 = .ok (.putfield 9, 3) := by decide +kernel
theorem dX4_takeRow_5 : decode cX4_takeRow 5 = .ok (.aload_n 0, 1) := by decide +kernel
theorem dX4_takeRow_6 : decode cX4_takeRow 6 = .ok (.iload_n 2, 1) := by decide +kernel
theorem dX4_takeRow_7 : decode cX4_takeRow 7 = .ok (.putfield 19, 3) := by decide +kernel
theorem dX4_takeRow_10 : decode cX4_takeRow 10 = .ok (.iconst 0, 1) := by decide +kernel
theorem dX4_takeRow_11 : decode cX4_takeRow 11 = .ok (.istore_n 3, 1) := by decide +kernel
theorem dX4_takeRow_12 : decode cX4_takeRow 12 = .ok (.iload_n 3, 1) := by decide +kernel
theorem dX4_takeRow_13 : decode cX4_takeRow 13 = .ok (.bipush 40, 2) := by decide +kernel
theorem dX4_takeRow_15 : decode cX4_takeRow 15 = .ok (.if_icmp .ge 16, 3) := by decide +kernel
theorem dX4_takeRow_18 : decode cX4_takeRow 18 = .ok (.aload_n 0, 1) := by decide +kernel
theorem dX4_takeRow_19 : decode cX4_takeRow 19 = .ok (.getfield 15, 3) := by decide +kernel
theorem dX4_takeRow_22 : decode cX4_takeRow 22 = .ok (.iload_n 3, 1) := by decide +kernel
theorem dX4_takeRow_23 : decode cX4_takeRow 23 = .ok (.lconst 0, 1) := by decide +kernel
theorem dX4_takeRow_24 : decode cX4_takeRow 24 = .ok (.lastore, 1) := by decide +kernel
theorem dX4_takeRow_25 : decode cX4_takeRow 25 = .ok (.iinc 3 1, 3) := by decide +kernel
theorem dX4_takeRow_28 : decode cX4_takeRow 28 = .ok (.goto (-16), 3) := by decide +kernel
theorem dX4_takeRow_31 : decode cX4_takeRow 31 = .ok (.return_, 1) := by decide +kernel
theorem dX4_hasElement_0 : decode cX4_hasElement 0 = .ok (.iload_n 1, 1) := by decide +kernel
theorem dX4_hasElement_1 : decode cX4_hasElement 1 = .ok (.ifCond .lt 15, 3) := by decide +kernel
theorem dX4_hasElement_4 : decode cX4_hasElement 4 = .ok (.iload_n 1, 1) := by decide +kernel
theorem dX4_hasElement_5 : decode cX4_hasElement 5 = .ok (.aload_n 0, 1) := by decide +kernel
theorem dX4_hasElement_6 : decode cX4_hasElement 6 = .ok (.getfield 19, 3) := by decide +kernel
theorem dX4_hasElement_9 : decode cX4_hasElement 9 = .ok (.if_icmp .ge 7, 3) := by decide +kernel
theorem dX4_hasElement_12 : decode cX4_hasElement 12 = .ok (.iconst 1, 1) := by decide +kernel
theorem dX4_hasElement_13 : decode cX4_hasElement 13 = .ok (.goto 4, 3) := by decide +kernel
theorem dX4_hasElement_16 : decode cX4_hasElement 16 = .ok (.iconst 0, 1) := by decide +kernel
theorem dX4_hasElement_17 : decode cX4_hasElement 17 = .ok (.ireturn, 1) := by decide +kernel
theorem dX4_hasStretch_0 : decode cX4_hasStretch 0 = .ok (.iload_n 1, 1) := by decide +kernel
theorem dX4_hasStretch_1 : decode cX4_hasStretch 1 = .ok (.ifCond .lt 29, 3) := by decide +kernel
theorem dX4_hasStretch_4 : decode cX4_hasStretch 4 = .ok (.iload_n 2, 1) := by decide +kernel
theorem dX4_hasStretch_5 : decode cX4_hasStretch 5 = .ok (.ifCond .lt 25, 3) := by decide +kernel
theorem dX4_hasStretch_8 : decode cX4_hasStretch 8 = .ok (.iload_n 2, 1) := by decide +kernel
theorem dX4_hasStretch_9 : decode cX4_hasStretch 9 = .ok (.aload_n 0, 1) := by decide +kernel
theorem dX4_hasStretch_10 : decode cX4_hasStretch 10 = .ok (.getfield 19, 3) := by decide +kernel
theorem dX4_hasStretch_13 : decode cX4_hasStretch 13 = .ok (.if_icmp .gt 17, 3) := by decide +kernel
theorem dX4_hasStretch_16 : decode cX4_hasStretch 16 = .ok (.iload_n 1, 1) := by decide +kernel
theorem dX4_hasStretch_17 : decode cX4_hasStretch 17 = .ok (.aload_n 0, 1) := by decide +kernel
theorem dX4_hasStretch_18 : decode cX4_hasStretch 18 = .ok (.getfield 19, 3) := by decide +kernel
theorem dX4_hasStretch_21 : decode cX4_hasStretch 21 = .ok (.iload_n 2, 1) := by decide +kernel
theorem dX4_hasStretch_22 : decode cX4_hasStretch 22 = .ok (.isub, 1) := by decide +kernel
theorem dX4_hasStretch_23 : decode cX4_hasStretch 23 = .ok (.if_icmp .gt 7, 3) := by decide +kernel
theorem dX4_hasStretch_26 : decode cX4_hasStretch 26 = .ok (.iconst 1, 1) := by decide +kernel
theorem dX4_hasStretch_27 : decode cX4_hasStretch 27 = .ok (.goto 4, 3) := by decide +kernel
theorem dX4_hasStretch_30 : decode cX4_hasStretch 30 = .ok (.iconst 0, 1) := by decide +kernel
theorem dX4_hasStretch_31 : decode cX4_hasStretch 31 = .ok (.ireturn, 1) := by decide +kernel
theorem dX4_narrow_0 : decode cX4_narrow 0 = .ok (.aload_n 0, 1) := by decide +kernel
theorem dX4_narrow_1 : decode cX4_narrow 1 = .ok (.getfield 9, 3) := by decide +kernel
theorem dX4_narrow_4 : decode cX4_narrow 4 = .ok (.tableswitch 62 0 4 #[36, 41, 46, 62, 50], 36) := by decide +kernel
theorem dX4_narrow_40 : decode cX4_narrow 40 = .ok (.lload_n 1, 1) := by decide +kernel
theorem dX4_narrow_41 : decode cX4_narrow 41 = .ok (.l2i, 1) := by decide +kernel
theorem dX4_narrow_42 : decode cX4_narrow 42 = .ok (.i2b, 1) := by decide +kernel
theorem dX4_narrow_43 : decode cX4_narrow 43 = .ok (.i2l, 1) := by decide +kernel
theorem dX4_narrow_44 : decode cX4_narrow 44 = .ok (.lreturn, 1) := by decide +kernel
theorem dX4_narrow_45 : decode cX4_narrow 45 = .ok (.lload_n 1, 1) := by decide +kernel
theorem dX4_narrow_46 : decode cX4_narrow 46 = .ok (.l2i, 1) := by decide +kernel
theorem dX4_narrow_47 : decode cX4_narrow 47 = .ok (.i2s, 1) := by decide +kernel
theorem dX4_narrow_48 : decode cX4_narrow 48 = .ok (.i2l, 1) := by decide +kernel
theorem dX4_narrow_49 : decode cX4_narrow 49 = .ok (.lreturn, 1) := by decide +kernel
theorem dX4_narrow_50 : decode cX4_narrow 50 = .ok (.lload_n 1, 1) := by decide +kernel
theorem dX4_narrow_51 : decode cX4_narrow 51 = .ok (.l2i, 1) := by decide +kernel
theorem dX4_narrow_52 : decode cX4_narrow 52 = .ok (.i2l, 1) := by decide +kernel
theorem dX4_narrow_53 : decode cX4_narrow 53 = .ok (.lreturn, 1) := by decide +kernel
theorem dX4_narrow_54 : decode cX4_narrow 54 = .ok (.lload_n 1, 1) := by decide +kernel
theorem dX4_narrow_55 : decode cX4_narrow 55 = .ok (.lconst 0, 1) := by decide +kernel
theorem dX4_narrow_56 : decode cX4_narrow 56 = .ok (.lcmp, 1) := by decide +kernel
theorem dX4_narrow_57 : decode cX4_narrow 57 = .ok (.ifCond .eq 7, 3) := by decide +kernel
theorem dX4_narrow_60 : decode cX4_narrow 60 = .ok (.lconst 1, 1) := by decide +kernel
theorem dX4_narrow_61 : decode cX4_narrow 61 = .ok (.goto 4, 3) := by decide +kernel
theorem dX4_narrow_64 : decode cX4_narrow 64 = .ok (.lconst 0, 1) := by decide +kernel
theorem dX4_narrow_65 : decode cX4_narrow 65 = .ok (.lreturn, 1) := by decide +kernel
theorem dX4_narrow_66 : decode cX4_narrow 66 = .ok (.lload_n 1, 1) := by decide +kernel
theorem dX4_narrow_67 : decode cX4_narrow 67 = .ok (.lreturn, 1) := by decide +kernel
theorem dX4_put_0 : decode cX4_put 0 = .ok (.aload_n 0, 1) := by decide +kernel
theorem dX4_put_1 : decode cX4_put 1 = .ok (.getfield 15, 3) := by decide +kernel
theorem dX4_put_4 : decode cX4_put 4 = .ok (.iload_n 1, 1) := by decide +kernel
theorem dX4_put_5 : decode cX4_put 5 = .ok (.aload_n 0, 1) := by decide +kernel
theorem dX4_put_6 : decode cX4_put 6 = .ok (.lload_n 2, 1) := by decide +kernel
theorem dX4_put_7 : decode cX4_put 7 = .ok (.invokevirtual 22, 3) := by decide +kernel
theorem dX4_put_10 : decode cX4_put 10 = .ok (.lastore, 1) := by decide +kernel
theorem dX4_put_11 : decode cX4_put 11 = .ok (.return_, 1) := by decide +kernel
theorem dX5_init_0 : decode cX5_init 0 = .ok (.aload_n 0, 1) := by decide +kernel
theorem dX5_init_1 : decode cX5_init 1 = .ok (.invokespecial 3, 3) := by decide +kernel
theorem dX5_init_4 : decode cX5_init 4 = .ok (.aload_n 0, 1) := by decide +kernel
theorem dX5_init_5 : decode cX5_init 5 = .ok (.sipush 250, 3) := by decide +kernel
theorem dX5_init_8 : decode cX5_init 8 = .ok (.newarray .int, 2) := by decide +kernel
theorem dX5_init_10 : decode cX5_init 10 = .ok (.putfield 9, 3) := by decide +kernel
theorem dX5_init_13 : decode cX5_init 13 = .ok (.return_, 1) := by decide +kernel
theorem dX5_append_0 : decode cX5_append 0 = .ok (.iload_n 2, 1) := by decide +kernel
theorem dX5_append_1 : decode cX5_append 1 = .ok (.iconst 1, 1) := by decide +kernel
theorem dX5_append_2 : decode cX5_append 2 = .ok (.isub, 1) := by decide +kernel
theorem dX5_append_3 : decode cX5_append 3 = .ok (.istore_n 3, 1) := by decide +kernel
theorem dX5_append_4 : decode cX5_append 4 = .ok (.iload_n 3, 1) := by decide +kernel
theorem dX5_append_5 : decode cX5_append 5 = .ok (.ifCond .lt 48, 3) := by decide +kernel
theorem dX5_append_8 : decode cX5_append 8 = .ok (.aload_n 0, 1) := by decide +kernel
theorem dX5_append_9 : decode cX5_append 9 = .ok (.getfield 15, 3) := by decide +kernel
theorem dX5_append_12 : decode cX5_append 12 = .ok (.sipush 250, 3) := by decide +kernel
theorem dX5_append_15 : decode cX5_append 15 = .ok (.if_icmp .ge 38, 3) := by decide +kernel
theorem dX5_append_18 : decode cX5_append 18 = .ok (.aload_n 0, 1) := by decide +kernel
theorem dX5_append_19 : decode cX5_append 19 = .ok (.getfield 9, 3) := by decide +kernel
theorem dX5_append_22 : decode cX5_append 22 = .ok (.aload_n 0, 1) := by decide +kernel
theorem dX5_append_23 : decode cX5_append 23 = .ok (.getfield 15, 3) := by decide +kernel
theorem dX5_append_26 : decode cX5_append 26 = .ok (.iload_n 1, 1) := by decide +kernel
theorem dX5_append_27 : decode cX5_append 27 = .ok (.bipush 8, 2) := by decide +kernel
theorem dX5_append_29 : decode cX5_append 29 = .ok (.iload_n 3, 1) := by decide +kernel
theorem dX5_append_30 : decode cX5_append 30 = .ok (.imul, 1) := by decide +kernel
theorem dX5_append_31 : decode cX5_append 31 = .ok (.iushr, 1) := by decide +kernel
theorem dX5_append_32 : decode cX5_append 32 = .ok (.sipush 255, 3) := by decide +kernel
theorem dX5_append_35 : decode cX5_append 35 = .ok (.iand, 1) := by decide +kernel
theorem dX5_append_36 : decode cX5_append 36 = .ok (.iastore, 1) := by decide +kernel
theorem dX5_append_37 : decode cX5_append 37 = .ok (.aload_n 0, 1) := by decide +kernel
theorem dX5_append_38 : decode cX5_append 38 = .ok (.dup, 1) := by decide +kernel
theorem dX5_append_39 : decode cX5_append 39 = .ok (.getfield 15, 3) := by decide +kernel
theorem dX5_append_42 : decode cX5_append 42 = .ok (.iconst 1, 1) := by decide +kernel
theorem dX5_append_43 : decode cX5_append 43 = .ok (.iadd, 1) := by decide +kernel
theorem dX5_append_44 : decode cX5_append 44 = .ok (.putfield 15, 3) := by decide +kernel
theorem dX5_append_47 : decode cX5_append 47 = .ok (.iinc 3 (-1), 3) := by decide +kernel
theorem dX5_append_50 : decode cX5_append 50 = .ok (.goto (-46), 3) := by decide +kernel
theorem dX5_append_53 : decode cX5_append 53 = .ok (.return_, 1) := by decide +kernel
theorem dX5_sortAt_0 : decode cX5_sortAt 0 = .ok (.iload_n 1, 1) := by decide +kernel
theorem dX5_sortAt_1 : decode cX5_sortAt 1 = .ok (.aload_n 0, 1) := by decide +kernel
theorem dX5_sortAt_2 : decode cX5_sortAt 2 = .ok (.getfield 15, 3) := by decide +kernel
theorem dX5_sortAt_5 : decode cX5_sortAt 5 = .ok (.if_icmp .lt 5, 3) := by decide +kernel
theorem dX5_sortAt_8 : decode cX5_sortAt 8 = .ok (.iconst 0, 1) := by decide +kernel
theorem dX5_sortAt_9 : decode cX5_sortAt 9 = .ok (.ireturn, 1) := by decide +kernel
theorem dX5_sortAt_10 : decode cX5_sortAt 10 = .ok (.aload_n 0, 1) := by decide +kernel
theorem dX5_sortAt_11 : decode cX5_sortAt 11 = .ok (.getfield 9, 3) := by decide +kernel
theorem dX5_sortAt_14 : decode cX5_sortAt 14 = .ok (.iload_n 1, 1) := by decide +kernel
theorem dX5_sortAt_15 : decode cX5_sortAt 15 = .ok (.iaload, 1) := by decide +kernel
theorem dX5_sortAt_16 : decode cX5_sortAt 16 = .ok (.istore_n 2, 1) := by decide +kernel
theorem dX5_sortAt_17 : decode cX5_sortAt 17 = .ok (.iload_n 2, 1) := by decide +kernel
theorem dX5_sortAt_18 : decode cX5_sortAt 18 = .ok (.bipush 97, 2) := by decide +kernel
theorem dX5_sortAt_20 : decode cX5_sortAt 20 = .ok (.if_icmp .lt 11, 3) := by decide +kernel
theorem dX5_sortAt_23 : decode cX5_sortAt 23 = .ok (.iload_n 2, 1) := by decide +kernel
theorem dX5_sortAt_24 : decode cX5_sortAt 24 = .ok (.bipush 122, 2) := by decide +kernel
theorem dX5_sortAt_26 : decode cX5_sortAt 26 = .ok (.if_icmp .gt 5, 3) := by decide +kernel
theorem dX5_sortAt_29 : decode cX5_sortAt 29 = .ok (.iconst 1, 1) := by decide +kernel
theorem dX5_sortAt_30 : decode cX5_sortAt 30 = .ok (.ireturn, 1) := by decide +kernel
theorem dX5_sortAt_31 : decode cX5_sortAt 31 = .ok (.iload_n 2, 1) := by decide +kernel
theorem dX5_sortAt_32 : decode cX5_sortAt 32 = .ok (.bipush 48, 2) := by decide +kernel
theorem dX5_sortAt_34 : decode cX5_sortAt 34 = .ok (.if_icmp .lt 11, 3) := by decide +kernel
theorem dX5_sortAt_37 : decode cX5_sortAt 37 = .ok (.iload_n 2, 1) := by decide +kernel
theorem dX5_sortAt_38 : decode cX5_sortAt 38 = .ok (.bipush 57, 2) := by decide +kernel
theorem dX5_sortAt_40 : decode cX5_sortAt 40 = .ok (.if_icmp .gt 5, 3) := by decide +kernel
theorem dX5_sortAt_43 : decode cX5_sortAt 43 = .ok (.iconst 2, 1) := by decide +kernel
theorem dX5_sortAt_44 : decode cX5_sortAt 44 = .ok (.ireturn, 1) := by decide +kernel
theorem dX5_sortAt_45 : decode cX5_sortAt 45 = .ok (.iload_n 2, 1) := by decide +kernel
theorem dX5_sortAt_46 : decode cX5_sortAt 46 = .ok (.bipush 59, 2) := by decide +kernel
theorem dX5_sortAt_48 : decode cX5_sortAt 48 = .ok (.if_icmp .ne 7, 3) := by decide +kernel
theorem dX5_sortAt_51 : decode cX5_sortAt 51 = .ok (.iconst 3, 1) := by decide +kernel
theorem dX5_sortAt_52 : decode cX5_sortAt 52 = .ok (.goto 4, 3) := by decide +kernel
theorem dX5_sortAt_55 : decode cX5_sortAt 55 = .ok (.iconst 4, 1) := by decide +kernel
theorem dX5_sortAt_56 : decode cX5_sortAt 56 = .ok (.ireturn, 1) := by decide +kernel
theorem dX5_nextToken_0 : decode cX5_nextToken 0 = .ok (.aload_n 0, 1) := by decide +kernel
theorem dX5_nextToken_1 : decode cX5_nextToken 1 = .ok (.aload_n 0, 1) := by decide +kernel
theorem dX5_nextToken_2 : decode cX5_nextToken 2 = .ok (.getfield 19, 3) := by decide +kernel
theorem dX5_nextToken_5 : decode cX5_nextToken 5 = .ok (.putfield 29, 3) := by decide +kernel
theorem dX5_nextToken_8 : decode cX5_nextToken 8 = .ok (.aload_n 0, 1) := by decide +kernel
theorem dX5_nextToken_9 : decode cX5_nextToken 9 = .ok (.getfield 29, 3) := by decide +kernel
theorem dX5_nextToken_12 : decode cX5_nextToken 12 = .ok (.aload_n 0, 1) := by decide +kernel
theorem dX5_nextToken_13 : decode cX5_nextToken 13 = .ok (.getfield 15, 3) := by decide +kernel
theorem dX5_nextToken_16 : decode cX5_nextToken 16 = .ok (.if_icmp .ge 30, 3) := by decide +kernel
theorem dX5_nextToken_19 : decode cX5_nextToken 19 = .ok (.aload_n 0, 1) := by decide +kernel
theorem dX5_nextToken_20 : decode cX5_nextToken 20 = .ok (.getfield 9, 3) := by decide +kernel
theorem dX5_nextToken_23 : decode cX5_nextToken 23 = .ok (.aload_n 0, 1) := by decide +kernel
theorem dX5_nextToken_24 : decode cX5_nextToken 24 = .ok (.getfield 29, 3) := by decide +kernel
theorem dX5_nextToken_27 : decode cX5_nextToken 27 = .ok (.iaload, 1) := by decide +kernel
theorem dX5_nextToken_28 : decode cX5_nextToken 28 = .ok (.bipush 32, 2) := by decide +kernel
theorem dX5_nextToken_30 : decode cX5_nextToken 30 = .ok (.if_icmp .ne 16, 3) := by decide +kernel
theorem dX5_nextToken_33 : decode cX5_nextToken 33 = .ok (.aload_n 0, 1) := by decide +kernel
theorem dX5_nextToken_34 : decode cX5_nextToken 34 = .ok (.dup, 1) := by decide +kernel
theorem dX5_nextToken_35 : decode cX5_nextToken 35 = .ok (.getfield 29, 3) := by decide +kernel
theorem dX5_nextToken_38 : decode cX5_nextToken 38 = .ok (.iconst 1, 1) := by decide +kernel
theorem dX5_nextToken_39 : decode cX5_nextToken 39 = .ok (.iadd, 1) := by decide +kernel
theorem dX5_nextToken_40 : decode cX5_nextToken 40 = .ok (.putfield 29, 3) := by decide +kernel
theorem dX5_nextToken_43 : decode cX5_nextToken 43 = .ok (.goto (-35), 3) := by decide +kernel
theorem dX5_nextToken_46 : decode cX5_nextToken 46 = .ok (.aload_n 0, 1) := by decide +kernel
theorem dX5_nextToken_47 : decode cX5_nextToken 47 = .ok (.aload_n 0, 1) := by decide +kernel
theorem dX5_nextToken_48 : decode cX5_nextToken 48 = .ok (.aload_n 0, 1) := by decide +kernel
theorem dX5_nextToken_49 : decode cX5_nextToken 49 = .ok (.getfield 29, 3) := by decide +kernel
theorem dX5_nextToken_52 : decode cX5_nextToken 52 = .ok (.invokevirtual 35, 3) := by decide +kernel
theorem dX5_nextToken_55 : decode cX5_nextToken 55 = .ok (.putfield 32, 3) := by decide +kernel
theorem dX5_nextToken_58 : decode cX5_nextToken 58 = .ok (.aload_n 0, 1) := by decide +kernel
theorem dX5_nextToken_59 : decode cX5_nextToken 59 = .ok (.aload_n 0, 1) := by decide +kernel
theorem dX5_nextToken_60 : decode cX5_nextToken 60 = .ok (.getfield 32, 3) := by decide +kernel
theorem dX5_nextToken_63 : decode cX5_nextToken 63 = .ok (.ifCond .ne 10, 3) := by decide +kernel
theorem dX5_nextToken_66 : decode cX5_nextToken 66 = .ok (.aload_n 0, 1) := by decide +kernel
theorem dX5_nextToken_67 : decode cX5_nextToken 67 = .ok (.getfield 29, 3) := by decide +kernel
theorem dX5_nextToken_70 : decode cX5_nextToken 70 = .ok (.goto 9, 3) := by decide +kernel
theorem dX5_nextToken_73 : decode cX5_nextToken 73 = .ok (.aload_n 0, 1) := by decide +kernel
theorem dX5_nextToken_74 : decode cX5_nextToken 74 = .ok (.getfield 29, 3) := by decide +kernel
theorem dX5_nextToken_77 : decode cX5_nextToken 77 = .ok (.iconst 1, 1) := by decide +kernel
theorem dX5_nextToken_78 : decode cX5_nextToken 78 = .ok (.iadd, 1) := by decide +kernel
theorem dX5_nextToken_79 : decode cX5_nextToken 79 = .ok (.putfield 19, 3) := by decide +kernel
theorem dX5_nextToken_82 : decode cX5_nextToken 82 = .ok (.aload_n 0, 1) := by decide +kernel
theorem dX5_nextToken_83 : decode cX5_nextToken 83 = .ok (.getfield 32, 3) := by decide +kernel
theorem dX5_nextToken_86 : decode cX5_nextToken 86 = .ok (.iconst 1, 1) := by decide +kernel
theorem dX5_nextToken_87 : decode cX5_nextToken 87 = .ok (.if_icmp .eq 11, 3) := by decide +kernel
theorem dX5_nextToken_90 : decode cX5_nextToken 90 = .ok (.aload_n 0, 1) := by decide +kernel
theorem dX5_nextToken_91 : decode cX5_nextToken 91 = .ok (.getfield 32, 3) := by decide +kernel
theorem dX5_nextToken_94 : decode cX5_nextToken 94 = .ok (.iconst 2, 1) := by decide +kernel
theorem dX5_nextToken_95 : decode cX5_nextToken 95 = .ok (.if_icmp .ne 42, 3) := by decide +kernel
theorem dX5_nextToken_98 : decode cX5_nextToken 98 = .ok (.aload_n 0, 1) := by decide +kernel
theorem dX5_nextToken_99 : decode cX5_nextToken 99 = .ok (.getfield 19, 3) := by decide +kernel
theorem dX5_nextToken_102 : decode cX5_nextToken 102 = .ok (.aload_n 0, 1) := by decide +kernel
theorem dX5_nextToken_103 : decode cX5_nextToken 103 = .ok (.getfield 15, 3) := by decide +kernel
theorem dX5_nextToken_106 : decode cX5_nextToken 106 = .ok (.if_icmp .ge 31, 3) := by decide +kernel
theorem dX5_nextToken_109 : decode cX5_nextToken 109 = .ok (.aload_n 0, 1) := by decide +kernel
theorem dX5_nextToken_110 : decode cX5_nextToken 110 = .ok (.aload_n 0, 1) := by decide +kernel
theorem dX5_nextToken_111 : decode cX5_nextToken 111 = .ok (.getfield 19, 3) := by decide +kernel
theorem dX5_nextToken_114 : decode cX5_nextToken 114 = .ok (.invokevirtual 35, 3) := by decide +kernel
theorem dX5_nextToken_117 : decode cX5_nextToken 117 = .ok (.aload_n 0, 1) := by decide +kernel
theorem dX5_nextToken_118 : decode cX5_nextToken 118 = .ok (.getfield 32, 3) := by decide +kernel
theorem dX5_nextToken_121 : decode cX5_nextToken 121 = .ok (.if_icmp .ne 16, 3) := by decide +kernel
theorem dX5_nextToken_124 : decode cX5_nextToken 124 = .ok (.aload_n 0, 1) := by decide +kernel
theorem dX5_nextToken_125 : decode cX5_nextToken 125 = .ok (.dup, 1) := by decide +kernel
theorem dX5_nextToken_126 : decode cX5_nextToken 126 = .ok (.getfield 19, 3) := by decide +kernel
theorem dX5_nextToken_129 : decode cX5_nextToken 129 = .ok (.iconst 1, 1) := by decide +kernel
theorem dX5_nextToken_130 : decode cX5_nextToken 130 = .ok (.iadd, 1) := by decide +kernel
theorem dX5_nextToken_131 : decode cX5_nextToken 131 = .ok (.putfield 19, 3) := by decide +kernel
theorem dX5_nextToken_134 : decode cX5_nextToken 134 = .ok (.goto (-36), 3) := by decide +kernel
theorem dX5_nextToken_137 : decode cX5_nextToken 137 = .ok (.return_, 1) := by decide +kernel
theorem dX5_isWord_0 : decode cX5_isWord 0 = .ok (.aload_n 0, 1) := by decide +kernel
theorem dX5_isWord_1 : decode cX5_isWord 1 = .ok (.getfield 32, 3) := by decide +kernel
theorem dX5_isWord_4 : decode cX5_isWord 4 = .ok (.iconst 1, 1) := by decide +kernel
theorem dX5_isWord_5 : decode cX5_isWord 5 = .ok (.if_icmp .ne 19, 3) := by decide +kernel
theorem dX5_isWord_8 : decode cX5_isWord 8 = .ok (.aload_n 0, 1) := by decide +kernel
theorem dX5_isWord_9 : decode cX5_isWord 9 = .ok (.getfield 19, 3) := by decide +kernel
theorem dX5_isWord_12 : decode cX5_isWord 12 = .ok (.aload_n 0, 1) := by decide +kernel
theorem dX5_isWord_13 : decode cX5_isWord 13 = .ok (.getfield 29, 3) := by decide +kernel
theorem dX5_isWord_16 : decode cX5_isWord 16 = .ok (.isub, 1) := by decide +kernel
theorem dX5_isWord_17 : decode cX5_isWord 17 = .ok (.aload_n 1, 1) := by decide +kernel
theorem dX5_isWord_18 : decode cX5_isWord 18 = .ok (.invokevirtual 39, 3) := by decide +kernel
theorem dX5_isWord_21 : decode cX5_isWord 21 = .ok (.if_icmp .eq 5, 3) := by decide +kernel
theorem dX5_isWord_24 : decode cX5_isWord 24 = .ok (.iconst 0, 1) := by decide +kernel
theorem dX5_isWord_25 : decode cX5_isWord 25 = .ok (.ireturn, 1) := by decide +kernel
theorem dX5_isWord_26 : decode cX5_isWord 26 = .ok (.iconst 0, 1) := by decide +kernel
theorem dX5_isWord_27 : decode cX5_isWord 27 = .ok (.istore_n 2, 1) := by decide +kernel
theorem dX5_isWord_28 : decode cX5_isWord 28 = .ok (.iload_n 2, 1) := by decide +kernel
theorem dX5_isWord_29 : decode cX5_isWord 29 = .ok (.aload_n 1, 1) := by decide +kernel
theorem dX5_isWord_30 : decode cX5_isWord 30 = .ok (.invokevirtual 39, 3) := by decide +kernel
theorem dX5_isWord_33 : decode cX5_isWord 33 = .ok (.if_icmp .ge 30, 3) := by decide +kernel
theorem dX5_isWord_36 : decode cX5_isWord 36 = .ok (.aload_n 0, 1) := by decide +kernel
theorem dX5_isWord_37 : decode cX5_isWord 37 = .ok (.getfield 9, 3) := by decide +kernel
theorem dX5_isWord_40 : decode cX5_isWord 40 = .ok (.aload_n 0, 1) := by decide +kernel
theorem dX5_isWord_41 : decode cX5_isWord 41 = .ok (.getfield 29, 3) := by decide +kernel
theorem dX5_isWord_44 : decode cX5_isWord 44 = .ok (.iload_n 2, 1) := by decide +kernel
theorem dX5_isWord_45 : decode cX5_isWord 45 = .ok (.iadd, 1) := by decide +kernel
theorem dX5_isWord_46 : decode cX5_isWord 46 = .ok (.iaload, 1) := by decide +kernel
theorem dX5_isWord_47 : decode cX5_isWord 47 = .ok (.aload_n 1, 1) := by decide +kernel
theorem dX5_isWord_48 : decode cX5_isWord 48 = .ok (.iload_n 2, 1) := by decide +kernel
theorem dX5_isWord_49 : decode cX5_isWord 49 = .ok (.invokevirtual 45, 3) := by decide +kernel
theorem dX5_isWord_52 : decode cX5_isWord 52 = .ok (.if_icmp .eq 5, 3) := by decide +kernel
theorem dX5_isWord_55 : decode cX5_isWord 55 = .ok (.iconst 0, 1) := by decide +kernel
theorem dX5_isWord_56 : decode cX5_isWord 56 = .ok (.ireturn, 1) := by decide +kernel
theorem dX5_isWord_57 : decode cX5_isWord 57 = .ok (.iinc 2 1, 3) := by decide +kernel
theorem dX5_isWord_60 : decode cX5_isWord 60 = .ok (.goto (-32), 3) := by decide +kernel
theorem dX5_isWord_63 : decode cX5_isWord 63 = .ok (.iconst 1, 1) := by decide +kernel
theorem dX5_isWord_64 : decode cX5_isWord 64 = .ok (.ireturn, 1) := by decide +kernel
theorem dX5_readNumber_0 : decode cX5_readNumber 0 = .ok (.aload_n 0, 1) := by decide +kernel
theorem dX5_readNumber_1 : decode cX5_readNumber 1 = .ok (.getfield 32, 3) := by decide +kernel
theorem dX5_readNumber_4 : decode cX5_readNumber 4 = .ok (.iconst 2, 1) := by decide +kernel
theorem dX5_readNumber_5 : decode cX5_readNumber 5 = .ok (.if_icmp .ne 16, 3) := by decide +kernel
theorem dX5_readNumber_8 : decode cX5_readNumber 8 = .ok (.aload_n 0, 1) := by decide +kernel
theorem dX5_readNumber_9 : decode cX5_readNumber 9 = .ok (.getfield 19, 3) := by decide +kernel
theorem dX5_readNumber_12 : decode cX5_readNumber 12 = .ok (.aload_n 0, 1) := by decide +kernel
theorem dX5_readNumber_13 : decode cX5_readNumber 13 = .ok (.getfield 29, 3) := by decide +kernel
theorem dX5_readNumber_16 : decode cX5_readNumber 16 = .ok (.isub, 1) := by decide +kernel
theorem dX5_readNumber_17 : decode cX5_readNumber 17 = .ok (.iconst 2, 1) := by decide +kernel
theorem dX5_readNumber_18 : decode cX5_readNumber 18 = .ok (.if_icmp .le 5, 3) := by decide +kernel
theorem dX5_readNumber_21 : decode cX5_readNumber 21 = .ok (.iconst (-1), 1) := by decide +kernel
theorem dX5_readNumber_22 : decode cX5_readNumber 22 = .ok (.ireturn, 1) := by decide +kernel
theorem dX5_readNumber_23 : decode cX5_readNumber 23 = .ok (.iconst 0, 1) := by decide +kernel
theorem dX5_readNumber_24 : decode cX5_readNumber 24 = .ok (.istore 4, 2) := by decide +kernel
theorem dX5_readNumber_26 : decode cX5_readNumber 26 = .ok (.aload_n 0, 1) := by decide +kernel
theorem dX5_readNumber_27 : decode cX5_readNumber 27 = .ok (.getfield 29, 3) := by decide +kernel
theorem dX5_readNumber_30 : decode cX5_readNumber 30 = .ok (.istore 5, 2) := by decide +kernel
theorem dX5_readNumber_32 : decode cX5_readNumber 32 = .ok (.iload 5, 2) := by decide +kernel
theorem dX5_readNumber_34 : decode cX5_readNumber 34 = .ok (.aload_n 0, 1) := by decide +kernel
theorem dX5_readNumber_35 : decode cX5_readNumber 35 = .ok (.getfield 19, 3) := by decide +kernel
theorem dX5_readNumber_38 : decode cX5_readNumber 38 = .ok (.if_icmp .ge 27, 3) := by decide +kernel
theorem dX5_readNumber_41 : decode cX5_readNumber 41 = .ok (.iload 4, 2) := by decide +kernel
theorem dX5_readNumber_43 : decode cX5_readNumber 43 = .ok (.bipush 10, 2) := by decide +kernel
theorem dX5_readNumber_45 : decode cX5_readNumber 45 = .ok (.imul, 1) := by decide +kernel
theorem dX5_readNumber_46 : decode cX5_readNumber 46 = .ok (.aload_n 0, 1) := by decide +kernel
theorem dX5_readNumber_47 : decode cX5_readNumber 47 = .ok (.getfield 9, 3) := by decide +kernel
theorem dX5_readNumber_50 : decode cX5_readNumber 50 = .ok (.iload 5, 2) := by decide +kernel
theorem dX5_readNumber_52 : decode cX5_readNumber 52 = .ok (.iaload, 1) := by decide +kernel
theorem dX5_readNumber_53 : decode cX5_readNumber 53 = .ok (.iadd, 1) := by decide +kernel
theorem dX5_readNumber_54 : decode cX5_readNumber 54 = .ok (.bipush 48, 2) := by decide +kernel
theorem dX5_readNumber_56 : decode cX5_readNumber 56 = .ok (.isub, 1) := by decide +kernel
theorem dX5_readNumber_57 : decode cX5_readNumber 57 = .ok (.istore 4, 2) := by decide +kernel
theorem dX5_readNumber_59 : decode cX5_readNumber 59 = .ok (.iinc 5 1, 3) := by decide +kernel
theorem dX5_readNumber_62 : decode cX5_readNumber 62 = .ok (.goto (-30), 3) := by decide +kernel
theorem dX5_readNumber_65 : decode cX5_readNumber 65 = .ok (.iload 4, 2) := by decide +kernel
theorem dX5_readNumber_67 : decode cX5_readNumber 67 = .ok (.iload_n 1, 1) := by decide +kernel
theorem dX5_readNumber_68 : decode cX5_readNumber 68 = .ok (.if_icmp .lt 15, 3) := by decide +kernel
theorem dX5_readNumber_71 : decode cX5_readNumber 71 = .ok (.iload 4, 2) := by decide +kernel
theorem dX5_readNumber_73 : decode cX5_readNumber 73 = .ok (.iload_n 2, 1) := by decide +kernel
theorem dX5_readNumber_74 : decode cX5_readNumber 74 = .ok (.if_icmp .gt 9, 3) := by decide +kernel
theorem dX5_readNumber_77 : decode cX5_readNumber 77 = .ok (.iload 4, 2) := by decide +kernel
theorem dX5_readNumber_79 : decode cX5_readNumber 79 = .ok (.iload_n 3, 1) := by decide +kernel
theorem dX5_readNumber_80 : decode cX5_readNumber 80 = .ok (.if_icmp .ne 5, 3) := by decide +kernel
theorem dX5_readNumber_83 : decode cX5_readNumber 83 = .ok (.iconst (-1), 1) := by decide +kernel
theorem dX5_readNumber_84 : decode cX5_readNumber 84 = .ok (.ireturn, 1) := by decide +kernel
theorem dX5_readNumber_85 : decode cX5_readNumber 85 = .ok (.aload_n 0, 1) := by decide +kernel
theorem dX5_readNumber_86 : decode cX5_readNumber 86 = .ok (.invokevirtual 22, 3) := by decide +kernel
theorem dX5_readNumber_89 : decode cX5_readNumber 89 = .ok (.iload 4, 2) := by decide +kernel
theorem dX5_readNumber_91 : decode cX5_readNumber 91 = .ok (.ireturn, 1) := by decide +kernel
theorem dX5_readDoor_0 : decode cX5_readDoor 0 = .ok (.aload_n 0, 1) := by decide +kernel
theorem dX5_readDoor_1 : decode cX5_readDoor 1 = .ok (.invokevirtual 22, 3) := by decide +kernel
theorem dX5_readDoor_4 : decode cX5_readDoor 4 = .ok (.aload_n 0, 1) := by decide +kernel
theorem dX5_readDoor_5 : decode cX5_readDoor 5 = .ok (.iconst 0, 1) := by decide +kernel
theorem dX5_readDoor_6 : decode cX5_readDoor 6 = .ok (.getstatic 86, 3) := by decide +kernel
theorem dX5_readDoor_9 : decode cX5_readDoor 9 = .ok (.arraylength, 1) := by decide +kernel
theorem dX5_readDoor_10 : decode cX5_readDoor 10 = .ok (.iconst 1, 1) := by decide +kernel
theorem dX5_readDoor_11 : decode cX5_readDoor 11 = .ok (.isub, 1) := by decide +kernel
theorem dX5_readDoor_12 : decode cX5_readDoor 12 = .ok (.iconst (-1), 1) := by decide +kernel
theorem dX5_readDoor_13 : decode cX5_readDoor 13 = .ok (.invokevirtual 89, 3) := by decide +kernel
theorem dX5_readDoor_16 : decode cX5_readDoor 16 = .ok (.istore_n 2, 1) := by decide +kernel
theorem dX5_readDoor_17 : decode cX5_readDoor 17 = .ok (.iload_n 2, 1) := by decide +kernel
theorem dX5_readDoor_18 : decode cX5_readDoor 18 = .ok (.iconst (-1), 1) := by decide +kernel
theorem dX5_readDoor_19 : decode cX5_readDoor 19 = .ok (.if_icmp .ne 5, 3) := by decide +kernel
theorem dX5_readDoor_22 : decode cX5_readDoor 22 = .ok (.iconst 0, 1) := by decide +kernel
theorem dX5_readDoor_23 : decode cX5_readDoor 23 = .ok (.ireturn, 1) := by decide +kernel
theorem dX5_readDoor_24 : decode cX5_readDoor 24 = .ok (.aload_n 0, 1) := by decide +kernel
theorem dX5_readDoor_25 : decode cX5_readDoor 25 = .ok (.iconst 0, 1) := by decide +kernel
theorem dX5_readDoor_26 : decode cX5_readDoor 26 = .ok (.bipush 7, 2) := by decide +kernel
theorem dX5_readDoor_28 : decode cX5_readDoor 28 = .ok (.iconst (-1), 1) := by decide +kernel
theorem dX5_readDoor_29 : decode cX5_readDoor 29 = .ok (.invokevirtual 89, 3) := by decide +kernel
theorem dX5_readDoor_32 : decode cX5_readDoor 32 = .ok (.istore_n 3, 1) := by decide +kernel
theorem dX5_readDoor_33 : decode cX5_readDoor 33 = .ok (.iload_n 3, 1) := by decide +kernel
theorem dX5_readDoor_34 : decode cX5_readDoor 34 = .ok (.iconst (-1), 1) := by decide +kernel
theorem dX5_readDoor_35 : decode cX5_readDoor 35 = .ok (.if_icmp .ne 5, 3) := by decide +kernel
theorem dX5_readDoor_38 : decode cX5_readDoor 38 = .ok (.iconst 0, 1) := by decide +kernel
theorem dX5_readDoor_39 : decode cX5_readDoor 39 = .ok (.ireturn, 1) := by decide +kernel
theorem dX5_readDoor_40 : decode cX5_readDoor 40 = .ok (.aload_n 0, 1) := by decide +kernel
theorem dX5_readDoor_41 : decode cX5_readDoor 41 = .ok (.iconst 0, 1) := by decide +kernel
theorem dX5_readDoor_42 : decode cX5_readDoor 42 = .ok (.bipush 7, 2) := by decide +kernel
theorem dX5_readDoor_44 : decode cX5_readDoor 44 = .ok (.iload_n 2, 1) := by decide +kernel
theorem dX5_readDoor_45 : decode cX5_readDoor 45 = .ok (.iconst 1, 1) := by decide +kernel
theorem dX5_readDoor_46 : decode cX5_readDoor 46 = .ok (.if_icmp .ne 7, 3) := by decide +kernel
theorem dX5_readDoor_49 : decode cX5_readDoor 49 = .ok (.iconst (-1), 1) := by decide +kernel
theorem dX5_readDoor_50 : decode cX5_readDoor 50 = .ok (.goto 4, 3) := by decide +kernel
theorem dX5_readDoor_53 : decode cX5_readDoor 53 = .ok (.iload_n 3, 1) := by decide +kernel
theorem dX5_readDoor_54 : decode cX5_readDoor 54 = .ok (.invokevirtual 89, 3) := by decide +kernel
theorem dX5_readDoor_57 : decode cX5_readDoor 57 = .ok (.istore 4, 2) := by decide +kernel
theorem dX5_readDoor_59 : decode cX5_readDoor 59 = .ok (.iload 4, 2) := by decide +kernel
theorem dX5_readDoor_61 : decode cX5_readDoor 61 = .ok (.iconst (-1), 1) := by decide +kernel
theorem dX5_readDoor_62 : decode cX5_readDoor 62 = .ok (.if_icmp .ne 5, 3) := by decide +kernel
theorem dX5_readDoor_65 : decode cX5_readDoor 65 = .ok (.iconst 0, 1) := by decide +kernel
theorem dX5_readDoor_66 : decode cX5_readDoor 66 = .ok (.ireturn, 1) := by decide +kernel
theorem dX5_readDoor_67 : decode cX5_readDoor 67 = .ok (.aload_n 1, 1) := by decide +kernel
theorem dX5_readDoor_68 : decode cX5_readDoor 68 = .ok (.iload_n 2, 1) := by decide +kernel
theorem dX5_readDoor_69 : decode cX5_readDoor 69 = .ok (.iload_n 3, 1) := by decide +kernel
theorem dX5_readDoor_70 : decode cX5_readDoor 70 = .ok (.iload 4, 2) := by decide +kernel
theorem dX5_readDoor_72 : decode cX5_readDoor 72 = .ok (.invokevirtual 93, 3) := by decide +kernel
theorem dX5_readDoor_75 : decode cX5_readDoor 75 = .ok (.istore 5, 2) := by decide +kernel
theorem dX5_readDoor_77 : decode cX5_readDoor 77 = .ok (.aload_n 0, 1) := by decide +kernel
theorem dX5_readDoor_78 : decode cX5_readDoor 78 = .ok (.ldc 96, 2) := by decide +kernel
theorem dX5_readDoor_80 : decode cX5_readDoor 80 = .ok (.invokevirtual 51, 3) := by decide +kernel
theorem dX5_readDoor_83 : decode cX5_readDoor 83 = .ok (.ifCond .eq 20, 3) := by decide +kernel
theorem dX5_readDoor_86 : decode cX5_readDoor 86 = .ok (.aload_n 1, 1) := by decide +kernel
theorem dX5_readDoor_87 : decode cX5_readDoor 87 = .ok (.dup, 1) := by decide +kernel
theorem dX5_readDoor_88 : decode cX5_readDoor 88 = .ok (.getfield 98, 3) := by decide +kernel
theorem dX5_readDoor_91 : decode cX5_readDoor 91 = .ok (.iconst 1, 1) := by decide +kernel
theorem dX5_readDoor_92 : decode cX5_readDoor 92 = .ok (.iload 5, 2) := by decide +kernel
theorem dX5_readDoor_94 : decode cX5_readDoor 94 = .ok (.ishl, 1) := by decide +kernel
theorem dX5_readDoor_95 : decode cX5_readDoor 95 = .ok (.ior, 1) := by decide +kernel
theorem dX5_readDoor_96 : decode cX5_readDoor 96 = .ok (.putfield 98, 3) := by decide +kernel
theorem dX5_readDoor_99 : decode cX5_readDoor 99 = .ok (.aload_n 0, 1) := by decide +kernel
theorem dX5_readDoor_100 : decode cX5_readDoor 100 = .ok (.invokevirtual 22, 3) := by decide +kernel
theorem dX5_readDoor_103 : decode cX5_readDoor 103 = .ok (.iconst 1, 1) := by decide +kernel
theorem dX5_readDoor_104 : decode cX5_readDoor 104 = .ok (.ireturn, 1) := by decide +kernel
theorem dX5_readOne_0 : decode cX5_readOne 0 = .ok (.aload_n 0, 1) := by decide +kernel
theorem dX5_readOne_1 : decode cX5_readOne 1 = .ok (.invokevirtual 22, 3) := by decide +kernel
theorem dX5_readOne_4 : decode cX5_readOne 4 = .ok (.aload_n 0, 1) := by decide +kernel
theorem dX5_readOne_5 : decode cX5_readOne 5 = .ok (.iconst 0, 1) := by decide +kernel
theorem dX5_readOne_6 : decode cX5_readOne 6 = .ok (.bipush 7, 2) := by decide +kernel
theorem dX5_readOne_8 : decode cX5_readOne 8 = .ok (.iconst (-1), 1) := by decide +kernel
theorem dX5_readOne_9 : decode cX5_readOne 9 = .ok (.invokevirtual 89, 3) := by decide +kernel
theorem dX5_readOne_12 : decode cX5_readOne 12 = .ok (.istore_n 2, 1) := by decide +kernel
theorem dX5_readOne_13 : decode cX5_readOne 13 = .ok (.iload_n 2, 1) := by decide +kernel
theorem dX5_readOne_14 : decode cX5_readOne 14 = .ok (.iconst (-1), 1) := by decide +kernel
theorem dX5_readOne_15 : decode cX5_readOne 15 = .ok (.if_icmp .ne 5, 3) := by decide +kernel
theorem dX5_readOne_18 : decode cX5_readOne 18 = .ok (.iconst 0, 1) := by decide +kernel
theorem dX5_readOne_19 : decode cX5_readOne 19 = .ok (.ireturn, 1) := by decide +kernel
theorem dX5_readOne_20 : decode cX5_readOne 20 = .ok (.aload_n 1, 1) := by decide +kernel
theorem dX5_readOne_21 : decode cX5_readOne 21 = .ok (.iload_n 2, 1) := by decide +kernel
theorem dX5_readOne_22 : decode cX5_readOne 22 = .ok (.invokevirtual 101, 3) := by decide +kernel
theorem dX5_readOne_25 : decode cX5_readOne 25 = .ok (.pop, 1) := by decide +kernel
theorem dX5_readOne_26 : decode cX5_readOne 26 = .ok (.iconst 1, 1) := by decide +kernel
theorem dX5_readOne_27 : decode cX5_readOne 27 = .ok (.ireturn, 1) := by decide +kernel
theorem dX5_readLaw_0 : decode cX5_readLaw 0 = .ok (.aload_n 0, 1) := by decide +kernel
theorem dX5_readLaw_1 : decode cX5_readLaw 1 = .ok (.invokevirtual 22, 3) := by decide +kernel
theorem dX5_readLaw_4 : decode cX5_readLaw 4 = .ok (.aload_n 0, 1) := by decide +kernel
theorem dX5_readLaw_5 : decode cX5_readLaw 5 = .ok (.iconst 1, 1) := by decide +kernel
theorem dX5_readLaw_6 : decode cX5_readLaw 6 = .ok (.iconst 4, 1) := by decide +kernel
theorem dX5_readLaw_7 : decode cX5_readLaw 7 = .ok (.iconst (-1), 1) := by decide +kernel
theorem dX5_readLaw_8 : decode cX5_readLaw 8 = .ok (.invokevirtual 89, 3) := by decide +kernel
theorem dX5_readLaw_11 : decode cX5_readLaw 11 = .ok (.istore_n 2, 1) := by decide +kernel
theorem dX5_readLaw_12 : decode cX5_readLaw 12 = .ok (.iload_n 2, 1) := by decide +kernel
theorem dX5_readLaw_13 : decode cX5_readLaw 13 = .ok (.iconst (-1), 1) := by decide +kernel
theorem dX5_readLaw_14 : decode cX5_readLaw 14 = .ok (.if_icmp .ne 5, 3) := by decide +kernel
theorem dX5_readLaw_17 : decode cX5_readLaw 17 = .ok (.iconst 0, 1) := by decide +kernel
theorem dX5_readLaw_18 : decode cX5_readLaw 18 = .ok (.ireturn, 1) := by decide +kernel
theorem dX5_readLaw_19 : decode cX5_readLaw 19 = .ok (.aload_n 1, 1) := by decide +kernel
theorem dX5_readLaw_20 : decode cX5_readLaw 20 = .ok (.iload_n 2, 1) := by decide +kernel
theorem dX5_readLaw_21 : decode cX5_readLaw 21 = .ok (.putfield 104, 3) := by decide +kernel
theorem dX5_readLaw_24 : decode cX5_readLaw 24 = .ok (.iconst 1, 1) := by decide +kernel
theorem dX5_readLaw_25 : decode cX5_readLaw 25 = .ok (.ireturn, 1) := by decide +kernel
theorem dX5_readWind_0 : decode cX5_readWind 0 = .ok (.aload_n 0, 1) := by decide +kernel
theorem dX5_readWind_1 : decode cX5_readWind 1 = .ok (.invokevirtual 22, 3) := by decide +kernel
theorem dX5_readWind_4 : decode cX5_readWind 4 = .ok (.aload_n 0, 1) := by decide +kernel
theorem dX5_readWind_5 : decode cX5_readWind 5 = .ok (.iconst 0, 1) := by decide +kernel
theorem dX5_readWind_6 : decode cX5_readWind 6 = .ok (.bipush 99, 2) := by decide +kernel
theorem dX5_readWind_8 : decode cX5_readWind 8 = .ok (.iconst (-1), 1) := by decide +kernel
theorem dX5_readWind_9 : decode cX5_readWind 9 = .ok (.invokevirtual 89, 3) := by decide +kernel
theorem dX5_readWind_12 : decode cX5_readWind 12 = .ok (.istore_n 2, 1) := by decide +kernel
theorem dX5_readWind_13 : decode cX5_readWind 13 = .ok (.iload_n 2, 1) := by decide +kernel
theorem dX5_readWind_14 : decode cX5_readWind 14 = .ok (.iconst (-1), 1) := by decide +kernel
theorem dX5_readWind_15 : decode cX5_readWind 15 = .ok (.if_icmp .ne 5, 3) := by decide +kernel
theorem dX5_readWind_18 : decode cX5_readWind 18 = .ok (.iconst 0, 1) := by decide +kernel
theorem dX5_readWind_19 : decode cX5_readWind 19 = .ok (.ireturn, 1) := by decide +kernel
theorem dX5_readWind_20 : decode cX5_readWind 20 = .ok (.aload_n 1, 1) := by decide +kernel
theorem dX5_readWind_21 : decode cX5_readWind 21 = .ok (.iload_n 2, 1) := by decide +kernel
theorem dX5_readWind_22 : decode cX5_readWind 22 = .ok (.putfield 106, 3) := by decide +kernel
theorem dX5_readWind_25 : decode cX5_readWind 25 = .ok (.iconst 1, 1) := by decide +kernel
theorem dX5_readWind_26 : decode cX5_readWind 26 = .ok (.ireturn, 1) := by decide +kernel
theorem dX5_readMoves_0 : decode cX5_readMoves 0 = .ok (.aload_n 0, 1) := by decide +kernel
theorem dX5_readMoves_1 : decode cX5_readMoves 1 = .ok (.invokevirtual 22, 3) := by decide +kernel
theorem dX5_readMoves_4 : decode cX5_readMoves 4 = .ok (.aload_n 0, 1) := by decide +kernel
theorem dX5_readMoves_5 : decode cX5_readMoves 5 = .ok (.iconst 0, 1) := by decide +kernel
theorem dX5_readMoves_6 : decode cX5_readMoves 6 = .ok (.aload_n 1, 1) := by decide +kernel
theorem dX5_readMoves_7 : decode cX5_readMoves 7 = .ok (.getfield 65, 3) := by decide +kernel
theorem dX5_readMoves_10 : decode cX5_readMoves 10 = .ok (.iconst 1, 1) := by decide +kernel
theorem dX5_readMoves_11 : decode cX5_readMoves 11 = .ok (.isub, 1) := by decide +kernel
theorem dX5_readMoves_12 : decode cX5_readMoves 12 = .ok (.iconst (-1), 1) := by decide +kernel
theorem dX5_readMoves_13 : decode cX5_readMoves 13 = .ok (.invokevirtual 89, 3) := by decide +kernel
theorem dX5_readMoves_16 : decode cX5_readMoves 16 = .ok (.istore_n 2, 1) := by decide +kernel
theorem dX5_readMoves_17 : decode cX5_readMoves 17 = .ok (.iload_n 2, 1) := by decide +kernel
theorem dX5_readMoves_18 : decode cX5_readMoves 18 = .ok (.iconst (-1), 1) := by decide +kernel
theorem dX5_readMoves_19 : decode cX5_readMoves 19 = .ok (.if_icmp .ne 5, 3) := by decide +kernel
theorem dX5_readMoves_22 : decode cX5_readMoves 22 = .ok (.iconst 0, 1) := by decide +kernel
theorem dX5_readMoves_23 : decode cX5_readMoves 23 = .ok (.ireturn, 1) := by decide +kernel
theorem dX5_readMoves_24 : decode cX5_readMoves 24 = .ok (.aload_n 0, 1) := by decide +kernel
theorem dX5_readMoves_25 : decode cX5_readMoves 25 = .ok (.iconst 0, 1) := by decide +kernel
theorem dX5_readMoves_26 : decode cX5_readMoves 26 = .ok (.bipush 7, 2) := by decide +kernel
theorem dX5_readMoves_28 : decode cX5_readMoves 28 = .ok (.iconst (-1), 1) := by decide +kernel
theorem dX5_readMoves_29 : decode cX5_readMoves 29 = .ok (.invokevirtual 89, 3) := by decide +kernel
theorem dX5_readMoves_32 : decode cX5_readMoves 32 = .ok (.istore_n 3, 1) := by decide +kernel
theorem dX5_readMoves_33 : decode cX5_readMoves 33 = .ok (.iload_n 3, 1) := by decide +kernel
theorem dX5_readMoves_34 : decode cX5_readMoves 34 = .ok (.iconst (-1), 1) := by decide +kernel
theorem dX5_readMoves_35 : decode cX5_readMoves 35 = .ok (.if_icmp .ne 5, 3) := by decide +kernel
theorem dX5_readMoves_38 : decode cX5_readMoves 38 = .ok (.iconst 0, 1) := by decide +kernel
theorem dX5_readMoves_39 : decode cX5_readMoves 39 = .ok (.ireturn, 1) := by decide +kernel
theorem dX5_readMoves_40 : decode cX5_readMoves 40 = .ok (.aload_n 1, 1) := by decide +kernel
theorem dX5_readMoves_41 : decode cX5_readMoves 41 = .ok (.getfield 108, 3) := by decide +kernel
theorem dX5_readMoves_44 : decode cX5_readMoves 44 = .ok (.iload_n 2, 1) := by decide +kernel
theorem dX5_readMoves_45 : decode cX5_readMoves 45 = .ok (.iload_n 3, 1) := by decide +kernel
theorem dX5_readMoves_46 : decode cX5_readMoves 46 = .ok (.iastore, 1) := by decide +kernel
theorem dX5_readMoves_47 : decode cX5_readMoves 47 = .ok (.iconst 1, 1) := by decide +kernel
theorem dX5_readMoves_48 : decode cX5_readMoves 48 = .ok (.ireturn, 1) := by decide +kernel
def f_X4_takeDoor (h : xH) (a0 : Nat) (p1 : Int32) : Option (xH) :=
  (x_put h a0 4 0 (.int ((10 : Int32) + p1))).bind fun h1 =>
  (x_put h1 a0 4 1 (.int (0 : Int32))).bind fun h2 =>
  some h2
set_option maxRecDepth 100000 in
set_option maxHeartbeats 4000000 in
theorem c_X4_takeDoor {h : xH} {a0 : Nat} {p1 : Int32} {hz : xH} (hE : f_X4_takeDoor h a0 p1 = some hz) : Ctr M_X4_takeDoor [.ref a0, .int p1] h none hz 0 0 := by
  refine ctr_of (by decide) (fun _ _ => Nat.le_of_ble_eq_true rfl) (fun S => ?_)
  show Y S M_X4_takeDoor h none hz 0 0 0 [(0, .ref a0), (1, .int p1)] [] h 0 0
  unfold f_X4_takeDoor at hE
  refine y_aload_n dX4_takeDoor_0 0 rfl ?_
  refine y_bipush (v := (10 : Int32)) dX4_takeDoor_1 (by decide) ?_
  refine y_iload_n dX4_takeDoor_3 1 rfl ?_
  refine y_iadd dX4_takeDoor_4 ?_
  obtain ⟨h1, eh1, hE⟩ := Option.bind_eq_some_iff.mp hE
  refine y_putI fp_X4_9 eh1 dX4_takeDoor_5 ?_
  refine y_aload_n dX4_takeDoor_8 0 rfl ?_
  refine y_iconst (v := (0 : Int32)) dX4_takeDoor_9 (by decide) ?_
  obtain ⟨h2, eh2, hE⟩ := Option.bind_eq_some_iff.mp hE
  refine y_putI fp_X4_19 eh2 dX4_takeDoor_10 ?_
  obtain rfl := Option.some.inj hE
  exact y_ret dX4_takeDoor_13 (Nat.le_refl _) (Nat.le_refl _) rfl
def f_X4_takeRow_L12 (v0 : Nat) : Nat → Int32 → xH → Option (xH)
  | 0, _, _ => none
  | k + 1, v3, h =>
    if (40 : Int32) ≤ v3 then
      some h
    else
      (x_gR h v0 4 2).bind fun a3 =>
      (x_stL h a3 v3 (0 : Int64)).bind fun h4 =>
      (some (v3 + (1 : Int32))).bind fun x5 =>
      f_X4_takeRow_L12 v0 k x5 h4
set_option maxRecDepth 100000 in
set_option maxHeartbeats 4000000 in
theorem l_X4_takeRow_12 {S : Nat × (Nat → Int32)} {rv : Option Value} {h0 h1 : xH} {mc ms : Nat} {cells slots : Nat} (hm : cells ≤ mc ∧ slots ≤ ms) (v0 : Nat) : ∀ (k : Nat) (v3 : Int32) (h : xH) (res : xH), f_X4_takeRow_L12 v0 k v3 h = some res → (∀ r9, res = r9 → Y S M_X4_takeRow h0 rv h1 mc ms 31 [] [] r9 cells slots) → Y S M_X4_takeRow h0 rv h1 mc ms 12 [(0, .ref v0), (3, .int v3)] [] h cells slots := by
  intro k
  induction k with
  | zero =>
    intro _ _ _ hE
    cases hE
  | succ k ih =>
    intro v3 h res hE K
    unfold f_X4_takeRow_L12 at hE
    refine y_iload_n dX4_takeRow_12 1 rfl ?_
    refine y_bipush (v := (40 : Int32)) dX4_takeRow_13 (by decide) ?_
    refine y_icmp_ge (tgt := 31) dX4_takeRow_15 (by decide) (fun hc6 => ?_) (fun hc6 => ?_)
    · rw [if_pos hc6] at hE
      obtain rfl := Option.some.inj hE
      exact y_pick [] rfl (K _ rfl)
    · rw [if_neg hc6] at hE
      refine y_aload_n dX4_takeRow_18 0 rfl ?_
      obtain ⟨a3, ea3, hE⟩ := Option.bind_eq_some_iff.mp hE
      refine y_getR fl_X4_15 ea3 dX4_takeRow_19 ?_
      refine y_iload_n dX4_takeRow_22 1 rfl ?_
      refine y_lconst (v := (0 : Int64)) dX4_takeRow_23 (by decide) ?_
      obtain ⟨h4, eh4, hE⟩ := Option.bind_eq_some_iff.mp hE
      refine y_last eh4 dX4_takeRow_24 ?_
      obtain ⟨x5, ex5, hE⟩ := Option.bind_eq_some_iff.mp hE
      refine y_iinc (ls' := [(3, .int x5), (0, .ref v0)]) dX4_takeRow_25 1 rfl (Option.some.inj ex5) (by decide) rfl ?_
      refine y_goto (tgt := 12) dX4_takeRow_28 (by decide) ?_
      refine y_pick [1, 0] rfl ?_
      exact ih _ _ _ hE K
def f_X4_takeRow (n : Nat) (h : xH) (a0 : Nat) (p1 : Int32) (p2 : Int32) : Option (xH) :=
  (x_put h a0 4 0 (.int p1)).bind fun h1 =>
  (x_put h1 a0 4 1 (.int p2)).bind fun h2 =>
  (f_X4_takeRow_L12 a0 n (0 : Int32) h2).bind fun q7 =>
  some q7
set_option maxRecDepth 100000 in
set_option maxHeartbeats 4000000 in
theorem c_X4_takeRow {n : Nat} {h : xH} {a0 : Nat} {p1 : Int32} {p2 : Int32} {hz : xH} (hE : f_X4_takeRow n h a0 p1 p2 = some hz) : Ctr M_X4_takeRow [.ref a0, .int p1, .int p2] h none hz 0 0 := by
  refine ctr_of (by decide) (fun _ _ => Nat.le_of_ble_eq_true rfl) (fun S => ?_)
  show Y S M_X4_takeRow h none hz 0 0 0 [(0, .ref a0), (1, .int p1), (2, .int p2)] [] h 0 0
  unfold f_X4_takeRow at hE
  refine y_aload_n dX4_takeRow_0 0 rfl ?_
  refine y_iload_n dX4_takeRow_1 1 rfl ?_
  obtain ⟨h1, eh1, hE⟩ := Option.bind_eq_some_iff.mp hE
  refine y_putI fp_X4_9 eh1 dX4_takeRow_2 ?_
  refine y_aload_n dX4_takeRow_5 0 rfl ?_
  refine y_iload_n dX4_takeRow_6 2 rfl ?_
  obtain ⟨h2, eh2, hE⟩ := Option.bind_eq_some_iff.mp hE
  refine y_putI fp_X4_19 eh2 dX4_takeRow_7 ?_
  refine y_iconst (v := (0 : Int32)) dX4_takeRow_10 (by decide) ?_
  refine y_istore_n (ls' := [(3, .int (0 : Int32)), (0, .ref a0), (1, .int p1), (2, .int p2)]) dX4_takeRow_11 (by decide) rfl rfl ?_
  obtain ⟨q7, eq7, hE⟩ := Option.bind_eq_some_iff.mp hE
  refine y_pick [1, 0] rfl ?_
  refine l_X4_takeRow_12 (S := S) ⟨Nat.le_refl _, Nat.le_refl _⟩ a0 n (0 : Int32) h2 _ eq7 (fun r8 hr8 => ?_)
  subst hr8
  obtain rfl := Option.some.inj hE
  exact y_ret dX4_takeRow_31 (Nat.le_refl _) (Nat.le_refl _) rfl
def f_X4_hasElement (h : xH) (a0 : Nat) (p1 : Int32) : Option (Int32) :=
  if p1 < 0 then
    some (0 : Int32)
  else
    (x_gI h a0 4 1).bind fun x1 =>
    if x1 ≤ p1 then
      some (0 : Int32)
    else
      some (1 : Int32)
set_option maxRecDepth 100000 in
set_option maxHeartbeats 4000000 in
theorem c_X4_hasElement {h : xH} {a0 : Nat} {p1 : Int32} {r9 : Int32} (hE : f_X4_hasElement h a0 p1 = some r9) : Ctr M_X4_hasElement [.ref a0, .int p1] h (some (.int r9)) h 0 0 := by
  refine ctr_of (by decide) (fun _ _ => Nat.le_of_ble_eq_true rfl) (fun S => ?_)
  show Y S M_X4_hasElement h (some (.int r9)) h 0 0 0 [(0, .ref a0), (1, .int p1)] [] h 0 0
  unfold f_X4_hasElement at hE
  refine y_iload_n dX4_hasElement_0 1 rfl ?_
  refine y_if_lt (tgt := 16) dX4_hasElement_1 (by decide) (fun hc3 => ?_) (fun hc3 => ?_)
  · rw [if_pos hc3] at hE
    refine y_iconst (v := (0 : Int32)) dX4_hasElement_16 (by decide) ?_
    obtain rfl := Option.some.inj hE
    exact y_ret dX4_hasElement_17 (Nat.le_refl _) (Nat.le_refl _) ⟨_, rfl, rfl⟩
  · rw [if_neg hc3] at hE
    refine y_iload_n dX4_hasElement_4 1 rfl ?_
    refine y_aload_n dX4_hasElement_5 0 rfl ?_
    obtain ⟨x1, ex1, hE⟩ := Option.bind_eq_some_iff.mp hE
    refine y_getI fl_X4_19 ex1 dX4_hasElement_6 ?_
    refine y_icmp_ge (tgt := 16) dX4_hasElement_9 (by decide) (fun hc2 => ?_) (fun hc2 => ?_)
    · rw [if_pos hc2] at hE
      refine y_iconst (v := (0 : Int32)) dX4_hasElement_16 (by decide) ?_
      obtain rfl := Option.some.inj hE
      exact y_ret dX4_hasElement_17 (Nat.le_refl _) (Nat.le_refl _) ⟨_, rfl, rfl⟩
    · rw [if_neg hc2] at hE
      refine y_iconst (v := (1 : Int32)) dX4_hasElement_12 (by decide) ?_
      refine y_goto (tgt := 17) dX4_hasElement_13 (by decide) ?_
      obtain rfl := Option.some.inj hE
      exact y_ret dX4_hasElement_17 (Nat.le_refl _) (Nat.le_refl _) ⟨_, rfl, rfl⟩
def f_X4_hasStretch (h : xH) (a0 : Nat) (p1 : Int32) (p2 : Int32) : Option (Int32) :=
  if p1 < 0 then
    some (0 : Int32)
  else
    if p2 < 0 then
      some (0 : Int32)
    else
      (x_gI h a0 4 1).bind fun x1 =>
      if x1 < p2 then
        some (0 : Int32)
      else
        (x_gI h a0 4 1).bind fun x2 =>
        if (x2 - p2) < p1 then
          some (0 : Int32)
        else
          some (1 : Int32)
set_option maxRecDepth 100000 in
set_option maxHeartbeats 4000000 in
theorem c_X4_hasStretch {h : xH} {a0 : Nat} {p1 : Int32} {p2 : Int32} {r9 : Int32} (hE : f_X4_hasStretch h a0 p1 p2 = some r9) : Ctr M_X4_hasStretch [.ref a0, .int p1, .int p2] h (some (.int r9)) h 0 0 := by
  refine ctr_of (by decide) (fun _ _ => Nat.le_of_ble_eq_true rfl) (fun S => ?_)
  show Y S M_X4_hasStretch h (some (.int r9)) h 0 0 0 [(0, .ref a0), (1, .int p1), (2, .int p2)] [] h 0 0
  unfold f_X4_hasStretch at hE
  refine y_iload_n dX4_hasStretch_0 1 rfl ?_
  refine y_if_lt (tgt := 30) dX4_hasStretch_1 (by decide) (fun hc6 => ?_) (fun hc6 => ?_)
  · rw [if_pos hc6] at hE
    refine y_iconst (v := (0 : Int32)) dX4_hasStretch_30 (by decide) ?_
    obtain rfl := Option.some.inj hE
    exact y_ret dX4_hasStretch_31 (Nat.le_refl _) (Nat.le_refl _) ⟨_, rfl, rfl⟩
  · rw [if_neg hc6] at hE
    refine y_iload_n dX4_hasStretch_4 2 rfl ?_
    refine y_if_lt (tgt := 30) dX4_hasStretch_5 (by decide) (fun hc5 => ?_) (fun hc5 => ?_)
    · rw [if_pos hc5] at hE
      refine y_iconst (v := (0 : Int32)) dX4_hasStretch_30 (by decide) ?_
      obtain rfl := Option.some.inj hE
      exact y_ret dX4_hasStretch_31 (Nat.le_refl _) (Nat.le_refl _) ⟨_, rfl, rfl⟩
    · rw [if_neg hc5] at hE
      refine y_iload_n dX4_hasStretch_8 2 rfl ?_
      refine y_aload_n dX4_hasStretch_9 0 rfl ?_
      obtain ⟨x1, ex1, hE⟩ := Option.bind_eq_some_iff.mp hE
      refine y_getI fl_X4_19 ex1 dX4_hasStretch_10 ?_
      refine y_icmp_gt (tgt := 30) dX4_hasStretch_13 (by decide) (fun hc4 => ?_) (fun hc4 => ?_)
      · rw [if_pos hc4] at hE
        refine y_iconst (v := (0 : Int32)) dX4_hasStretch_30 (by decide) ?_
        obtain rfl := Option.some.inj hE
        exact y_ret dX4_hasStretch_31 (Nat.le_refl _) (Nat.le_refl _) ⟨_, rfl, rfl⟩
      · rw [if_neg hc4] at hE
        refine y_iload_n dX4_hasStretch_16 1 rfl ?_
        refine y_aload_n dX4_hasStretch_17 0 rfl ?_
        obtain ⟨x2, ex2, hE⟩ := Option.bind_eq_some_iff.mp hE
        refine y_getI fl_X4_19 ex2 dX4_hasStretch_18 ?_
        refine y_iload_n dX4_hasStretch_21 2 rfl ?_
        refine y_isub dX4_hasStretch_22 ?_
        refine y_icmp_gt (tgt := 30) dX4_hasStretch_23 (by decide) (fun hc3 => ?_) (fun hc3 => ?_)
        · rw [if_pos hc3] at hE
          refine y_iconst (v := (0 : Int32)) dX4_hasStretch_30 (by decide) ?_
          obtain rfl := Option.some.inj hE
          exact y_ret dX4_hasStretch_31 (Nat.le_refl _) (Nat.le_refl _) ⟨_, rfl, rfl⟩
        · rw [if_neg hc3] at hE
          refine y_iconst (v := (1 : Int32)) dX4_hasStretch_26 (by decide) ?_
          refine y_goto (tgt := 31) dX4_hasStretch_27 (by decide) ?_
          obtain rfl := Option.some.inj hE
          exact y_ret dX4_hasStretch_31 (Nat.le_refl _) (Nat.le_refl _) ⟨_, rfl, rfl⟩
def f_X4_narrow (h : xH) (a0 : Nat) (p1 : Int64) : Option (Int64) :=
  (x_gI h a0 4 0).bind fun x1 =>
  if x1 = (0 : Int32) then
    some ((i_byte p1.toInt32).toInt64)
  else
  if x1 = (1 : Int32) then
    some ((i_short p1.toInt32).toInt64)
  else
  if x1 = (2 : Int32) then
    some p1.toInt32.toInt64
  else
  if x1 = (4 : Int32) then
    if (lg_cmp p1 (0 : Int64)) = 0 then
      some (0 : Int64)
    else
      some (1 : Int64)
  else
  some p1
set_option maxRecDepth 100000 in
set_option maxHeartbeats 4000000 in
theorem c_X4_narrow {h : xH} {a0 : Nat} {p1 : Int64} {r9 : Int64} (hE : f_X4_narrow h a0 p1 = some r9) : Ctr M_X4_narrow [.ref a0, .long p1] h (some (.long r9)) h 0 0 := by
  refine ctr_of (by decide) (fun _ _ => Nat.le_of_ble_eq_true rfl) (fun S => ?_)
  show Y S M_X4_narrow h (some (.long r9)) h 0 0 0 [(0, .ref a0), (1, .long p1)] [] h 0 0
  unfold f_X4_narrow at hE
  refine y_aload_n dX4_narrow_0 0 rfl ?_
  obtain ⟨x1, ex1, hE⟩ := Option.bind_eq_some_iff.mp hE
  refine y_getI fl_X4_9 ex1 dX4_narrow_1 ?_
  by_cases hc2 : x1 = (0 : Int32)
  · rw [if_pos hc2] at hE
    have hk := hc2
    refine y_tabIn (tgt := 40) dX4_narrow_4 (by rw [hk]; decide) (by rw [hk]; decide) (by rw [hk]; rfl) (by decide) ?_
    refine y_lload_n dX4_narrow_40 1 rfl ?_
    refine y_l2i dX4_narrow_41 ?_
    refine y_i2b dX4_narrow_42 ?_
    refine y_i2l dX4_narrow_43 ?_
    obtain rfl := Option.some.inj hE
    exact y_ret dX4_narrow_44 (Nat.le_refl _) (Nat.le_refl _) rfl
  · rw [if_neg hc2] at hE
    by_cases hc3 : x1 = (1 : Int32)
    · rw [if_pos hc3] at hE
      have hk := hc3
      refine y_tabIn (tgt := 45) dX4_narrow_4 (by rw [hk]; decide) (by rw [hk]; decide) (by rw [hk]; rfl) (by decide) ?_
      refine y_lload_n dX4_narrow_45 1 rfl ?_
      refine y_l2i dX4_narrow_46 ?_
      refine y_i2s dX4_narrow_47 ?_
      refine y_i2l dX4_narrow_48 ?_
      obtain rfl := Option.some.inj hE
      exact y_ret dX4_narrow_49 (Nat.le_refl _) (Nat.le_refl _) rfl
    · rw [if_neg hc3] at hE
      by_cases hc4 : x1 = (2 : Int32)
      · rw [if_pos hc4] at hE
        have hk := hc4
        refine y_tabIn (tgt := 50) dX4_narrow_4 (by rw [hk]; decide) (by rw [hk]; decide) (by rw [hk]; rfl) (by decide) ?_
        refine y_lload_n dX4_narrow_50 1 rfl ?_
        refine y_l2i dX4_narrow_51 ?_
        refine y_i2l dX4_narrow_52 ?_
        obtain rfl := Option.some.inj hE
        exact y_ret dX4_narrow_53 (Nat.le_refl _) (Nat.le_refl _) rfl
      · rw [if_neg hc4] at hE
        by_cases hc6 : x1 = (4 : Int32)
        · rw [if_pos hc6] at hE
          have hk := hc6
          refine y_tabIn (tgt := 54) dX4_narrow_4 (by rw [hk]; decide) (by rw [hk]; decide) (by rw [hk]; rfl) (by decide) ?_
          refine y_lload_n dX4_narrow_54 1 rfl ?_
          refine y_lconst (v := (0 : Int64)) dX4_narrow_55 (by decide) ?_
          refine y_lcmp dX4_narrow_56 ?_
          refine y_if_eq (tgt := 64) dX4_narrow_57 (by decide) (fun hc5 => ?_) (fun hc5 => ?_)
          · rw [if_pos hc5] at hE
            refine y_lconst (v := (0 : Int64)) dX4_narrow_64 (by decide) ?_
            obtain rfl := Option.some.inj hE
            exact y_ret dX4_narrow_65 (Nat.le_refl _) (Nat.le_refl _) rfl
          · rw [if_neg hc5] at hE
            refine y_lconst (v := (1 : Int64)) dX4_narrow_60 (by decide) ?_
            refine y_goto (tgt := 65) dX4_narrow_61 (by decide) ?_
            obtain rfl := Option.some.inj hE
            exact y_ret dX4_narrow_65 (Nat.le_refl _) (Nat.le_refl _) rfl
        · rw [if_neg hc6] at hE
          have hT : Y S M_X4_narrow h (some (.long r9)) h 0 0 66 [(0, .ref a0), (1, .long p1)] [] h 0 0 := by
            refine y_lload_n dX4_narrow_66 1 rfl ?_
            obtain rfl := Option.some.inj hE
            exact y_ret dX4_narrow_67 (Nat.le_refl _) (Nat.le_refl _) rfl
          by_cases hk3 : x1 = (3 : Int32)
          · have hk := hk3
            exact y_tabIn (tgt := 66) dX4_narrow_4 (by rw [hk]; decide) (by rw [hk]; decide) (by rw [hk]; rfl) (by decide) hT
          have hO : (x1).toInt < 0 ∨ 4 < (x1).toInt := by
            refine x_tabo (by decide) (by decide) (fun j g1 g2 => ?_)
            rcases (show j = 0 ∨ j = 1 ∨ j = 2 ∨ j = 3 ∨ j = 4 by omega) with rfl | rfl | rfl | rfl | rfl
            · exact hc2
            · exact hc3
            · exact hc4
            · exact hk3
            · exact hc6
          exact y_tabOut (tgt := 66) dX4_narrow_4 hO (by decide) hT
def f_X4_put (h : xH) (a0 : Nat) (p1 : Int32) (p2 : Int64) : Option (xH) :=
  (x_gR h a0 4 2).bind fun a1 =>
  (x_ob h a0 4).bind fun u2 =>
  (f_X4_narrow h a0 p2).bind fun q3 =>
  (x_stL h a1 p1 q3).bind fun h4 =>
  some h4
set_option maxRecDepth 100000 in
set_option maxHeartbeats 4000000 in
theorem c_X4_put {h : xH} {a0 : Nat} {p1 : Int32} {p2 : Int64} {hz : xH} (hE : f_X4_put h a0 p1 p2 = some hz) : Ctr M_X4_put [.ref a0, .int p1, .long p2] h none hz 0 0 := by
  refine ctr_of (by decide) (fun _ _ => Nat.le_of_ble_eq_true rfl) (fun S => ?_)
  show Y S M_X4_put h none hz 0 0 0 [(0, .ref a0), (1, .int p1), (2, .long p2)] [] h 0 0
  unfold f_X4_put at hE
  refine y_aload_n dX4_put_0 0 rfl ?_
  obtain ⟨a1, ea1, hE⟩ := Option.bind_eq_some_iff.mp hE
  refine y_getR fl_X4_15 ea1 dX4_put_1 ?_
  refine y_iload_n dX4_put_4 1 rfl ?_
  refine y_aload_n dX4_put_5 0 rfl ?_
  refine y_lload_n dX4_put_6 2 rfl ?_
  obtain ⟨u2, eu2, hE⟩ := Option.bind_eq_some_iff.mp hE
  obtain ⟨q3, eq3, hE⟩ := Option.bind_eq_some_iff.mp hE
  refine y_cVl0 (st := [.int p1, .ref a1]) (as := [.long p2]) (c_X4_narrow eq3) lk_X4_22 in_X4_narrow se_X4_narrow rfl eu2 ⟨Nat.le_of_ble_eq_true rfl, Nat.le_of_ble_eq_true rfl⟩ (Nat.le_of_ble_eq_true rfl) dX4_put_7 ⟨Nat.le_refl _, Nat.le_refl _⟩ rfl ?_
  obtain ⟨h4, eh4, hE⟩ := Option.bind_eq_some_iff.mp hE
  refine y_last eh4 dX4_put_10 ?_
  obtain rfl := Option.some.inj hE
  exact y_ret dX4_put_11 (Nat.le_refl _) (Nat.le_refl _) rfl
def f_X5_init (h : xH) (a0 : Nat) : Option ((xH) × Nat × Nat) :=
  x_add 1 250 <|
  (x_put (h ++ [.inl (.int, 250, .inl (fun _ => 0))]) a0 5 0 (.ref (h.length + 16))).bind fun h3 =>
  some (h3, 0, 0)
set_option maxRecDepth 100000 in
set_option maxHeartbeats 4000000 in
theorem c_X5_init {h : xH} {a0 : Nat} {hz : xH} {c9 s9 : Nat} (hE : f_X5_init h a0 = some (hz, c9, s9)) : Ctr M_X5_init [.ref a0] h none hz c9 s9 := by
  refine ctr_of (by decide) (fun _ _ => Nat.le_of_ble_eq_true rfl) (fun S => ?_)
  show Y S M_X5_init h none hz c9 s9 0 [(0, .ref a0)] [] h 0 0
  unfold f_X5_init at hE
  refine y_aload_n dX5_init_0 0 rfl ?_
  refine y_objInit (x_wt (tb 100 (by decide +kernel)) rfl) (x_wt (tb 22 (by decide +kernel)) rfl) (x_wt (tb 23 (by decide +kernel)) rfl) (by decide) (Nat.le_of_ble_eq_true rfl) dX5_init_1 ?_
  refine y_aload_n dX5_init_4 0 rfl ?_
  refine y_sipush (v := (250 : Int32)) dX5_init_5 (by decide) ?_
  obtain ⟨c1, s2, hN, ecc1, ess2⟩ := x_add.spec hE
  clear hE; have hE := hN; clear hN
  refine y_newI (N := 250) (x_wt (tb 92 (by decide +kernel)) rfl) (by decide) (by decide) (by decide) ⟨by omega, by omega⟩ dX5_init_8 ?_
  obtain ⟨h3, eh3, hE⟩ := Option.bind_eq_some_iff.mp hE
  refine y_putR fp_X5_9 (fun q => by first | rfl | cases q) (fun _ => rfl) (fun _ => rfl) eh3 dX5_init_10 ?_
  obtain ⟨rfl, rfl, rfl⟩ := x_inj3 hE
  exact y_ret dX5_init_13 (by omega) (by omega) rfl
def f_X5_append_L4 (v0 : Nat) (v1 : Int32) : Nat → Int32 → xH → Option (xH)
  | 0, _, _ => none
  | k + 1, v3, h =>
    if v3 < 0 then
      some h
    else
      (x_gI h v0 5 1).bind fun x2 =>
      if (250 : Int32) ≤ x2 then
        some h
      else
        (x_gR h v0 5 0).bind fun a3 =>
        (x_gI h v0 5 1).bind fun x4 =>
        (x_st h a3 x4 ((i_ushr v1 ((8 : Int32) * v3)) &&& (255 : Int32))).bind fun h5 =>
        (x_gI h5 v0 5 1).bind fun x6 =>
        (x_put h5 v0 5 1 (.int (x6 + (1 : Int32)))).bind fun h7 =>
        (some (v3 + (-1 : Int32))).bind fun x8 =>
        f_X5_append_L4 v0 v1 k x8 h7
set_option maxRecDepth 100000 in
set_option maxHeartbeats 4000000 in
theorem l_X5_append_4 {S : Nat × (Nat → Int32)} {rv : Option Value} {h0 h1 : xH} {mc ms : Nat} {cells slots : Nat} (hm : cells ≤ mc ∧ slots ≤ ms) (v0 : Nat) (v1 : Int32) : ∀ (k : Nat) (v3 : Int32) (h : xH) (res : xH), f_X5_append_L4 v0 v1 k v3 h = some res → (∀ r9, res = r9 → Y S M_X5_append h0 rv h1 mc ms 53 [] [] r9 cells slots) → Y S M_X5_append h0 rv h1 mc ms 4 [(0, .ref v0), (1, .int v1), (3, .int v3)] [] h cells slots := by
  intro k
  induction k with
  | zero =>
    intro _ _ _ hE
    cases hE
  | succ k ih =>
    intro v3 h res hE K
    unfold f_X5_append_L4 at hE
    refine y_iload_n dX5_append_4 2 rfl ?_
    refine y_if_lt (tgt := 53) dX5_append_5 (by decide) (fun hc10 => ?_) (fun hc10 => ?_)
    · rw [if_pos hc10] at hE
      obtain rfl := Option.some.inj hE
      exact y_pick [] rfl (K _ rfl)
    · rw [if_neg hc10] at hE
      refine y_aload_n dX5_append_8 0 rfl ?_
      obtain ⟨x2, ex2, hE⟩ := Option.bind_eq_some_iff.mp hE
      refine y_getI fl_X5_15 ex2 dX5_append_9 ?_
      refine y_sipush (v := (250 : Int32)) dX5_append_12 (by decide) ?_
      refine y_icmp_ge (tgt := 53) dX5_append_15 (by decide) (fun hc9 => ?_) (fun hc9 => ?_)
      · rw [if_pos hc9] at hE
        obtain rfl := Option.some.inj hE
        exact y_pick [] rfl (K _ rfl)
      · rw [if_neg hc9] at hE
        refine y_aload_n dX5_append_18 0 rfl ?_
        obtain ⟨a3, ea3, hE⟩ := Option.bind_eq_some_iff.mp hE
        refine y_getR fl_X5_9 ea3 dX5_append_19 ?_
        refine y_aload_n dX5_append_22 0 rfl ?_
        obtain ⟨x4, ex4, hE⟩ := Option.bind_eq_some_iff.mp hE
        refine y_getI fl_X5_15 ex4 dX5_append_23 ?_
        refine y_iload_n dX5_append_26 1 rfl ?_
        refine y_bipush (v := (8 : Int32)) dX5_append_27 (by decide) ?_
        refine y_iload_n dX5_append_29 2 rfl ?_
        refine y_imul dX5_append_30 ?_
        refine y_iushr dX5_append_31 ?_
        refine y_sipush (v := (255 : Int32)) dX5_append_32 (by decide) ?_
        refine y_iand dX5_append_35 ?_
        obtain ⟨h5, eh5, hE⟩ := Option.bind_eq_some_iff.mp hE
        refine y_iast eh5 dX5_append_36 ?_
        refine y_aload_n dX5_append_37 0 rfl ?_
        refine y_dup dX5_append_38 rfl ?_
        obtain ⟨x6, ex6, hE⟩ := Option.bind_eq_some_iff.mp hE
        refine y_getI fl_X5_15 ex6 dX5_append_39 ?_
        refine y_iconst (v := (1 : Int32)) dX5_append_42 (by decide) ?_
        refine y_iadd dX5_append_43 ?_
        obtain ⟨h7, eh7, hE⟩ := Option.bind_eq_some_iff.mp hE
        refine y_putI fp_X5_15 eh7 dX5_append_44 ?_
        obtain ⟨x8, ex8, hE⟩ := Option.bind_eq_some_iff.mp hE
        refine y_iinc (ls' := [(3, .int x8), (0, .ref v0), (1, .int v1)]) dX5_append_47 2 rfl (Option.some.inj ex8) (by decide) rfl ?_
        refine y_goto (tgt := 4) dX5_append_50 (by decide) ?_
        refine y_pick [1, 2, 0] rfl ?_
        exact ih _ _ _ hE K
def f_X5_append (n : Nat) (h : xH) (a0 : Nat) (p1 : Int32) (p2 : Int32) : Option (xH) :=
  (some (p2 - (1 : Int32))).bind fun x1 =>
  (f_X5_append_L4 a0 p1 n x1 h).bind fun q11 =>
  some q11
set_option maxRecDepth 100000 in
set_option maxHeartbeats 4000000 in
theorem c_X5_append {n : Nat} {h : xH} {a0 : Nat} {p1 : Int32} {p2 : Int32} {hz : xH} (hE : f_X5_append n h a0 p1 p2 = some hz) : Ctr M_X5_append [.ref a0, .int p1, .int p2] h none hz 0 0 := by
  refine ctr_of (by decide) (fun _ _ => Nat.le_of_ble_eq_true rfl) (fun S => ?_)
  show Y S M_X5_append h none hz 0 0 0 [(0, .ref a0), (1, .int p1), (2, .int p2)] [] h 0 0
  unfold f_X5_append at hE
  refine y_iload_n dX5_append_0 2 rfl ?_
  refine y_iconst (v := (1 : Int32)) dX5_append_1 (by decide) ?_
  refine y_isub dX5_append_2 ?_
  obtain ⟨x1, ex1, hE⟩ := Option.bind_eq_some_iff.mp hE
  refine y_istore_n (ls' := [(3, .int x1), (0, .ref a0), (1, .int p1), (2, .int p2)]) dX5_append_3 (by decide) (Option.some.inj ex1) rfl ?_
  obtain ⟨q11, eq11, hE⟩ := Option.bind_eq_some_iff.mp hE
  refine y_pick [1, 2, 0] rfl ?_
  refine l_X5_append_4 (S := S) ⟨Nat.le_refl _, Nat.le_refl _⟩ a0 p1 n x1 h _ eq11 (fun r8 hr8 => ?_)
  subst hr8
  obtain rfl := Option.some.inj hE
  exact y_ret dX5_append_53 (Nat.le_refl _) (Nat.le_refl _) rfl
def f_X5_sortAt_J45 (h : xH) (v2 : Int32) : Option (Int32) :=
  if v2 = (59 : Int32) then
    some (3 : Int32)
  else
    some (4 : Int32)
set_option maxRecDepth 100000 in
set_option maxHeartbeats 4000000 in
theorem j_X5_sortAt_45 {S : Nat × (Nat → Int32)} {h0 : xH} {mc ms cells slots : Nat} {h : xH} {v2 : Int32} {r9 : Int32} (hE : f_X5_sortAt_J45 h v2 = some r9) (hm : cells ≤ mc ∧ slots ≤ ms) : Y S M_X5_sortAt h0 (some (.int r9)) h mc ms 45 [(2, .int v2)] [] h cells slots := by
  unfold f_X5_sortAt_J45 at hE
  refine y_iload_n dX5_sortAt_45 0 rfl ?_
  refine y_bipush (v := (59 : Int32)) dX5_sortAt_46 (by decide) ?_
  refine y_icmp_ne (tgt := 55) dX5_sortAt_48 (by decide) (fun hc4 => ?_) (fun hc4 => ?_)
  · rw [if_pos hc4] at hE
    refine y_iconst (v := (3 : Int32)) dX5_sortAt_51 (by decide) ?_
    refine y_goto (tgt := 56) dX5_sortAt_52 (by decide) ?_
    obtain rfl := Option.some.inj hE
    exact y_ret dX5_sortAt_56 hm.1 hm.2 ⟨_, rfl, rfl⟩
  · rw [if_neg hc4] at hE
    refine y_iconst (v := (4 : Int32)) dX5_sortAt_55 (by decide) ?_
    obtain rfl := Option.some.inj hE
    exact y_ret dX5_sortAt_56 hm.1 hm.2 ⟨_, rfl, rfl⟩
def f_X5_sortAt_J31 (h : xH) (v2 : Int32) : Option (Int32) :=
  if v2 < (48 : Int32) then
    f_X5_sortAt_J45 h v2
  else
    if (57 : Int32) < v2 then
      f_X5_sortAt_J45 h v2
    else
      some (2 : Int32)
set_option maxRecDepth 100000 in
set_option maxHeartbeats 4000000 in
theorem j_X5_sortAt_31 {S : Nat × (Nat → Int32)} {h0 : xH} {mc ms cells slots : Nat} {h : xH} {v2 : Int32} {r9 : Int32} (hE : f_X5_sortAt_J31 h v2 = some r9) (hm : cells ≤ mc ∧ slots ≤ ms) : Y S M_X5_sortAt h0 (some (.int r9)) h mc ms 31 [(2, .int v2)] [] h cells slots := by
  unfold f_X5_sortAt_J31 at hE
  refine y_iload_n dX5_sortAt_31 0 rfl ?_
  refine y_bipush (v := (48 : Int32)) dX5_sortAt_32 (by decide) ?_
  refine y_icmp_lt (tgt := 45) dX5_sortAt_34 (by decide) (fun hc6 => ?_) (fun hc6 => ?_)
  · rw [if_pos hc6] at hE
    refine y_pick [0] rfl ?_
    exact j_X5_sortAt_45 hE hm
  · rw [if_neg hc6] at hE
    refine y_iload_n dX5_sortAt_37 0 rfl ?_
    refine y_bipush (v := (57 : Int32)) dX5_sortAt_38 (by decide) ?_
    refine y_icmp_gt (tgt := 45) dX5_sortAt_40 (by decide) (fun hc5 => ?_) (fun hc5 => ?_)
    · rw [if_pos hc5] at hE
      refine y_pick [0] rfl ?_
      exact j_X5_sortAt_45 hE hm
    · rw [if_neg hc5] at hE
      refine y_iconst (v := (2 : Int32)) dX5_sortAt_43 (by decide) ?_
      obtain rfl := Option.some.inj hE
      exact y_ret dX5_sortAt_44 hm.1 hm.2 ⟨_, rfl, rfl⟩
def f_X5_sortAt (h : xH) (a0 : Nat) (p1 : Int32) : Option (Int32) :=
  (x_gI h a0 5 1).bind fun x1 =>
  if p1 < x1 then
    (x_gR h a0 5 0).bind fun a2 =>
    (x_ld h a2 p1).bind fun x3 =>
    if x3 < (97 : Int32) then
      f_X5_sortAt_J31 h x3
    else
      if (122 : Int32) < x3 then
        f_X5_sortAt_J31 h x3
      else
        some (1 : Int32)
  else
    some (0 : Int32)
set_option maxRecDepth 100000 in
set_option maxHeartbeats 4000000 in
theorem c_X5_sortAt {h : xH} {a0 : Nat} {p1 : Int32} {r9 : Int32} (hE : f_X5_sortAt h a0 p1 = some r9) : Ctr M_X5_sortAt [.ref a0, .int p1] h (some (.int r9)) h 0 0 := by
  refine ctr_of (by decide) (fun _ _ => Nat.le_of_ble_eq_true rfl) (fun S => ?_)
  show Y S M_X5_sortAt h (some (.int r9)) h 0 0 0 [(0, .ref a0), (1, .int p1)] [] h 0 0
  unfold f_X5_sortAt at hE
  refine y_iload_n dX5_sortAt_0 1 rfl ?_
  refine y_aload_n dX5_sortAt_1 0 rfl ?_
  obtain ⟨x1, ex1, hE⟩ := Option.bind_eq_some_iff.mp hE
  refine y_getI fl_X5_15 ex1 dX5_sortAt_2 ?_
  refine y_icmp_lt (tgt := 10) dX5_sortAt_5 (by decide) (fun hc9 => ?_) (fun hc9 => ?_)
  · rw [if_pos hc9] at hE
    refine y_aload_n dX5_sortAt_10 0 rfl ?_
    obtain ⟨a2, ea2, hE⟩ := Option.bind_eq_some_iff.mp hE
    refine y_getR fl_X5_9 ea2 dX5_sortAt_11 ?_
    refine y_iload_n dX5_sortAt_14 1 rfl ?_
    obtain ⟨x3, ex3, hE⟩ := Option.bind_eq_some_iff.mp hE
    refine y_iald ex3 dX5_sortAt_15 ?_
    refine y_istore_n (ls' := [(2, .int x3), (0, .ref a0), (1, .int p1)]) dX5_sortAt_16 (by decide) rfl rfl ?_
    refine y_iload_n dX5_sortAt_17 0 rfl ?_
    refine y_bipush (v := (97 : Int32)) dX5_sortAt_18 (by decide) ?_
    refine y_icmp_lt (tgt := 31) dX5_sortAt_20 (by decide) (fun hc8 => ?_) (fun hc8 => ?_)
    · rw [if_pos hc8] at hE
      refine y_pick [0] rfl ?_
      exact j_X5_sortAt_31 hE ⟨Nat.le_refl _, Nat.le_refl _⟩
    · rw [if_neg hc8] at hE
      refine y_iload_n dX5_sortAt_23 0 rfl ?_
      refine y_bipush (v := (122 : Int32)) dX5_sortAt_24 (by decide) ?_
      refine y_icmp_gt (tgt := 31) dX5_sortAt_26 (by decide) (fun hc7 => ?_) (fun hc7 => ?_)
      · rw [if_pos hc7] at hE
        refine y_pick [0] rfl ?_
        exact j_X5_sortAt_31 hE ⟨Nat.le_refl _, Nat.le_refl _⟩
      · rw [if_neg hc7] at hE
        refine y_iconst (v := (1 : Int32)) dX5_sortAt_29 (by decide) ?_
        obtain rfl := Option.some.inj hE
        exact y_ret dX5_sortAt_30 (Nat.le_refl _) (Nat.le_refl _) ⟨_, rfl, rfl⟩
  · rw [if_neg hc9] at hE
    refine y_iconst (v := (0 : Int32)) dX5_sortAt_8 (by decide) ?_
    obtain rfl := Option.some.inj hE
    exact y_ret dX5_sortAt_9 (Nat.le_refl _) (Nat.le_refl _) ⟨_, rfl, rfl⟩
def f_X5_nextToken_L8 (v0 : Nat) : Nat → xH → Option (xH)
  | 0, _ => none
  | k + 1, h =>
    (x_gI h v0 5 3).bind fun x3 =>
    (x_gI h v0 5 1).bind fun x4 =>
    if x4 ≤ x3 then
      some h
    else
      (x_gR h v0 5 0).bind fun a5 =>
      (x_gI h v0 5 3).bind fun x6 =>
      (x_ld h a5 x6).bind fun x7 =>
      if x7 = (32 : Int32) then
        (x_gI h v0 5 3).bind fun x8 =>
        (x_put h v0 5 3 (.int (x8 + (1 : Int32)))).bind fun h9 =>
        f_X5_nextToken_L8 v0 k h9
      else
        some h
set_option maxRecDepth 100000 in
set_option maxHeartbeats 4000000 in
theorem l_X5_nextToken_8 {S : Nat × (Nat → Int32)} {rv : Option Value} {h0 h1 : xH} {mc ms : Nat} {cells slots : Nat} (hm : cells ≤ mc ∧ slots ≤ ms) (v0 : Nat) : ∀ (k : Nat) (h : xH) (res : xH), f_X5_nextToken_L8 v0 k h = some res → (∀ r9, res = r9 → Y S M_X5_nextToken h0 rv h1 mc ms 46 [(0, .ref v0)] [] r9 cells slots) → Y S M_X5_nextToken h0 rv h1 mc ms 8 [(0, .ref v0)] [] h cells slots := by
  intro k
  induction k with
  | zero =>
    intro _ _ hE
    cases hE
  | succ k ih =>
    intro h res hE K
    unfold f_X5_nextToken_L8 at hE
    refine y_aload_n dX5_nextToken_8 0 rfl ?_
    obtain ⟨x3, ex3, hE⟩ := Option.bind_eq_some_iff.mp hE
    refine y_getI fl_X5_29 ex3 dX5_nextToken_9 ?_
    refine y_aload_n dX5_nextToken_12 0 rfl ?_
    obtain ⟨x4, ex4, hE⟩ := Option.bind_eq_some_iff.mp hE
    refine y_getI fl_X5_15 ex4 dX5_nextToken_13 ?_
    refine y_icmp_ge (tgt := 46) dX5_nextToken_16 (by decide) (fun hc11 => ?_) (fun hc11 => ?_)
    · rw [if_pos hc11] at hE
      obtain rfl := Option.some.inj hE
      exact y_pick [0] rfl (K _ rfl)
    · rw [if_neg hc11] at hE
      refine y_aload_n dX5_nextToken_19 0 rfl ?_
      obtain ⟨a5, ea5, hE⟩ := Option.bind_eq_some_iff.mp hE
      refine y_getR fl_X5_9 ea5 dX5_nextToken_20 ?_
      refine y_aload_n dX5_nextToken_23 0 rfl ?_
      obtain ⟨x6, ex6, hE⟩ := Option.bind_eq_some_iff.mp hE
      refine y_getI fl_X5_29 ex6 dX5_nextToken_24 ?_
      obtain ⟨x7, ex7, hE⟩ := Option.bind_eq_some_iff.mp hE
      refine y_iald ex7 dX5_nextToken_27 ?_
      refine y_bipush (v := (32 : Int32)) dX5_nextToken_28 (by decide) ?_
      refine y_icmp_ne (tgt := 46) dX5_nextToken_30 (by decide) (fun hc10 => ?_) (fun hc10 => ?_)
      · rw [if_pos hc10] at hE
        refine y_aload_n dX5_nextToken_33 0 rfl ?_
        refine y_dup dX5_nextToken_34 rfl ?_
        obtain ⟨x8, ex8, hE⟩ := Option.bind_eq_some_iff.mp hE
        refine y_getI fl_X5_29 ex8 dX5_nextToken_35 ?_
        refine y_iconst (v := (1 : Int32)) dX5_nextToken_38 (by decide) ?_
        refine y_iadd dX5_nextToken_39 ?_
        obtain ⟨h9, eh9, hE⟩ := Option.bind_eq_some_iff.mp hE
        refine y_putI fp_X5_29 eh9 dX5_nextToken_40 ?_
        refine y_goto (tgt := 8) dX5_nextToken_43 (by decide) ?_
        refine y_pick [0] rfl ?_
        exact ih _ _ hE K
      · rw [if_neg hc10] at hE
        obtain rfl := Option.some.inj hE
        exact y_pick [0] rfl (K _ rfl)
def f_X5_nextToken_L98 (v0 : Nat) : Nat → xH → Option (xH)
  | 0, _ => none
  | k + 1, h =>
    (x_gI h v0 5 4).bind fun x24 =>
    (x_gI h v0 5 1).bind fun x25 =>
    if x25 ≤ x24 then
      some h
    else
      (x_gI h v0 5 4).bind fun x26 =>
      (x_ob h v0 5).bind fun u27 =>
      (f_X5_sortAt h v0 x26).bind fun q28 =>
      (x_gI h v0 5 2).bind fun x29 =>
      if q28 = x29 then
        (x_gI h v0 5 4).bind fun x30 =>
        (x_put h v0 5 4 (.int (x30 + (1 : Int32)))).bind fun h31 =>
        f_X5_nextToken_L98 v0 k h31
      else
        some h
set_option maxRecDepth 100000 in
set_option maxHeartbeats 4000000 in
theorem l_X5_nextToken_98 {S : Nat × (Nat → Int32)} {rv : Option Value} {h0 h1 : xH} {mc ms : Nat} {cells slots : Nat} (hm : cells ≤ mc ∧ slots ≤ ms) (v0 : Nat) : ∀ (k : Nat) (h : xH) (res : xH), f_X5_nextToken_L98 v0 k h = some res → (∀ r9, res = r9 → Y S M_X5_nextToken h0 rv h1 mc ms 137 [] [] r9 cells slots) → Y S M_X5_nextToken h0 rv h1 mc ms 98 [(0, .ref v0)] [] h cells slots := by
  intro k
  induction k with
  | zero =>
    intro _ _ hE
    cases hE
  | succ k ih =>
    intro h res hE K
    unfold f_X5_nextToken_L98 at hE
    refine y_aload_n dX5_nextToken_98 0 rfl ?_
    obtain ⟨x24, ex24, hE⟩ := Option.bind_eq_some_iff.mp hE
    refine y_getI fl_X5_19 ex24 dX5_nextToken_99 ?_
    refine y_aload_n dX5_nextToken_102 0 rfl ?_
    obtain ⟨x25, ex25, hE⟩ := Option.bind_eq_some_iff.mp hE
    refine y_getI fl_X5_15 ex25 dX5_nextToken_103 ?_
    refine y_icmp_ge (tgt := 137) dX5_nextToken_106 (by decide) (fun hc33 => ?_) (fun hc33 => ?_)
    · rw [if_pos hc33] at hE
      obtain rfl := Option.some.inj hE
      exact y_pick [] rfl (K _ rfl)
    · rw [if_neg hc33] at hE
      refine y_aload_n dX5_nextToken_109 0 rfl ?_
      refine y_aload_n dX5_nextToken_110 0 rfl ?_
      obtain ⟨x26, ex26, hE⟩ := Option.bind_eq_some_iff.mp hE
      refine y_getI fl_X5_19 ex26 dX5_nextToken_111 ?_
      obtain ⟨u27, eu27, hE⟩ := Option.bind_eq_some_iff.mp hE
      obtain ⟨q28, eq28, hE⟩ := Option.bind_eq_some_iff.mp hE
      refine y_cVi0 (st := []) (as := [.int x26]) (c_X5_sortAt eq28) lk_X5_35 in_X5_sortAt se_X5_sortAt rfl eu27 ⟨Nat.le_of_ble_eq_true rfl, Nat.le_of_ble_eq_true rfl⟩ (Nat.le_of_ble_eq_true rfl) dX5_nextToken_114 hm rfl ?_
      refine y_aload_n dX5_nextToken_117 0 rfl ?_
      obtain ⟨x29, ex29, hE⟩ := Option.bind_eq_some_iff.mp hE
      refine y_getI fl_X5_32 ex29 dX5_nextToken_118 ?_
      refine y_icmp_ne (tgt := 137) dX5_nextToken_121 (by decide) (fun hc32 => ?_) (fun hc32 => ?_)
      · rw [if_pos hc32] at hE
        refine y_aload_n dX5_nextToken_124 0 rfl ?_
        refine y_dup dX5_nextToken_125 rfl ?_
        obtain ⟨x30, ex30, hE⟩ := Option.bind_eq_some_iff.mp hE
        refine y_getI fl_X5_19 ex30 dX5_nextToken_126 ?_
        refine y_iconst (v := (1 : Int32)) dX5_nextToken_129 (by decide) ?_
        refine y_iadd dX5_nextToken_130 ?_
        obtain ⟨h31, eh31, hE⟩ := Option.bind_eq_some_iff.mp hE
        refine y_putI fp_X5_19 eh31 dX5_nextToken_131 ?_
        refine y_goto (tgt := 98) dX5_nextToken_134 (by decide) ?_
        refine y_pick [0] rfl ?_
        exact ih _ _ hE K
      · rw [if_neg hc32] at hE
        obtain rfl := Option.some.inj hE
        exact y_pick [] rfl (K _ rfl)
def f_X5_nextToken (n : Nat) (h : xH) (a0 : Nat) : Option (xH) :=
  (x_gI h a0 5 4).bind fun x1 =>
  (x_put h a0 5 3 (.int x1)).bind fun h2 =>
  (f_X5_nextToken_L8 a0 n h2).bind fun q12 =>
  (x_gI q12 a0 5 3).bind fun x13 =>
  (x_ob q12 a0 5).bind fun u14 =>
  (f_X5_sortAt q12 a0 x13).bind fun q15 =>
  (x_put q12 a0 5 2 (.int q15)).bind fun h16 =>
  (x_gI h16 a0 5 2).bind fun x17 =>
  (
    if x17 = 0 then
      (x_gI h16 a0 5 3).bind fun x19 =>
      some x19
    else
      (x_gI h16 a0 5 3).bind fun x20 =>
      some (x20 + (1 : Int32))
  ).bind fun q18 =>
  (x_put h16 a0 5 4 (.int q18)).bind fun h22 =>
  (x_gI h22 a0 5 2).bind fun x23 =>
  if x23 = (1 : Int32) then
    (f_X5_nextToken_L98 a0 n h22).bind fun q34 =>
    some q34
  else
    (x_gI h22 a0 5 2).bind fun x35 =>
    if x35 = (2 : Int32) then
      (f_X5_nextToken_L98 a0 n h22).bind fun q36 =>
      some q36
    else
      some h22
set_option maxRecDepth 100000 in
set_option maxHeartbeats 4000000 in
theorem c_X5_nextToken {n : Nat} {h : xH} {a0 : Nat} {hz : xH} (hE : f_X5_nextToken n h a0 = some hz) : Ctr M_X5_nextToken [.ref a0] h none hz 0 0 := by
  refine ctr_of (by decide) (fun _ _ => Nat.le_of_ble_eq_true rfl) (fun S => ?_)
  show Y S M_X5_nextToken h none hz 0 0 0 [(0, .ref a0)] [] h 0 0
  unfold f_X5_nextToken at hE
  refine y_aload_n dX5_nextToken_0 0 rfl ?_
  refine y_aload_n dX5_nextToken_1 0 rfl ?_
  obtain ⟨x1, ex1, hE⟩ := Option.bind_eq_some_iff.mp hE
  refine y_getI fl_X5_19 ex1 dX5_nextToken_2 ?_
  obtain ⟨h2, eh2, hE⟩ := Option.bind_eq_some_iff.mp hE
  refine y_putI fp_X5_29 eh2 dX5_nextToken_5 ?_
  obtain ⟨q12, eq12, hE⟩ := Option.bind_eq_some_iff.mp hE
  refine y_pick [0] rfl ?_
  refine l_X5_nextToken_8 (S := S) ⟨Nat.le_refl _, Nat.le_refl _⟩ a0 n h2 _ eq12 (fun r8 hr8 => ?_)
  subst hr8
  refine y_aload_n dX5_nextToken_46 0 rfl ?_
  refine y_aload_n dX5_nextToken_47 0 rfl ?_
  refine y_aload_n dX5_nextToken_48 0 rfl ?_
  obtain ⟨x13, ex13, hE⟩ := Option.bind_eq_some_iff.mp hE
  refine y_getI fl_X5_29 ex13 dX5_nextToken_49 ?_
  obtain ⟨u14, eu14, hE⟩ := Option.bind_eq_some_iff.mp hE
  obtain ⟨q15, eq15, hE⟩ := Option.bind_eq_some_iff.mp hE
  refine y_cVi0 (st := [.ref a0]) (as := [.int x13]) (c_X5_sortAt eq15) lk_X5_35 in_X5_sortAt se_X5_sortAt rfl eu14 ⟨Nat.le_of_ble_eq_true rfl, Nat.le_of_ble_eq_true rfl⟩ (Nat.le_of_ble_eq_true rfl) dX5_nextToken_52 ⟨Nat.le_refl _, Nat.le_refl _⟩ rfl ?_
  obtain ⟨h16, eh16, hE⟩ := Option.bind_eq_some_iff.mp hE
  refine y_putI fp_X5_32 eh16 dX5_nextToken_55 ?_
  refine y_aload_n dX5_nextToken_58 0 rfl ?_
  refine y_aload_n dX5_nextToken_59 0 rfl ?_
  obtain ⟨x17, ex17, hE⟩ := Option.bind_eq_some_iff.mp hE
  refine y_getI fl_X5_32 ex17 dX5_nextToken_60 ?_
  obtain ⟨q18, eJ, hE⟩ := Option.bind_eq_some_iff.mp hE
  have hJ : Y S M_X5_nextToken h none hz 0 0 79 [(0, .ref a0)] [.int q18, .ref a0] h16 0 0 := by
    obtain ⟨h22, eh22, hE⟩ := Option.bind_eq_some_iff.mp hE
    refine y_putI fp_X5_19 eh22 dX5_nextToken_79 ?_
    refine y_aload_n dX5_nextToken_82 0 rfl ?_
    obtain ⟨x23, ex23, hE⟩ := Option.bind_eq_some_iff.mp hE
    refine y_getI fl_X5_32 ex23 dX5_nextToken_83 ?_
    refine y_iconst (v := (1 : Int32)) dX5_nextToken_86 (by decide) ?_
    refine y_icmp_eq (tgt := 98) dX5_nextToken_87 (by decide) (fun hc38 => ?_) (fun hc38 => ?_)
    · rw [if_pos hc38] at hE
      obtain ⟨q34, eq34, hE⟩ := Option.bind_eq_some_iff.mp hE
      refine y_pick [0] rfl ?_
      refine l_X5_nextToken_98 (S := S) ⟨Nat.le_refl _, Nat.le_refl _⟩ a0 n h22 _ eq34 (fun r8 hr8 => ?_)
      subst hr8
      obtain rfl := Option.some.inj hE
      exact y_ret dX5_nextToken_137 (Nat.le_refl _) (Nat.le_refl _) rfl
    · rw [if_neg hc38] at hE
      refine y_aload_n dX5_nextToken_90 0 rfl ?_
      obtain ⟨x35, ex35, hE⟩ := Option.bind_eq_some_iff.mp hE
      refine y_getI fl_X5_32 ex35 dX5_nextToken_91 ?_
      refine y_iconst (v := (2 : Int32)) dX5_nextToken_94 (by decide) ?_
      refine y_icmp_ne (tgt := 137) dX5_nextToken_95 (by decide) (fun hc37 => ?_) (fun hc37 => ?_)
      · rw [if_pos hc37] at hE
        obtain ⟨q36, eq36, hE⟩ := Option.bind_eq_some_iff.mp hE
        refine y_pick [0] rfl ?_
        refine l_X5_nextToken_98 (S := S) ⟨Nat.le_refl _, Nat.le_refl _⟩ a0 n h22 _ eq36 (fun r8 hr8 => ?_)
        subst hr8
        obtain rfl := Option.some.inj hE
        exact y_ret dX5_nextToken_137 (Nat.le_refl _) (Nat.le_refl _) rfl
      · rw [if_neg hc37] at hE
        obtain rfl := Option.some.inj hE
        exact y_ret dX5_nextToken_137 (Nat.le_refl _) (Nat.le_refl _) rfl
  clear hE
  have hE := eJ
  clear eJ
  refine y_if_ne (tgt := 73) dX5_nextToken_63 (by decide) (fun hc21 => ?_) (fun hc21 => ?_)
  · rw [if_pos hc21] at hE
    refine y_aload_n dX5_nextToken_66 0 rfl ?_
    obtain ⟨x19, ex19, hE⟩ := Option.bind_eq_some_iff.mp hE
    refine y_getI fl_X5_29 ex19 dX5_nextToken_67 ?_
    refine y_goto (tgt := 79) dX5_nextToken_70 (by decide) ?_
    obtain rfl := Option.some.inj hE
    exact y_pick [0] rfl hJ
  · rw [if_neg hc21] at hE
    refine y_aload_n dX5_nextToken_73 0 rfl ?_
    obtain ⟨x20, ex20, hE⟩ := Option.bind_eq_some_iff.mp hE
    refine y_getI fl_X5_29 ex20 dX5_nextToken_74 ?_
    refine y_iconst (v := (1 : Int32)) dX5_nextToken_77 (by decide) ?_
    refine y_iadd dX5_nextToken_78 ?_
    obtain rfl := Option.some.inj hE
    exact y_pick [0] rfl hJ
def f_X5_isWord_L28 (h : xH) (v0 : Nat) (v1 : Nat) : Nat → Int32 → Option (Sum (Int32) (Unit))
  | 0, _ => none
  | k + 1, v2 =>
    (x_slen v1).bind fun x5 =>
    if x5 ≤ v2 then
      some (.inr ())
    else
      (x_gR h v0 5 0).bind fun a6 =>
      (x_gI h v0 5 3).bind fun x7 =>
      (x_ld h a6 (x7 + v2)).bind fun x8 =>
      (x_sch v1 v2).bind fun x9 =>
      if x8 = x9 then
        (some (v2 + (1 : Int32))).bind fun x10 =>
        f_X5_isWord_L28 h v0 v1 k x10
      else
        some (.inl (0 : Int32))
set_option maxRecDepth 100000 in
set_option maxHeartbeats 4000000 in
theorem l_X5_isWord_28 {S : Nat × (Nat → Int32)} {rv : Option Value} {h0 h1 : xH} {mc ms : Nat} {cells slots : Nat} (hm : cells ≤ mc ∧ slots ≤ ms) (h : xH) (v0 : Nat) (v1 : Nat) : ∀ (k : Nat) (v2 : Int32) (res : Sum (Int32) (Unit)), f_X5_isWord_L28 h v0 v1 k v2 = some res → (∀ r9, res = .inl r9 → rv = some (.int r9) ∧ h1 = h) → (∀ r9, res = .inr r9 → Y S M_X5_isWord h0 rv h1 mc ms 63 [] [] h cells slots) → Y S M_X5_isWord h0 rv h1 mc ms 28 [(0, .ref v0), (1, .ref v1), (2, .int v2)] [] h cells slots := by
  intro k
  induction k with
  | zero =>
    intro _ _ hE
    cases hE
  | succ k ih =>
    intro v2 res hE KR K
    unfold f_X5_isWord_L28 at hE
    refine y_iload_n dX5_isWord_28 2 rfl ?_
    refine y_aload_n dX5_isWord_29 1 rfl ?_
    obtain ⟨x5, ex5, hE⟩ := Option.bind_eq_some_iff.mp hE
    refine y_strlen ex5 (x_wt (tb 484 (by decide +kernel)) rfl) (by decide) (by decide) (Nat.le_of_ble_eq_true rfl) hm dX5_isWord_30 ?_
    refine y_icmp_ge (tgt := 63) dX5_isWord_33 (by decide) (fun hc12 => ?_) (fun hc12 => ?_)
    · rw [if_pos hc12] at hE
      obtain rfl := Option.some.inj hE
      exact y_pick [] rfl (K _ rfl)
    · rw [if_neg hc12] at hE
      refine y_aload_n dX5_isWord_36 0 rfl ?_
      obtain ⟨a6, ea6, hE⟩ := Option.bind_eq_some_iff.mp hE
      refine y_getR fl_X5_9 ea6 dX5_isWord_37 ?_
      refine y_aload_n dX5_isWord_40 0 rfl ?_
      obtain ⟨x7, ex7, hE⟩ := Option.bind_eq_some_iff.mp hE
      refine y_getI fl_X5_29 ex7 dX5_isWord_41 ?_
      refine y_iload_n dX5_isWord_44 2 rfl ?_
      refine y_iadd dX5_isWord_45 ?_
      obtain ⟨x8, ex8, hE⟩ := Option.bind_eq_some_iff.mp hE
      refine y_iald ex8 dX5_isWord_46 ?_
      refine y_aload_n dX5_isWord_47 1 rfl ?_
      refine y_iload_n dX5_isWord_48 2 rfl ?_
      obtain ⟨x9, ex9, hE⟩ := Option.bind_eq_some_iff.mp hE
      refine y_charAt ex9 (x_wt (tb 494 (by decide +kernel)) rfl) (by decide) (by decide) (Nat.le_of_ble_eq_true rfl) hm dX5_isWord_49 ?_
      refine y_icmp_eq (tgt := 57) dX5_isWord_52 (by decide) (fun hc11 => ?_) (fun hc11 => ?_)
      · rw [if_pos hc11] at hE
        obtain ⟨x10, ex10, hE⟩ := Option.bind_eq_some_iff.mp hE
        refine y_iinc (ls' := [(2, .int x10), (0, .ref v0), (1, .ref v1)]) dX5_isWord_57 2 rfl (Option.some.inj ex10) (by decide) rfl ?_
        refine y_goto (tgt := 28) dX5_isWord_60 (by decide) ?_
        refine y_pick [1, 2, 0] rfl ?_
        exact ih _ _ hE KR K
      · rw [if_neg hc11] at hE
        refine y_iconst (v := (0 : Int32)) dX5_isWord_55 (by decide) ?_
        obtain rfl := Option.some.inj hE
        obtain ⟨rfl, rfl⟩ := KR _ rfl
        exact y_ret dX5_isWord_56 hm.1 hm.2 ⟨_, rfl, rfl⟩
def f_X5_isWord (n : Nat) (h : xH) (a0 : Nat) (o1 : Nat) : Option (Int32) :=
  (x_gI h a0 5 2).bind fun x1 =>
  if x1 = (1 : Int32) then
    (x_gI h a0 5 4).bind fun x2 =>
    (x_gI h a0 5 3).bind fun x3 =>
    (x_slen o1).bind fun x4 =>
    if (x2 - x3) = x4 then
      (f_X5_isWord_L28 h a0 o1 n (0 : Int32)).bind fun q13 =>
      match q13 with
      | .inl r14 => some r14
      | .inr e15 =>
        some (1 : Int32)
    else
      some (0 : Int32)
  else
    some (0 : Int32)
set_option maxRecDepth 100000 in
set_option maxHeartbeats 4000000 in
theorem c_X5_isWord {n : Nat} {h : xH} {a0 : Nat} {o1 : Nat} {r9 : Int32} (hE : f_X5_isWord n h a0 o1 = some r9) : Ctr M_X5_isWord [.ref a0, .ref o1] h (some (.int r9)) h 0 0 := by
  refine ctr_of (by decide) (fun _ _ => Nat.le_of_ble_eq_true rfl) (fun S => ?_)
  show Y S M_X5_isWord h (some (.int r9)) h 0 0 0 [(0, .ref a0), (1, .ref o1)] [] h 0 0
  unfold f_X5_isWord at hE
  refine y_aload_n dX5_isWord_0 0 rfl ?_
  obtain ⟨x1, ex1, hE⟩ := Option.bind_eq_some_iff.mp hE
  refine y_getI fl_X5_32 ex1 dX5_isWord_1 ?_
  refine y_iconst (v := (1 : Int32)) dX5_isWord_4 (by decide) ?_
  refine y_icmp_ne (tgt := 24) dX5_isWord_5 (by decide) (fun hc17 => ?_) (fun hc17 => ?_)
  · rw [if_pos hc17] at hE
    refine y_aload_n dX5_isWord_8 0 rfl ?_
    obtain ⟨x2, ex2, hE⟩ := Option.bind_eq_some_iff.mp hE
    refine y_getI fl_X5_19 ex2 dX5_isWord_9 ?_
    refine y_aload_n dX5_isWord_12 0 rfl ?_
    obtain ⟨x3, ex3, hE⟩ := Option.bind_eq_some_iff.mp hE
    refine y_getI fl_X5_29 ex3 dX5_isWord_13 ?_
    refine y_isub dX5_isWord_16 ?_
    refine y_aload_n dX5_isWord_17 1 rfl ?_
    obtain ⟨x4, ex4, hE⟩ := Option.bind_eq_some_iff.mp hE
    refine y_strlen ex4 (x_wt (tb 484 (by decide +kernel)) rfl) (by decide) (by decide) (Nat.le_of_ble_eq_true rfl) ⟨Nat.le_refl _, Nat.le_refl _⟩ dX5_isWord_18 ?_
    refine y_icmp_eq (tgt := 26) dX5_isWord_21 (by decide) (fun hc16 => ?_) (fun hc16 => ?_)
    · rw [if_pos hc16] at hE
      refine y_iconst (v := (0 : Int32)) dX5_isWord_26 (by decide) ?_
      refine y_istore_n (ls' := [(2, .int (0 : Int32)), (0, .ref a0), (1, .ref o1)]) dX5_isWord_27 (by decide) rfl rfl ?_
      obtain ⟨q13, eq13, hE⟩ := Option.bind_eq_some_iff.mp hE
      refine y_pick [1, 2, 0] rfl ?_
      cases q13 with
      | inl r14 =>
        dsimp only at hE
        cases hE
        exact l_X5_isWord_28 (S := S) ⟨Nat.le_refl _, Nat.le_refl _⟩ h a0 o1 n (0 : Int32) _ eq13 (fun r8 hr8 => by cases hr8; exact ⟨rfl, rfl⟩) (fun r8 hr8 => by cases hr8)
      | inr e15 =>
        dsimp only at hE
        refine l_X5_isWord_28 (S := S) ⟨Nat.le_refl _, Nat.le_refl _⟩ h a0 o1 n (0 : Int32) _ eq13 (fun r8 hr8 => by cases hr8) (fun r8 hr8 => ?_)
        cases hr8
        refine y_iconst (v := (1 : Int32)) dX5_isWord_63 (by decide) ?_
        obtain rfl := Option.some.inj hE
        exact y_ret dX5_isWord_64 (Nat.le_refl _) (Nat.le_refl _) ⟨_, rfl, rfl⟩
    · rw [if_neg hc16] at hE
      refine y_iconst (v := (0 : Int32)) dX5_isWord_24 (by decide) ?_
      obtain rfl := Option.some.inj hE
      exact y_ret dX5_isWord_25 (Nat.le_refl _) (Nat.le_refl _) ⟨_, rfl, rfl⟩
  · rw [if_neg hc17] at hE
    refine y_iconst (v := (0 : Int32)) dX5_isWord_24 (by decide) ?_
    obtain rfl := Option.some.inj hE
    exact y_ret dX5_isWord_25 (Nat.le_refl _) (Nat.le_refl _) ⟨_, rfl, rfl⟩
def f_X5_readNumber_L32 (h : xH) (v0 : Nat) (v1 : Int32) (v2 : Int32) (v3 : Int32) : Nat → Int32 → Int32 → Option (Int32)
  | 0, _, _ => none
  | k + 1, v4, v5 =>
    (x_gI h v0 5 4).bind fun x5 =>
    if x5 ≤ v5 then
      some v4
    else
      (x_gR h v0 5 0).bind fun a6 =>
      (x_ld h a6 v5).bind fun x7 =>
      (some (((v4 * (10 : Int32)) + x7) - (48 : Int32))).bind fun x8 =>
      (some (v5 + (1 : Int32))).bind fun x9 =>
      f_X5_readNumber_L32 h v0 v1 v2 v3 k x8 x9
set_option maxRecDepth 100000 in
set_option maxHeartbeats 4000000 in
theorem l_X5_readNumber_32 {S : Nat × (Nat → Int32)} {rv : Option Value} {h0 h1 : xH} {mc ms : Nat} {cells slots : Nat} (hm : cells ≤ mc ∧ slots ≤ ms) (h : xH) (v0 : Nat) (v1 : Int32) (v2 : Int32) (v3 : Int32) : ∀ (k : Nat) (v4 : Int32) (v5 : Int32) (res : Int32), f_X5_readNumber_L32 h v0 v1 v2 v3 k v4 v5 = some res → (∀ r9, res = r9 → Y S M_X5_readNumber h0 rv h1 mc ms 65 [(0, .ref v0), (1, .int v1), (2, .int v2), (3, .int v3), (4, .int r9)] [] h cells slots) → Y S M_X5_readNumber h0 rv h1 mc ms 32 [(0, .ref v0), (1, .int v1), (2, .int v2), (3, .int v3), (4, .int v4), (5, .int v5)] [] h cells slots := by
  intro k
  induction k with
  | zero =>
    intro _ _ _ hE
    cases hE
  | succ k ih =>
    intro v4 v5 res hE K
    unfold f_X5_readNumber_L32 at hE
    refine y_iload dX5_readNumber_32 5 rfl ?_
    refine y_aload_n dX5_readNumber_34 0 rfl ?_
    obtain ⟨x5, ex5, hE⟩ := Option.bind_eq_some_iff.mp hE
    refine y_getI fl_X5_19 ex5 dX5_readNumber_35 ?_
    refine y_icmp_ge (tgt := 65) dX5_readNumber_38 (by decide) (fun hc10 => ?_) (fun hc10 => ?_)
    · rw [if_pos hc10] at hE
      obtain rfl := Option.some.inj hE
      exact y_pick [0, 1, 2, 3, 4] rfl (K _ rfl)
    · rw [if_neg hc10] at hE
      refine y_iload dX5_readNumber_41 4 rfl ?_
      refine y_bipush (v := (10 : Int32)) dX5_readNumber_43 (by decide) ?_
      refine y_imul dX5_readNumber_45 ?_
      refine y_aload_n dX5_readNumber_46 0 rfl ?_
      obtain ⟨a6, ea6, hE⟩ := Option.bind_eq_some_iff.mp hE
      refine y_getR fl_X5_9 ea6 dX5_readNumber_47 ?_
      refine y_iload dX5_readNumber_50 5 rfl ?_
      obtain ⟨x7, ex7, hE⟩ := Option.bind_eq_some_iff.mp hE
      refine y_iald ex7 dX5_readNumber_52 ?_
      refine y_iadd dX5_readNumber_53 ?_
      refine y_bipush (v := (48 : Int32)) dX5_readNumber_54 (by decide) ?_
      refine y_isub dX5_readNumber_56 ?_
      obtain ⟨x8, ex8, hE⟩ := Option.bind_eq_some_iff.mp hE
      refine y_istore (ls' := [(4, .int x8), (0, .ref v0), (1, .int v1), (2, .int v2), (3, .int v3), (5, .int v5)]) dX5_readNumber_57 (by decide) (Option.some.inj ex8) rfl ?_
      obtain ⟨x9, ex9, hE⟩ := Option.bind_eq_some_iff.mp hE
      refine y_iinc (ls' := [(5, .int x9), (4, .int x8), (0, .ref v0), (1, .int v1), (2, .int v2), (3, .int v3)]) dX5_readNumber_59 5 rfl (Option.some.inj ex9) (by decide) rfl ?_
      refine y_goto (tgt := 32) dX5_readNumber_62 (by decide) ?_
      refine y_pick [2, 3, 4, 5, 1, 0] rfl ?_
      exact ih _ _ _ hE K
def f_X5_readNumber (n : Nat) (h : xH) (a0 : Nat) (p1 : Int32) (p2 : Int32) (p3 : Int32) : Option (Int32 × xH) :=
  (x_gI h a0 5 2).bind fun x1 =>
  if x1 = (2 : Int32) then
    (x_gI h a0 5 4).bind fun x2 =>
    (x_gI h a0 5 3).bind fun x3 =>
    if (x2 - x3) ≤ (2 : Int32) then
      (x_gI h a0 5 3).bind fun x4 =>
      (f_X5_readNumber_L32 h a0 p1 p2 p3 n (0 : Int32) x4).bind fun q11 =>
      if q11 < p1 then
        some ((-1 : Int32), h)
      else
        if p2 < q11 then
          some ((-1 : Int32), h)
        else
          if q11 = p3 then
            some ((-1 : Int32), h)
          else
            (x_ob h a0 5).bind fun u12 =>
            (f_X5_nextToken n h a0).bind fun q13 =>
            some (q11, q13)
    else
      some ((-1 : Int32), h)
  else
    some ((-1 : Int32), h)
set_option maxRecDepth 100000 in
set_option maxHeartbeats 4000000 in
theorem c_X5_readNumber {n : Nat} {h : xH} {a0 : Nat} {p1 : Int32} {p2 : Int32} {p3 : Int32} {r9 : Int32} {hz : xH} (hE : f_X5_readNumber n h a0 p1 p2 p3 = some (r9, hz)) : Ctr M_X5_readNumber [.ref a0, .int p1, .int p2, .int p3] h (some (.int r9)) hz 0 0 := by
  refine ctr_of (by decide) (fun _ _ => Nat.le_of_ble_eq_true rfl) (fun S => ?_)
  show Y S M_X5_readNumber h (some (.int r9)) hz 0 0 0 [(0, .ref a0), (1, .int p1), (2, .int p2), (3, .int p3)] [] h 0 0
  unfold f_X5_readNumber at hE
  refine y_aload_n dX5_readNumber_0 0 rfl ?_
  obtain ⟨x1, ex1, hE⟩ := Option.bind_eq_some_iff.mp hE
  refine y_getI fl_X5_32 ex1 dX5_readNumber_1 ?_
  refine y_iconst (v := (2 : Int32)) dX5_readNumber_4 (by decide) ?_
  refine y_icmp_ne (tgt := 21) dX5_readNumber_5 (by decide) (fun hc18 => ?_) (fun hc18 => ?_)
  · rw [if_pos hc18] at hE
    refine y_aload_n dX5_readNumber_8 0 rfl ?_
    obtain ⟨x2, ex2, hE⟩ := Option.bind_eq_some_iff.mp hE
    refine y_getI fl_X5_19 ex2 dX5_readNumber_9 ?_
    refine y_aload_n dX5_readNumber_12 0 rfl ?_
    obtain ⟨x3, ex3, hE⟩ := Option.bind_eq_some_iff.mp hE
    refine y_getI fl_X5_29 ex3 dX5_readNumber_13 ?_
    refine y_isub dX5_readNumber_16 ?_
    refine y_iconst (v := (2 : Int32)) dX5_readNumber_17 (by decide) ?_
    refine y_icmp_le (tgt := 23) dX5_readNumber_18 (by decide) (fun hc17 => ?_) (fun hc17 => ?_)
    · rw [if_pos hc17] at hE
      refine y_iconst (v := (0 : Int32)) dX5_readNumber_23 (by decide) ?_
      refine y_istore (ls' := [(4, .int (0 : Int32)), (0, .ref a0), (1, .int p1), (2, .int p2), (3, .int p3)]) dX5_readNumber_24 (by decide) rfl rfl ?_
      refine y_aload_n dX5_readNumber_26 1 rfl ?_
      obtain ⟨x4, ex4, hE⟩ := Option.bind_eq_some_iff.mp hE
      refine y_getI fl_X5_29 ex4 dX5_readNumber_27 ?_
      refine y_istore (ls' := [(5, .int x4), (4, .int (0 : Int32)), (0, .ref a0), (1, .int p1), (2, .int p2), (3, .int p3)]) dX5_readNumber_30 (by decide) rfl rfl ?_
      obtain ⟨q11, eq11, hE⟩ := Option.bind_eq_some_iff.mp hE
      refine y_pick [2, 3, 4, 5, 1, 0] rfl ?_
      refine l_X5_readNumber_32 (S := S) ⟨Nat.le_refl _, Nat.le_refl _⟩ h a0 p1 p2 p3 n (0 : Int32) x4 _ eq11 (fun r8 hr8 => ?_)
      subst hr8
      refine y_iload dX5_readNumber_65 4 rfl ?_
      refine y_iload_n dX5_readNumber_67 1 rfl ?_
      refine y_icmp_lt (tgt := 83) dX5_readNumber_68 (by decide) (fun hc16 => ?_) (fun hc16 => ?_)
      · rw [if_pos hc16] at hE
        refine y_iconst (v := (-1 : Int32)) dX5_readNumber_83 (by decide) ?_
        obtain ⟨rfl, rfl⟩ := x_inj2 hE
        exact y_ret dX5_readNumber_84 (Nat.le_refl _) (Nat.le_refl _) ⟨_, rfl, rfl⟩
      · rw [if_neg hc16] at hE
        refine y_iload dX5_readNumber_71 4 rfl ?_
        refine y_iload_n dX5_readNumber_73 2 rfl ?_
        refine y_icmp_gt (tgt := 83) dX5_readNumber_74 (by decide) (fun hc15 => ?_) (fun hc15 => ?_)
        · rw [if_pos hc15] at hE
          refine y_iconst (v := (-1 : Int32)) dX5_readNumber_83 (by decide) ?_
          obtain ⟨rfl, rfl⟩ := x_inj2 hE
          exact y_ret dX5_readNumber_84 (Nat.le_refl _) (Nat.le_refl _) ⟨_, rfl, rfl⟩
        · rw [if_neg hc15] at hE
          refine y_iload dX5_readNumber_77 4 rfl ?_
          refine y_iload_n dX5_readNumber_79 3 rfl ?_
          refine y_icmp_ne (tgt := 85) dX5_readNumber_80 (by decide) (fun hc14 => ?_) (fun hc14 => ?_)
          · rw [if_pos hc14] at hE
            refine y_iconst (v := (-1 : Int32)) dX5_readNumber_83 (by decide) ?_
            obtain ⟨rfl, rfl⟩ := x_inj2 hE
            exact y_ret dX5_readNumber_84 (Nat.le_refl _) (Nat.le_refl _) ⟨_, rfl, rfl⟩
          · rw [if_neg hc14] at hE
            refine y_aload_n dX5_readNumber_85 0 rfl ?_
            obtain ⟨u12, eu12, hE⟩ := Option.bind_eq_some_iff.mp hE
            obtain ⟨q13, eq13, hE⟩ := Option.bind_eq_some_iff.mp hE
            refine y_cVv0 (st := []) (as := []) (c_X5_nextToken eq13) lk_X5_22 in_X5_nextToken se_X5_nextToken rfl eu12 ⟨Nat.le_of_ble_eq_true rfl, Nat.le_of_ble_eq_true rfl⟩ (Nat.le_of_ble_eq_true rfl) dX5_readNumber_86 ⟨Nat.le_refl _, Nat.le_refl _⟩ rfl ?_
            refine y_iload dX5_readNumber_89 4 rfl ?_
            obtain ⟨rfl, rfl⟩ := x_inj2 hE
            exact y_ret dX5_readNumber_91 (Nat.le_refl _) (Nat.le_refl _) ⟨_, rfl, rfl⟩
    · rw [if_neg hc17] at hE
      refine y_iconst (v := (-1 : Int32)) dX5_readNumber_21 (by decide) ?_
      obtain ⟨rfl, rfl⟩ := x_inj2 hE
      exact y_ret dX5_readNumber_22 (Nat.le_refl _) (Nat.le_refl _) ⟨_, rfl, rfl⟩
  · rw [if_neg hc18] at hE
    refine y_iconst (v := (-1 : Int32)) dX5_readNumber_21 (by decide) ?_
    obtain ⟨rfl, rfl⟩ := x_inj2 hE
    exact y_ret dX5_readNumber_22 (Nat.le_refl _) (Nat.le_refl _) ⟨_, rfl, rfl⟩
def f_X5_readDoor (n : Nat) (h : xH) (a0 : Nat) (o1 : Nat) : Option (Int32 × xH) :=
  (x_ob h a0 5).bind fun u1 =>
  (f_X5_nextToken n h a0).bind fun q2 =>
  (x_ob q2 a0 5).bind fun u3 =>
  (f_X5_readNumber n q2 a0 (0 : Int32) ((6 : Int32) - (1 : Int32)) (-1 : Int32)).bind fun q4 =>
  if q4.1 = (-1 : Int32) then
    some ((0 : Int32), q4.2)
  else
    (x_ob q4.2 a0 5).bind fun u5 =>
    (f_X5_readNumber n q4.2 a0 (0 : Int32) (7 : Int32) (-1 : Int32)).bind fun q6 =>
    if q6.1 = (-1 : Int32) then
      some ((0 : Int32), q6.2)
    else
      (
        if q4.1 = (1 : Int32) then
          some (-1 : Int32)
        else
          some q6.1
      ).bind fun q7 =>
      (x_ob q6.2 a0 5).bind fun u9 =>
      (f_X5_readNumber n q6.2 a0 (0 : Int32) (7 : Int32) q7).bind fun q10 =>
      if q10.1 = (-1 : Int32) then
        some ((0 : Int32), q10.2)
      else
        (x_ob q10.2 o1 0).bind fun u11 =>
        (f_X0_addDoor q10.2 o1 q4.1 q6.1 q10.1).bind fun q12 =>
        (x_ob q12.2 a0 5).bind fun u13 =>
        (f_X5_isWord n q12.2 a0 8).bind fun q14 =>
        if q14 = 0 then
          some ((1 : Int32), q12.2)
        else
          (x_gI q12.2 o1 0 5).bind fun x15 =>
          (x_put q12.2 o1 0 5 (.int (x15 ||| (i_shl (1 : Int32) q12.1)))).bind fun h16 =>
          (x_ob h16 a0 5).bind fun u17 =>
          (f_X5_nextToken n h16 a0).bind fun q18 =>
          some ((1 : Int32), q18)
set_option maxRecDepth 100000 in
set_option maxHeartbeats 4000000 in
theorem c_X5_readDoor {n : Nat} {h : xH} {a0 : Nat} {o1 : Nat} {r9 : Int32} {hz : xH} (hE : f_X5_readDoor n h a0 o1 = some (r9, hz)) : Ctr M_X5_readDoor [.ref a0, .ref o1] h (some (.int r9)) hz 0 0 := by
  refine ctr_of (by decide) (fun _ _ => Nat.le_of_ble_eq_true rfl) (fun S => ?_)
  show Y S M_X5_readDoor h (some (.int r9)) hz 0 0 0 [(0, .ref a0), (1, .ref o1)] [] h 0 0
  unfold f_X5_readDoor at hE
  refine y_aload_n dX5_readDoor_0 0 rfl ?_
  obtain ⟨u1, eu1, hE⟩ := Option.bind_eq_some_iff.mp hE
  obtain ⟨q2, eq2, hE⟩ := Option.bind_eq_some_iff.mp hE
  refine y_cVv0 (st := []) (as := []) (c_X5_nextToken eq2) lk_X5_22 in_X5_nextToken se_X5_nextToken rfl eu1 ⟨Nat.le_of_ble_eq_true rfl, Nat.le_of_ble_eq_true rfl⟩ (Nat.le_of_ble_eq_true rfl) dX5_readDoor_1 ⟨Nat.le_refl _, Nat.le_refl _⟩ rfl ?_
  refine y_aload_n dX5_readDoor_4 0 rfl ?_
  refine y_iconst (v := (0 : Int32)) dX5_readDoor_5 (by decide) ?_
  refine y_gets (n := "WEIGHTS") (d := "[I") 1 (by decide) (fun _ _ _ _ q => q.2.2.1.1) (Or.inr ⟨"WhoOpensOne", tbn 536 (by decide +kernel) rfl⟩) dX5_readDoor_6 ?_
  refine y_tWlen dX5_readDoor_9 ?_
  refine y_iconst (v := (1 : Int32)) dX5_readDoor_10 (by decide) ?_
  refine y_isub dX5_readDoor_11 ?_
  refine y_iconst (v := (-1 : Int32)) dX5_readDoor_12 (by decide) ?_
  obtain ⟨u3, eu3, hE⟩ := Option.bind_eq_some_iff.mp hE
  obtain ⟨q4, eq4, hE⟩ := Option.bind_eq_some_iff.mp hE
  refine y_cVi0 (st := []) (as := [.int (0 : Int32), .int ((6 : Int32) - (1 : Int32)), .int (-1 : Int32)]) (c_X5_readNumber eq4) lk_X5_89 in_X5_readNumber se_X5_readNumber rfl eu3 ⟨Nat.le_of_ble_eq_true rfl, Nat.le_of_ble_eq_true rfl⟩ (Nat.le_of_ble_eq_true rfl) dX5_readDoor_13 ⟨Nat.le_refl _, Nat.le_refl _⟩ rfl ?_
  refine y_istore_n (ls' := [(2, .int q4.1), (0, .ref a0), (1, .ref o1)]) dX5_readDoor_16 (by decide) rfl rfl ?_
  refine y_iload_n dX5_readDoor_17 0 rfl ?_
  refine y_iconst (v := (-1 : Int32)) dX5_readDoor_18 (by decide) ?_
  refine y_icmp_ne (tgt := 24) dX5_readDoor_19 (by decide) (fun hc22 => ?_) (fun hc22 => ?_)
  · rw [if_pos hc22] at hE
    refine y_iconst (v := (0 : Int32)) dX5_readDoor_22 (by decide) ?_
    obtain ⟨rfl, rfl⟩ := x_inj2 hE
    exact y_ret dX5_readDoor_23 (Nat.le_refl _) (Nat.le_refl _) ⟨_, rfl, rfl⟩
  · rw [if_neg hc22] at hE
    refine y_aload_n dX5_readDoor_24 1 rfl ?_
    refine y_iconst (v := (0 : Int32)) dX5_readDoor_25 (by decide) ?_
    refine y_bipush (v := (7 : Int32)) dX5_readDoor_26 (by decide) ?_
    refine y_iconst (v := (-1 : Int32)) dX5_readDoor_28 (by decide) ?_
    obtain ⟨u5, eu5, hE⟩ := Option.bind_eq_some_iff.mp hE
    obtain ⟨q6, eq6, hE⟩ := Option.bind_eq_some_iff.mp hE
    refine y_cVi0 (st := []) (as := [.int (0 : Int32), .int (7 : Int32), .int (-1 : Int32)]) (c_X5_readNumber eq6) lk_X5_89 in_X5_readNumber se_X5_readNumber rfl eu5 ⟨Nat.le_of_ble_eq_true rfl, Nat.le_of_ble_eq_true rfl⟩ (Nat.le_of_ble_eq_true rfl) dX5_readDoor_29 ⟨Nat.le_refl _, Nat.le_refl _⟩ rfl ?_
    refine y_istore_n (ls' := [(3, .int q6.1), (2, .int q4.1), (0, .ref a0), (1, .ref o1)]) dX5_readDoor_32 (by decide) rfl rfl ?_
    refine y_iload_n dX5_readDoor_33 0 rfl ?_
    refine y_iconst (v := (-1 : Int32)) dX5_readDoor_34 (by decide) ?_
    refine y_icmp_ne (tgt := 40) dX5_readDoor_35 (by decide) (fun hc21 => ?_) (fun hc21 => ?_)
    · rw [if_pos hc21] at hE
      refine y_iconst (v := (0 : Int32)) dX5_readDoor_38 (by decide) ?_
      obtain ⟨rfl, rfl⟩ := x_inj2 hE
      exact y_ret dX5_readDoor_39 (Nat.le_refl _) (Nat.le_refl _) ⟨_, rfl, rfl⟩
    · rw [if_neg hc21] at hE
      refine y_aload_n dX5_readDoor_40 2 rfl ?_
      refine y_iconst (v := (0 : Int32)) dX5_readDoor_41 (by decide) ?_
      refine y_bipush (v := (7 : Int32)) dX5_readDoor_42 (by decide) ?_
      refine y_iload_n dX5_readDoor_44 1 rfl ?_
      refine y_iconst (v := (1 : Int32)) dX5_readDoor_45 (by decide) ?_
      obtain ⟨q7, eJ, hE⟩ := Option.bind_eq_some_iff.mp hE
      have hJ : Y S M_X5_readDoor h (some (.int r9)) hz 0 0 54 [(0, .ref a0), (1, .ref o1), (2, .int q4.1), (3, .int q6.1)] [.int q7, .int (7 : Int32), .int (0 : Int32), .ref a0] q6.2 0 0 := by
        obtain ⟨u9, eu9, hE⟩ := Option.bind_eq_some_iff.mp hE
        obtain ⟨q10, eq10, hE⟩ := Option.bind_eq_some_iff.mp hE
        refine y_cVi0 (st := []) (as := [.int (0 : Int32), .int (7 : Int32), .int q7]) (c_X5_readNumber eq10) lk_X5_89 in_X5_readNumber se_X5_readNumber rfl eu9 ⟨Nat.le_of_ble_eq_true rfl, Nat.le_of_ble_eq_true rfl⟩ (Nat.le_of_ble_eq_true rfl) dX5_readDoor_54 ⟨Nat.le_refl _, Nat.le_refl _⟩ rfl ?_
        refine y_istore (ls' := [(4, .int q10.1), (0, .ref a0), (1, .ref o1), (2, .int q4.1), (3, .int q6.1)]) dX5_readDoor_57 (by decide) rfl rfl ?_
        refine y_iload dX5_readDoor_59 0 rfl ?_
        refine y_iconst (v := (-1 : Int32)) dX5_readDoor_61 (by decide) ?_
        refine y_icmp_ne (tgt := 67) dX5_readDoor_62 (by decide) (fun hc20 => ?_) (fun hc20 => ?_)
        · rw [if_pos hc20] at hE
          refine y_iconst (v := (0 : Int32)) dX5_readDoor_65 (by decide) ?_
          obtain ⟨rfl, rfl⟩ := x_inj2 hE
          exact y_ret dX5_readDoor_66 (Nat.le_refl _) (Nat.le_refl _) ⟨_, rfl, rfl⟩
        · rw [if_neg hc20] at hE
          refine y_aload_n dX5_readDoor_67 2 rfl ?_
          refine y_iload_n dX5_readDoor_68 3 rfl ?_
          refine y_iload_n dX5_readDoor_69 4 rfl ?_
          refine y_iload dX5_readDoor_70 0 rfl ?_
          obtain ⟨u11, eu11, hE⟩ := Option.bind_eq_some_iff.mp hE
          obtain ⟨q12, eq12, hE⟩ := Option.bind_eq_some_iff.mp hE
          refine y_cVi0 (st := []) (as := [.int q4.1, .int q6.1, .int q10.1]) (c_X0_addDoor eq12) lk_X5_93 in_X0_addDoor se_X0_addDoor rfl eu11 ⟨Nat.le_of_ble_eq_true rfl, Nat.le_of_ble_eq_true rfl⟩ (Nat.le_of_ble_eq_true rfl) dX5_readDoor_72 ⟨Nat.le_refl _, Nat.le_refl _⟩ rfl ?_
          refine y_istore (ls' := [(5, .int q12.1), (4, .int q10.1), (0, .ref a0), (1, .ref o1), (2, .int q4.1), (3, .int q6.1)]) dX5_readDoor_75 (by decide) rfl rfl ?_
          refine y_aload_n dX5_readDoor_77 2 rfl ?_
          refine y_ldcS 5 (by decide) rfl dX5_readDoor_78 ?_
          obtain ⟨u13, eu13, hE⟩ := Option.bind_eq_some_iff.mp hE
          obtain ⟨q14, eq14, hE⟩ := Option.bind_eq_some_iff.mp hE
          refine y_cVi0 (st := []) (as := [.ref 8]) (c_X5_isWord eq14) lk_X5_51 in_X5_isWord se_X5_isWord rfl eu13 ⟨Nat.le_of_ble_eq_true rfl, Nat.le_of_ble_eq_true rfl⟩ (Nat.le_of_ble_eq_true rfl) dX5_readDoor_80 ⟨Nat.le_refl _, Nat.le_refl _⟩ rfl ?_
          refine y_if_eq (tgt := 103) dX5_readDoor_83 (by decide) (fun hc19 => ?_) (fun hc19 => ?_)
          · rw [if_pos hc19] at hE
            refine y_iconst (v := (1 : Int32)) dX5_readDoor_103 (by decide) ?_
            obtain ⟨rfl, rfl⟩ := x_inj2 hE
            exact y_ret dX5_readDoor_104 (Nat.le_refl _) (Nat.le_refl _) ⟨_, rfl, rfl⟩
          · rw [if_neg hc19] at hE
            refine y_aload_n dX5_readDoor_86 3 rfl ?_
            refine y_dup dX5_readDoor_87 rfl ?_
            obtain ⟨x15, ex15, hE⟩ := Option.bind_eq_some_iff.mp hE
            refine y_getI fl_X5_98 ex15 dX5_readDoor_88 ?_
            refine y_iconst (v := (1 : Int32)) dX5_readDoor_91 (by decide) ?_
            refine y_iload dX5_readDoor_92 0 rfl ?_
            refine y_ishl dX5_readDoor_94 ?_
            refine y_ior dX5_readDoor_95 ?_
            obtain ⟨h16, eh16, hE⟩ := Option.bind_eq_some_iff.mp hE
            refine y_putI fp_X5_98 eh16 dX5_readDoor_96 ?_
            refine y_aload_n dX5_readDoor_99 2 rfl ?_
            obtain ⟨u17, eu17, hE⟩ := Option.bind_eq_some_iff.mp hE
            obtain ⟨q18, eq18, hE⟩ := Option.bind_eq_some_iff.mp hE
            refine y_cVv0 (st := []) (as := []) (c_X5_nextToken eq18) lk_X5_22 in_X5_nextToken se_X5_nextToken rfl eu17 ⟨Nat.le_of_ble_eq_true rfl, Nat.le_of_ble_eq_true rfl⟩ (Nat.le_of_ble_eq_true rfl) dX5_readDoor_100 ⟨Nat.le_refl _, Nat.le_refl _⟩ rfl ?_
            refine y_iconst (v := (1 : Int32)) dX5_readDoor_103 (by decide) ?_
            obtain ⟨rfl, rfl⟩ := x_inj2 hE
            exact y_ret dX5_readDoor_104 (Nat.le_refl _) (Nat.le_refl _) ⟨_, rfl, rfl⟩
      clear hE
      have hE := eJ
      clear eJ
      refine y_icmp_ne (tgt := 53) dX5_readDoor_46 (by decide) (fun hc8 => ?_) (fun hc8 => ?_)
      · rw [if_pos hc8] at hE
        refine y_iconst (v := (-1 : Int32)) dX5_readDoor_49 (by decide) ?_
        refine y_goto (tgt := 54) dX5_readDoor_50 (by decide) ?_
        obtain rfl := Option.some.inj hE
        exact y_pick [2, 3, 1, 0] rfl hJ
      · rw [if_neg hc8] at hE
        refine y_iload_n dX5_readDoor_53 0 rfl ?_
        obtain rfl := Option.some.inj hE
        exact y_pick [2, 3, 1, 0] rfl hJ
def f_X5_readOne (n : Nat) (h : xH) (a0 : Nat) (o1 : Nat) : Option (Int32 × xH) :=
  (x_ob h a0 5).bind fun u1 =>
  (f_X5_nextToken n h a0).bind fun q2 =>
  (x_ob q2 a0 5).bind fun u3 =>
  (f_X5_readNumber n q2 a0 (0 : Int32) (7 : Int32) (-1 : Int32)).bind fun q4 =>
  if q4.1 = (-1 : Int32) then
    some ((0 : Int32), q4.2)
  else
    (x_ob q4.2 o1 0).bind fun u5 =>
    (f_X0_addOne q4.2 o1 q4.1).bind fun q6 =>
    some ((1 : Int32), q6.2)
set_option maxRecDepth 100000 in
set_option maxHeartbeats 4000000 in
theorem c_X5_readOne {n : Nat} {h : xH} {a0 : Nat} {o1 : Nat} {r9 : Int32} {hz : xH} (hE : f_X5_readOne n h a0 o1 = some (r9, hz)) : Ctr M_X5_readOne [.ref a0, .ref o1] h (some (.int r9)) hz 0 0 := by
  refine ctr_of (by decide) (fun _ _ => Nat.le_of_ble_eq_true rfl) (fun S => ?_)
  show Y S M_X5_readOne h (some (.int r9)) hz 0 0 0 [(0, .ref a0), (1, .ref o1)] [] h 0 0
  unfold f_X5_readOne at hE
  refine y_aload_n dX5_readOne_0 0 rfl ?_
  obtain ⟨u1, eu1, hE⟩ := Option.bind_eq_some_iff.mp hE
  obtain ⟨q2, eq2, hE⟩ := Option.bind_eq_some_iff.mp hE
  refine y_cVv0 (st := []) (as := []) (c_X5_nextToken eq2) lk_X5_22 in_X5_nextToken se_X5_nextToken rfl eu1 ⟨Nat.le_of_ble_eq_true rfl, Nat.le_of_ble_eq_true rfl⟩ (Nat.le_of_ble_eq_true rfl) dX5_readOne_1 ⟨Nat.le_refl _, Nat.le_refl _⟩ rfl ?_
  refine y_aload_n dX5_readOne_4 0 rfl ?_
  refine y_iconst (v := (0 : Int32)) dX5_readOne_5 (by decide) ?_
  refine y_bipush (v := (7 : Int32)) dX5_readOne_6 (by decide) ?_
  refine y_iconst (v := (-1 : Int32)) dX5_readOne_8 (by decide) ?_
  obtain ⟨u3, eu3, hE⟩ := Option.bind_eq_some_iff.mp hE
  obtain ⟨q4, eq4, hE⟩ := Option.bind_eq_some_iff.mp hE
  refine y_cVi0 (st := []) (as := [.int (0 : Int32), .int (7 : Int32), .int (-1 : Int32)]) (c_X5_readNumber eq4) lk_X5_89 in_X5_readNumber se_X5_readNumber rfl eu3 ⟨Nat.le_of_ble_eq_true rfl, Nat.le_of_ble_eq_true rfl⟩ (Nat.le_of_ble_eq_true rfl) dX5_readOne_9 ⟨Nat.le_refl _, Nat.le_refl _⟩ rfl ?_
  refine y_istore_n (ls' := [(2, .int q4.1), (0, .ref a0), (1, .ref o1)]) dX5_readOne_12 (by decide) rfl rfl ?_
  refine y_iload_n dX5_readOne_13 0 rfl ?_
  refine y_iconst (v := (-1 : Int32)) dX5_readOne_14 (by decide) ?_
  refine y_icmp_ne (tgt := 20) dX5_readOne_15 (by decide) (fun hc7 => ?_) (fun hc7 => ?_)
  · rw [if_pos hc7] at hE
    refine y_iconst (v := (0 : Int32)) dX5_readOne_18 (by decide) ?_
    obtain ⟨rfl, rfl⟩ := x_inj2 hE
    exact y_ret dX5_readOne_19 (Nat.le_refl _) (Nat.le_refl _) ⟨_, rfl, rfl⟩
  · rw [if_neg hc7] at hE
    refine y_aload_n dX5_readOne_20 2 rfl ?_
    refine y_iload_n dX5_readOne_21 0 rfl ?_
    obtain ⟨u5, eu5, hE⟩ := Option.bind_eq_some_iff.mp hE
    obtain ⟨q6, eq6, hE⟩ := Option.bind_eq_some_iff.mp hE
    refine y_cVi0 (st := []) (as := [.int q4.1]) (c_X0_addOne eq6) lk_X5_101 in_X0_addOne se_X0_addOne rfl eu5 ⟨Nat.le_of_ble_eq_true rfl, Nat.le_of_ble_eq_true rfl⟩ (Nat.le_of_ble_eq_true rfl) dX5_readOne_22 ⟨Nat.le_refl _, Nat.le_refl _⟩ rfl ?_
    refine y_pop dX5_readOne_25 rfl ?_
    refine y_iconst (v := (1 : Int32)) dX5_readOne_26 (by decide) ?_
    obtain ⟨rfl, rfl⟩ := x_inj2 hE
    exact y_ret dX5_readOne_27 (Nat.le_refl _) (Nat.le_refl _) ⟨_, rfl, rfl⟩
def f_X5_readLaw (n : Nat) (h : xH) (a0 : Nat) (o1 : Nat) : Option (Int32 × xH) :=
  (x_ob h a0 5).bind fun u1 =>
  (f_X5_nextToken n h a0).bind fun q2 =>
  (x_ob q2 a0 5).bind fun u3 =>
  (f_X5_readNumber n q2 a0 (1 : Int32) (4 : Int32) (-1 : Int32)).bind fun q4 =>
  if q4.1 = (-1 : Int32) then
    some ((0 : Int32), q4.2)
  else
    (x_put q4.2 o1 0 7 (.int q4.1)).bind fun h5 =>
    some ((1 : Int32), h5)
set_option maxRecDepth 100000 in
set_option maxHeartbeats 4000000 in
theorem c_X5_readLaw {n : Nat} {h : xH} {a0 : Nat} {o1 : Nat} {r9 : Int32} {hz : xH} (hE : f_X5_readLaw n h a0 o1 = some (r9, hz)) : Ctr M_X5_readLaw [.ref a0, .ref o1] h (some (.int r9)) hz 0 0 := by
  refine ctr_of (by decide) (fun _ _ => Nat.le_of_ble_eq_true rfl) (fun S => ?_)
  show Y S M_X5_readLaw h (some (.int r9)) hz 0 0 0 [(0, .ref a0), (1, .ref o1)] [] h 0 0
  unfold f_X5_readLaw at hE
  refine y_aload_n dX5_readLaw_0 0 rfl ?_
  obtain ⟨u1, eu1, hE⟩ := Option.bind_eq_some_iff.mp hE
  obtain ⟨q2, eq2, hE⟩ := Option.bind_eq_some_iff.mp hE
  refine y_cVv0 (st := []) (as := []) (c_X5_nextToken eq2) lk_X5_22 in_X5_nextToken se_X5_nextToken rfl eu1 ⟨Nat.le_of_ble_eq_true rfl, Nat.le_of_ble_eq_true rfl⟩ (Nat.le_of_ble_eq_true rfl) dX5_readLaw_1 ⟨Nat.le_refl _, Nat.le_refl _⟩ rfl ?_
  refine y_aload_n dX5_readLaw_4 0 rfl ?_
  refine y_iconst (v := (1 : Int32)) dX5_readLaw_5 (by decide) ?_
  refine y_iconst (v := (4 : Int32)) dX5_readLaw_6 (by decide) ?_
  refine y_iconst (v := (-1 : Int32)) dX5_readLaw_7 (by decide) ?_
  obtain ⟨u3, eu3, hE⟩ := Option.bind_eq_some_iff.mp hE
  obtain ⟨q4, eq4, hE⟩ := Option.bind_eq_some_iff.mp hE
  refine y_cVi0 (st := []) (as := [.int (1 : Int32), .int (4 : Int32), .int (-1 : Int32)]) (c_X5_readNumber eq4) lk_X5_89 in_X5_readNumber se_X5_readNumber rfl eu3 ⟨Nat.le_of_ble_eq_true rfl, Nat.le_of_ble_eq_true rfl⟩ (Nat.le_of_ble_eq_true rfl) dX5_readLaw_8 ⟨Nat.le_refl _, Nat.le_refl _⟩ rfl ?_
  refine y_istore_n (ls' := [(2, .int q4.1), (0, .ref a0), (1, .ref o1)]) dX5_readLaw_11 (by decide) rfl rfl ?_
  refine y_iload_n dX5_readLaw_12 0 rfl ?_
  refine y_iconst (v := (-1 : Int32)) dX5_readLaw_13 (by decide) ?_
  refine y_icmp_ne (tgt := 19) dX5_readLaw_14 (by decide) (fun hc6 => ?_) (fun hc6 => ?_)
  · rw [if_pos hc6] at hE
    refine y_iconst (v := (0 : Int32)) dX5_readLaw_17 (by decide) ?_
    obtain ⟨rfl, rfl⟩ := x_inj2 hE
    exact y_ret dX5_readLaw_18 (Nat.le_refl _) (Nat.le_refl _) ⟨_, rfl, rfl⟩
  · rw [if_neg hc6] at hE
    refine y_aload_n dX5_readLaw_19 2 rfl ?_
    refine y_iload_n dX5_readLaw_20 0 rfl ?_
    obtain ⟨h5, eh5, hE⟩ := Option.bind_eq_some_iff.mp hE
    refine y_putI fp_X5_104 eh5 dX5_readLaw_21 ?_
    refine y_iconst (v := (1 : Int32)) dX5_readLaw_24 (by decide) ?_
    obtain ⟨rfl, rfl⟩ := x_inj2 hE
    exact y_ret dX5_readLaw_25 (Nat.le_refl _) (Nat.le_refl _) ⟨_, rfl, rfl⟩
def f_X5_readWind (n : Nat) (h : xH) (a0 : Nat) (o1 : Nat) : Option (Int32 × xH) :=
  (x_ob h a0 5).bind fun u1 =>
  (f_X5_nextToken n h a0).bind fun q2 =>
  (x_ob q2 a0 5).bind fun u3 =>
  (f_X5_readNumber n q2 a0 (0 : Int32) (99 : Int32) (-1 : Int32)).bind fun q4 =>
  if q4.1 = (-1 : Int32) then
    some ((0 : Int32), q4.2)
  else
    (x_put q4.2 o1 0 8 (.int q4.1)).bind fun h5 =>
    some ((1 : Int32), h5)
set_option maxRecDepth 100000 in
set_option maxHeartbeats 4000000 in
theorem c_X5_readWind {n : Nat} {h : xH} {a0 : Nat} {o1 : Nat} {r9 : Int32} {hz : xH} (hE : f_X5_readWind n h a0 o1 = some (r9, hz)) : Ctr M_X5_readWind [.ref a0, .ref o1] h (some (.int r9)) hz 0 0 := by
  refine ctr_of (by decide) (fun _ _ => Nat.le_of_ble_eq_true rfl) (fun S => ?_)
  show Y S M_X5_readWind h (some (.int r9)) hz 0 0 0 [(0, .ref a0), (1, .ref o1)] [] h 0 0
  unfold f_X5_readWind at hE
  refine y_aload_n dX5_readWind_0 0 rfl ?_
  obtain ⟨u1, eu1, hE⟩ := Option.bind_eq_some_iff.mp hE
  obtain ⟨q2, eq2, hE⟩ := Option.bind_eq_some_iff.mp hE
  refine y_cVv0 (st := []) (as := []) (c_X5_nextToken eq2) lk_X5_22 in_X5_nextToken se_X5_nextToken rfl eu1 ⟨Nat.le_of_ble_eq_true rfl, Nat.le_of_ble_eq_true rfl⟩ (Nat.le_of_ble_eq_true rfl) dX5_readWind_1 ⟨Nat.le_refl _, Nat.le_refl _⟩ rfl ?_
  refine y_aload_n dX5_readWind_4 0 rfl ?_
  refine y_iconst (v := (0 : Int32)) dX5_readWind_5 (by decide) ?_
  refine y_bipush (v := (99 : Int32)) dX5_readWind_6 (by decide) ?_
  refine y_iconst (v := (-1 : Int32)) dX5_readWind_8 (by decide) ?_
  obtain ⟨u3, eu3, hE⟩ := Option.bind_eq_some_iff.mp hE
  obtain ⟨q4, eq4, hE⟩ := Option.bind_eq_some_iff.mp hE
  refine y_cVi0 (st := []) (as := [.int (0 : Int32), .int (99 : Int32), .int (-1 : Int32)]) (c_X5_readNumber eq4) lk_X5_89 in_X5_readNumber se_X5_readNumber rfl eu3 ⟨Nat.le_of_ble_eq_true rfl, Nat.le_of_ble_eq_true rfl⟩ (Nat.le_of_ble_eq_true rfl) dX5_readWind_9 ⟨Nat.le_refl _, Nat.le_refl _⟩ rfl ?_
  refine y_istore_n (ls' := [(2, .int q4.1), (0, .ref a0), (1, .ref o1)]) dX5_readWind_12 (by decide) rfl rfl ?_
  refine y_iload_n dX5_readWind_13 0 rfl ?_
  refine y_iconst (v := (-1 : Int32)) dX5_readWind_14 (by decide) ?_
  refine y_icmp_ne (tgt := 20) dX5_readWind_15 (by decide) (fun hc6 => ?_) (fun hc6 => ?_)
  · rw [if_pos hc6] at hE
    refine y_iconst (v := (0 : Int32)) dX5_readWind_18 (by decide) ?_
    obtain ⟨rfl, rfl⟩ := x_inj2 hE
    exact y_ret dX5_readWind_19 (Nat.le_refl _) (Nat.le_refl _) ⟨_, rfl, rfl⟩
  · rw [if_neg hc6] at hE
    refine y_aload_n dX5_readWind_20 2 rfl ?_
    refine y_iload_n dX5_readWind_21 0 rfl ?_
    obtain ⟨h5, eh5, hE⟩ := Option.bind_eq_some_iff.mp hE
    refine y_putI fp_X5_106 eh5 dX5_readWind_22 ?_
    refine y_iconst (v := (1 : Int32)) dX5_readWind_25 (by decide) ?_
    obtain ⟨rfl, rfl⟩ := x_inj2 hE
    exact y_ret dX5_readWind_26 (Nat.le_refl _) (Nat.le_refl _) ⟨_, rfl, rfl⟩
def f_X5_readMoves (n : Nat) (h : xH) (a0 : Nat) (o1 : Nat) : Option (Int32 × xH) :=
  (x_ob h a0 5).bind fun u1 =>
  (f_X5_nextToken n h a0).bind fun q2 =>
  (x_gI q2 o1 0 6).bind fun x3 =>
  (x_ob q2 a0 5).bind fun u4 =>
  (f_X5_readNumber n q2 a0 (0 : Int32) (x3 - (1 : Int32)) (-1 : Int32)).bind fun q5 =>
  if q5.1 = (-1 : Int32) then
    some ((0 : Int32), q5.2)
  else
    (x_ob q5.2 a0 5).bind fun u6 =>
    (f_X5_readNumber n q5.2 a0 (0 : Int32) (7 : Int32) (-1 : Int32)).bind fun q7 =>
    if q7.1 = (-1 : Int32) then
      some ((0 : Int32), q7.2)
    else
      (x_gR q7.2 o1 0 3).bind fun a8 =>
      (x_st q7.2 a8 q5.1 q7.1).bind fun h9 =>
      some ((1 : Int32), h9)
set_option maxRecDepth 100000 in
set_option maxHeartbeats 4000000 in
theorem c_X5_readMoves {n : Nat} {h : xH} {a0 : Nat} {o1 : Nat} {r9 : Int32} {hz : xH} (hE : f_X5_readMoves n h a0 o1 = some (r9, hz)) : Ctr M_X5_readMoves [.ref a0, .ref o1] h (some (.int r9)) hz 0 0 := by
  refine ctr_of (by decide) (fun _ _ => Nat.le_of_ble_eq_true rfl) (fun S => ?_)
  show Y S M_X5_readMoves h (some (.int r9)) hz 0 0 0 [(0, .ref a0), (1, .ref o1)] [] h 0 0
  unfold f_X5_readMoves at hE
  refine y_aload_n dX5_readMoves_0 0 rfl ?_
  obtain ⟨u1, eu1, hE⟩ := Option.bind_eq_some_iff.mp hE
  obtain ⟨q2, eq2, hE⟩ := Option.bind_eq_some_iff.mp hE
  refine y_cVv0 (st := []) (as := []) (c_X5_nextToken eq2) lk_X5_22 in_X5_nextToken se_X5_nextToken rfl eu1 ⟨Nat.le_of_ble_eq_true rfl, Nat.le_of_ble_eq_true rfl⟩ (Nat.le_of_ble_eq_true rfl) dX5_readMoves_1 ⟨Nat.le_refl _, Nat.le_refl _⟩ rfl ?_
  refine y_aload_n dX5_readMoves_4 0 rfl ?_
  refine y_iconst (v := (0 : Int32)) dX5_readMoves_5 (by decide) ?_
  refine y_aload_n dX5_readMoves_6 1 rfl ?_
  obtain ⟨x3, ex3, hE⟩ := Option.bind_eq_some_iff.mp hE
  refine y_getI fl_X5_65 ex3 dX5_readMoves_7 ?_
  refine y_iconst (v := (1 : Int32)) dX5_readMoves_10 (by decide) ?_
  refine y_isub dX5_readMoves_11 ?_
  refine y_iconst (v := (-1 : Int32)) dX5_readMoves_12 (by decide) ?_
  obtain ⟨u4, eu4, hE⟩ := Option.bind_eq_some_iff.mp hE
  obtain ⟨q5, eq5, hE⟩ := Option.bind_eq_some_iff.mp hE
  refine y_cVi0 (st := []) (as := [.int (0 : Int32), .int (x3 - (1 : Int32)), .int (-1 : Int32)]) (c_X5_readNumber eq5) lk_X5_89 in_X5_readNumber se_X5_readNumber rfl eu4 ⟨Nat.le_of_ble_eq_true rfl, Nat.le_of_ble_eq_true rfl⟩ (Nat.le_of_ble_eq_true rfl) dX5_readMoves_13 ⟨Nat.le_refl _, Nat.le_refl _⟩ rfl ?_
  refine y_istore_n (ls' := [(2, .int q5.1), (0, .ref a0), (1, .ref o1)]) dX5_readMoves_16 (by decide) rfl rfl ?_
  refine y_iload_n dX5_readMoves_17 0 rfl ?_
  refine y_iconst (v := (-1 : Int32)) dX5_readMoves_18 (by decide) ?_
  refine y_icmp_ne (tgt := 24) dX5_readMoves_19 (by decide) (fun hc11 => ?_) (fun hc11 => ?_)
  · rw [if_pos hc11] at hE
    refine y_iconst (v := (0 : Int32)) dX5_readMoves_22 (by decide) ?_
    obtain ⟨rfl, rfl⟩ := x_inj2 hE
    exact y_ret dX5_readMoves_23 (Nat.le_refl _) (Nat.le_refl _) ⟨_, rfl, rfl⟩
  · rw [if_neg hc11] at hE
    refine y_aload_n dX5_readMoves_24 1 rfl ?_
    refine y_iconst (v := (0 : Int32)) dX5_readMoves_25 (by decide) ?_
    refine y_bipush (v := (7 : Int32)) dX5_readMoves_26 (by decide) ?_
    refine y_iconst (v := (-1 : Int32)) dX5_readMoves_28 (by decide) ?_
    obtain ⟨u6, eu6, hE⟩ := Option.bind_eq_some_iff.mp hE
    obtain ⟨q7, eq7, hE⟩ := Option.bind_eq_some_iff.mp hE
    refine y_cVi0 (st := []) (as := [.int (0 : Int32), .int (7 : Int32), .int (-1 : Int32)]) (c_X5_readNumber eq7) lk_X5_89 in_X5_readNumber se_X5_readNumber rfl eu6 ⟨Nat.le_of_ble_eq_true rfl, Nat.le_of_ble_eq_true rfl⟩ (Nat.le_of_ble_eq_true rfl) dX5_readMoves_29 ⟨Nat.le_refl _, Nat.le_refl _⟩ rfl ?_
    refine y_istore_n (ls' := [(3, .int q7.1), (2, .int q5.1), (0, .ref a0), (1, .ref o1)]) dX5_readMoves_32 (by decide) rfl rfl ?_
    refine y_iload_n dX5_readMoves_33 0 rfl ?_
    refine y_iconst (v := (-1 : Int32)) dX5_readMoves_34 (by decide) ?_
    refine y_icmp_ne (tgt := 40) dX5_readMoves_35 (by decide) (fun hc10 => ?_) (fun hc10 => ?_)
    · rw [if_pos hc10] at hE
      refine y_iconst (v := (0 : Int32)) dX5_readMoves_38 (by decide) ?_
      obtain ⟨rfl, rfl⟩ := x_inj2 hE
      exact y_ret dX5_readMoves_39 (Nat.le_refl _) (Nat.le_refl _) ⟨_, rfl, rfl⟩
    · rw [if_neg hc10] at hE
      refine y_aload_n dX5_readMoves_40 3 rfl ?_
      obtain ⟨a8, ea8, hE⟩ := Option.bind_eq_some_iff.mp hE
      refine y_getR fl_X5_108 ea8 dX5_readMoves_41 ?_
      refine y_iload_n dX5_readMoves_44 1 rfl ?_
      refine y_iload_n dX5_readMoves_45 0 rfl ?_
      obtain ⟨h9, eh9, hE⟩ := Option.bind_eq_some_iff.mp hE
      refine y_iast eh9 dX5_readMoves_46 ?_
      refine y_iconst (v := (1 : Int32)) dX5_readMoves_47 (by decide) ?_
      obtain ⟨rfl, rfl⟩ := x_inj2 hE
      exact y_ret dX5_readMoves_48 (Nat.le_refl _) (Nat.le_refl _) ⟨_, rfl, rfl⟩
