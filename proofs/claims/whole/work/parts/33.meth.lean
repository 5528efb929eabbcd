theorem dX7_readAll_0 : decode cX7_readAll 0 = .ok (.aload_n 0, 1) := by decide +kernel
theorem dX7_readAll_1 : decode cX7_readAll 1 = .ok (.iconst 1, 1) := by decide +kernel
theorem dX7_readAll_2 : decode cX7_readAll 2 = .ok (.putfield 193, 3) := by decide +kernel
theorem dX7_readAll_5 : decode cX7_readAll 5 = .ok (.aload_n 0, 1) := by decide +kernel
theorem dX7_readAll_6 : decode cX7_readAll 6 = .ok (.iconst 0, 1) := by decide +kernel
theorem dX7_readAll_7 : decode cX7_readAll 7 = .ok (.putfield 126, 3) := by decide +kernel
theorem dX7_readAll_10 : decode cX7_readAll 10 = .ok (.aload_n 0, 1) := by decide +kernel
theorem dX7_readAll_11 : decode cX7_readAll 11 = .ok (.invokevirtual 161, 3) := by decide +kernel
theorem dX7_readAll_14 : decode cX7_readAll 14 = .ok (.aload_n 0, 1) := by decide +kernel
theorem dX7_readAll_15 : decode cX7_readAll 15 = .ok (.invokevirtual 196, 3) := by decide +kernel
theorem dX7_readAll_18 : decode cX7_readAll 18 = .ok (.ifCond .ne 5, 3) := by decide +kernel
theorem dX7_readAll_21 : decode cX7_readAll 21 = .ok (.iconst 0, 1) := by decide +kernel
theorem dX7_readAll_22 : decode cX7_readAll 22 = .ok (.ireturn, 1) := by decide +kernel
theorem dX7_readAll_23 : decode cX7_readAll 23 = .ok (.aload_n 0, 1) := by decide +kernel
theorem dX7_readAll_24 : decode cX7_readAll 24 = .ok (.getfield 135, 3) := by decide +kernel
theorem dX7_readAll_27 : decode cX7_readAll 27 = .ok (.ifCond .eq 42, 3) := by decide +kernel
theorem dX7_readAll_30 : decode cX7_readAll 30 = .ok (.aload_n 0, 1) := by decide +kernel
theorem dX7_readAll_31 : decode cX7_readAll 31 = .ok (.getfield 135, 3) := by decide +kernel
theorem dX7_readAll_34 : decode cX7_readAll 34 = .ok (.iconst 3, 1) := by decide +kernel
theorem dX7_readAll_35 : decode cX7_readAll 35 = .ok (.if_icmp .eq 8, 3) := by decide +kernel
theorem dX7_readAll_38 : decode cX7_readAll 38 = .ok (.aload_n 0, 1) := by decide +kernel
theorem dX7_readAll_39 : decode cX7_readAll 39 = .ok (.invokevirtual 157, 3) := by decide +kernel
theorem dX7_readAll_42 : decode cX7_readAll 42 = .ok (.ireturn, 1) := by decide +kernel
theorem dX7_readAll_43 : decode cX7_readAll 43 = .ok (.aload_n 0, 1) := by decide +kernel
theorem dX7_readAll_44 : decode cX7_readAll 44 = .ok (.invokevirtual 161, 3) := by decide +kernel
theorem dX7_readAll_47 : decode cX7_readAll 47 = .ok (.aload_n 0, 1) := by decide +kernel
theorem dX7_readAll_48 : decode cX7_readAll 48 = .ok (.invokevirtual 196, 3) := by decide +kernel
theorem dX7_readAll_51 : decode cX7_readAll 51 = .ok (.ifCond .ne 5, 3) := by decide +kernel
theorem dX7_readAll_54 : decode cX7_readAll 54 = .ok (.iconst 0, 1) := by decide +kernel
theorem dX7_readAll_55 : decode cX7_readAll 55 = .ok (.ireturn, 1) := by decide +kernel
theorem dX7_readAll_56 : decode cX7_readAll 56 = .ok (.aload_n 0, 1) := by decide +kernel
theorem dX7_readAll_57 : decode cX7_readAll 57 = .ok (.dup, 1) := by decide +kernel
theorem dX7_readAll_58 : decode cX7_readAll 58 = .ok (.getfield 193, 3) := by decide +kernel
theorem dX7_readAll_61 : decode cX7_readAll 61 = .ok (.iconst 1, 1) := by decide +kernel
theorem dX7_readAll_62 : decode cX7_readAll 62 = .ok (.iadd, 1) := by decide +kernel
theorem dX7_readAll_63 : decode cX7_readAll 63 = .ok (.putfield 193, 3) := by decide +kernel
theorem dX7_readAll_66 : decode cX7_readAll 66 = .ok (.goto (-43), 3) := by decide +kernel
theorem dX7_readAll_69 : decode cX7_readAll 69 = .ok (.iconst 1, 1) := by decide +kernel
theorem dX7_readAll_70 : decode cX7_readAll 70 = .ok (.ireturn, 1) := by decide +kernel
theorem dX7_takeFrom_0 : decode cX7_takeFrom 0 = .ok (.aload_n 0, 1) := by decide +kernel
theorem dX7_takeFrom_1 : decode cX7_takeFrom 1 = .ok (.aload_n 1, 1) := by decide +kernel
theorem dX7_takeFrom_2 : decode cX7_takeFrom 2 = .ok (.getfield 61, 3) := by decide +kernel
theorem dX7_takeFrom_5 : decode cX7_takeFrom 5 = .ok (.putfield 61, 3) := by decide +kernel
theorem dX7_takeFrom_8 : decode cX7_takeFrom 8 = .ok (.iconst 0, 1) := by decide +kernel
theorem dX7_takeFrom_9 : decode cX7_takeFrom 9 = .ok (.istore_n 2, 1) := by decide +kernel
theorem dX7_takeFrom_10 : decode cX7_takeFrom 10 = .ok (.iload_n 2, 1) := by decide +kernel
theorem dX7_takeFrom_11 : decode cX7_takeFrom 11 = .ok (.bipush 14, 2) := by decide +kernel
theorem dX7_takeFrom_13 : decode cX7_takeFrom 13 = .ok (.if_icmp .ge 38, 3) := by decide +kernel
theorem dX7_takeFrom_16 : decode cX7_takeFrom 16 = .ok (.iconst 0, 1) := by decide +kernel
theorem dX7_takeFrom_17 : decode cX7_takeFrom 17 = .ok (.istore_n 3, 1) := by decide +kernel
theorem dX7_takeFrom_18 : decode cX7_takeFrom 18 = .ok (.iload_n 3, 1) := by decide +kernel
theorem dX7_takeFrom_19 : decode cX7_takeFrom 19 = .ok (.iconst 3, 1) := by decide +kernel
theorem dX7_takeFrom_20 : decode cX7_takeFrom 20 = .ok (.if_icmp .ge 25, 3) := by decide +kernel
theorem dX7_takeFrom_23 : decode cX7_takeFrom 23 = .ok (.aload_n 0, 1) := by decide +kernel
theorem dX7_takeFrom_24 : decode cX7_takeFrom 24 = .ok (.getfield 39, 3) := by decide +kernel
theorem dX7_takeFrom_27 : decode cX7_takeFrom 27 = .ok (.iload_n 2, 1) := by decide +kernel
theorem dX7_takeFrom_28 : decode cX7_takeFrom 28 = .ok (.aaload, 1) := by decide +kernel
theorem dX7_takeFrom_29 : decode cX7_takeFrom 29 = .ok (.iload_n 3, 1) := by decide +kernel
theorem dX7_takeFrom_30 : decode cX7_takeFrom 30 = .ok (.aload_n 1, 1) := by decide +kernel
theorem dX7_takeFrom_31 : decode cX7_takeFrom 31 = .ok (.getfield 39, 3) := by decide +kernel
theorem dX7_takeFrom_34 : decode cX7_takeFrom 34 = .ok (.iload_n 2, 1) := by decide +kernel
theorem dX7_takeFrom_35 : decode cX7_takeFrom 35 = .ok (.aaload, 1) := by decide +kernel
theorem dX7_takeFrom_36 : decode cX7_takeFrom 36 = .ok (.iload_n 3, 1) := by decide +kernel
theorem dX7_takeFrom_37 : decode cX7_takeFrom 37 = .ok (.iaload, 1) := by decide +kernel
theorem dX7_takeFrom_38 : decode cX7_takeFrom 38 = .ok (.iastore, 1) := by decide +kernel
theorem dX7_takeFrom_39 : decode cX7_takeFrom 39 = .ok (.iinc 3 1, 3) := by decide +kernel
theorem dX7_takeFrom_42 : decode cX7_takeFrom 42 = .ok (.goto (-24), 3) := by decide +kernel
theorem dX7_takeFrom_45 : decode cX7_takeFrom 45 = .ok (.iinc 2 1, 3) := by decide +kernel
theorem dX7_takeFrom_48 : decode cX7_takeFrom 48 = .ok (.goto (-38), 3) := by decide +kernel
theorem dX7_takeFrom_51 : decode cX7_takeFrom 51 = .ok (.aload_n 0, 1) := by decide +kernel
theorem dX7_takeFrom_52 : decode cX7_takeFrom 52 = .ok (.aload_n 1, 1) := by decide +kernel
theorem dX7_takeFrom_53 : decode cX7_takeFrom 53 = .ok (.getfield 108, 3) := by decide +kernel
theorem dX7_takeFrom_56 : decode cX7_takeFrom 56 = .ok (.putfield 108, 3) := by decide +kernel
theorem dX7_takeFrom_59 : decode cX7_takeFrom 59 = .ok (.aload_n 0, 1) := by decide +kernel
theorem dX7_takeFrom_60 : decode cX7_takeFrom 60 = .ok (.aload_n 1, 1) := by decide +kernel
theorem dX7_takeFrom_61 : decode cX7_takeFrom 61 = .ok (.getfield 68, 3) := by decide +kernel
theorem dX7_takeFrom_64 : decode cX7_takeFrom 64 = .ok (.putfield 68, 3) := by decide +kernel
theorem dX7_takeFrom_67 : decode cX7_takeFrom 67 = .ok (.iconst 0, 1) := by decide +kernel
theorem dX7_takeFrom_68 : decode cX7_takeFrom 68 = .ok (.istore_n 2, 1) := by decide +kernel
theorem dX7_takeFrom_69 : decode cX7_takeFrom 69 = .ok (.iload_n 2, 1) := by decide +kernel
theorem dX7_takeFrom_70 : decode cX7_takeFrom 70 = .ok (.iconst 4, 1) := by decide +kernel
theorem dX7_takeFrom_71 : decode cX7_takeFrom 71 = .ok (.if_icmp .ge 21, 3) := by decide +kernel
theorem dX7_takeFrom_74 : decode cX7_takeFrom 74 = .ok (.aload_n 0, 1) := by decide +kernel
theorem dX7_takeFrom_75 : decode cX7_takeFrom 75 = .ok (.getfield 42, 3) := by decide +kernel
theorem dX7_takeFrom_78 : decode cX7_takeFrom 78 = .ok (.iload_n 2, 1) := by decide +kernel
theorem dX7_takeFrom_79 : decode cX7_takeFrom 79 = .ok (.aload_n 1, 1) := by decide +kernel
theorem dX7_takeFrom_80 : decode cX7_takeFrom 80 = .ok (.getfield 42, 3) := by decide +kernel
theorem dX7_takeFrom_83 : decode cX7_takeFrom 83 = .ok (.iload_n 2, 1) := by decide +kernel
theorem dX7_takeFrom_84 : decode cX7_takeFrom 84 = .ok (.iaload, 1) := by decide +kernel
theorem dX7_takeFrom_85 : decode cX7_takeFrom 85 = .ok (.iastore, 1) := by decide +kernel
theorem dX7_takeFrom_86 : decode cX7_takeFrom 86 = .ok (.iinc 2 1, 3) := by decide +kernel
theorem dX7_takeFrom_89 : decode cX7_takeFrom 89 = .ok (.goto (-20), 3) := by decide +kernel
theorem dX7_takeFrom_92 : decode cX7_takeFrom 92 = .ok (.aload_n 0, 1) := by decide +kernel
theorem dX7_takeFrom_93 : decode cX7_takeFrom 93 = .ok (.aload_n 1, 1) := by decide +kernel
theorem dX7_takeFrom_94 : decode cX7_takeFrom 94 = .ok (.getfield 45, 3) := by decide +kernel
theorem dX7_takeFrom_97 : decode cX7_takeFrom 97 = .ok (.putfield 45, 3) := by decide +kernel
theorem dX7_takeFrom_100 : decode cX7_takeFrom 100 = .ok (.aload_n 0, 1) := by decide +kernel
theorem dX7_takeFrom_101 : decode cX7_takeFrom 101 = .ok (.aload_n 1, 1) := by decide +kernel
theorem dX7_takeFrom_102 : decode cX7_takeFrom 102 = .ok (.getfield 113, 3) := by decide +kernel
theorem dX7_takeFrom_105 : decode cX7_takeFrom 105 = .ok (.putfield 113, 3) := by decide +kernel
theorem dX7_takeFrom_108 : decode cX7_takeFrom 108 = .ok (.aload_n 0, 1) := by decide +kernel
theorem dX7_takeFrom_109 : decode cX7_takeFrom 109 = .ok (.aload_n 1, 1) := by decide +kernel
theorem dX7_takeFrom_110 : decode cX7_takeFrom 110 = .ok (.getfield 246, 3) := by decide +kernel
theorem dX7_takeFrom_113 : decode cX7_takeFrom 113 = .ok (.putfield 246, 3) := by decide +kernel
theorem dX7_takeFrom_116 : decode cX7_takeFrom 116 = .ok (.aload_n 0, 1) := by decide +kernel
theorem dX7_takeFrom_117 : decode cX7_takeFrom 117 = .ok (.aload_n 1, 1) := by decide +kernel
theorem dX7_takeFrom_118 : decode cX7_takeFrom 118 = .ok (.getfield 49, 3) := by decide +kernel
theorem dX7_takeFrom_121 : decode cX7_takeFrom 121 = .ok (.putfield 49, 3) := by decide +kernel
theorem dX7_takeFrom_124 : decode cX7_takeFrom 124 = .ok (.return_, 1) := by decide +kernel
theorem dX7_fresh_0 : decode cX7_fresh 0 = .ok (.aload_n 0, 1) := by decide +kernel
theorem dX7_fresh_1 : decode cX7_fresh 1 = .ok (.getfield 339, 3) := by decide +kernel
theorem dX7_fresh_4 : decode cX7_fresh 4 = .ok (.ifnonnull 14, 3) := by decide +kernel
theorem dX7_fresh_7 : decode cX7_fresh 7 = .ok (.aload_n 0, 1) := by decide +kernel
theorem dX7_fresh_8 : decode cX7_fresh 8 = .ok (.new 8, 3) := by decide +kernel
theorem dX7_fresh_11 : decode cX7_fresh 11 = .ok (.dup, 1) := by decide +kernel
theorem dX7_fresh_12 : decode cX7_fresh 12 = .ok (.invokespecial 343, 3) := by decide +kernel
theorem dX7_fresh_15 : decode cX7_fresh 15 = .ok (.putfield 339, 3) := by decide +kernel
theorem dX7_fresh_18 : decode cX7_fresh 18 = .ok (.aload_n 0, 1) := by decide +kernel
theorem dX7_fresh_19 : decode cX7_fresh 19 = .ok (.getfield 339, 3) := by decide +kernel
theorem dX7_fresh_22 : decode cX7_fresh 22 = .ok (.aload_n 0, 1) := by decide +kernel
theorem dX7_fresh_23 : decode cX7_fresh 23 = .ok (.invokevirtual 206, 3) := by decide +kernel
theorem dX7_fresh_26 : decode cX7_fresh 26 = .ok (.aload_n 0, 1) := by decide +kernel
theorem dX7_fresh_27 : decode cX7_fresh 27 = .ok (.getfield 339, 3) := by decide +kernel
theorem dX7_fresh_30 : decode cX7_fresh 30 = .ok (.areturn, 1) := by decide +kernel
theorem dX7_house_0 : decode cX7_house 0 = .ok (.aload_n 0, 1) := by decide +kernel
theorem dX7_house_1 : decode cX7_house 1 = .ok (.invokevirtual 199, 3) := by decide +kernel
theorem dX7_house_4 : decode cX7_house 4 = .ok (.astore_n 1, 1) := by decide +kernel
theorem dX7_house_5 : decode cX7_house 5 = .ok (.aload_n 0, 1) := by decide +kernel
theorem dX7_house_6 : decode cX7_house 6 = .ok (.invokevirtual 203, 3) := by decide +kernel
theorem dX7_house_9 : decode cX7_house 9 = .ok (.istore_n 2, 1) := by decide +kernel
theorem dX7_house_10 : decode cX7_house 10 = .ok (.aload_n 0, 1) := by decide +kernel
theorem dX7_house_11 : decode cX7_house 11 = .ok (.iconst 0, 1) := by decide +kernel
theorem dX7_house_12 : decode cX7_house 12 = .ok (.putfield 123, 3) := by decide +kernel
theorem dX7_house_15 : decode cX7_house 15 = .ok (.iload_n 2, 1) := by decide +kernel
theorem dX7_house_16 : decode cX7_house 16 = .ok (.ifCond .ne 23, 3) := by decide +kernel
theorem dX7_house_19 : decode cX7_house 19 = .ok (.aload_n 0, 1) := by decide +kernel
theorem dX7_house_20 : decode cX7_house 20 = .ok (.aload_n 1, 1) := by decide +kernel
theorem dX7_house_21 : decode cX7_house 21 = .ok (.invokevirtual 206, 3) := by decide +kernel
theorem dX7_house_24 : decode cX7_house 24 = .ok (.aload_n 0, 1) := by decide +kernel
theorem dX7_house_25 : decode cX7_house 25 = .ok (.bipush (-2), 2) := by decide +kernel
theorem dX7_house_27 : decode cX7_house 27 = .ok (.invokevirtual 77, 3) := by decide +kernel
theorem dX7_house_30 : decode cX7_house 30 = .ok (.pop, 1) := by decide +kernel
theorem dX7_house_31 : decode cX7_house 31 = .ok (.bipush (-20), 2) := by decide +kernel
theorem dX7_house_33 : decode cX7_house 33 = .ok (.aload_n 0, 1) := by decide +kernel
theorem dX7_house_34 : decode cX7_house 34 = .ok (.getfield 145, 3) := by decide +kernel
theorem dX7_house_37 : decode cX7_house 37 = .ok (.isub, 1) := by decide +kernel
theorem dX7_house_38 : decode cX7_house 38 = .ok (.ireturn, 1) := by decide +kernel
theorem dX7_house_39 : decode cX7_house 39 = .ok (.aload_n 0, 1) := by decide +kernel
theorem dX7_house_40 : decode cX7_house 40 = .ok (.getfield 193, 3) := by decide +kernel
theorem dX7_house_43 : decode cX7_house 43 = .ok (.ireturn, 1) := by decide +kernel
theorem dX7_doorOf_0 : decode cX7_doorOf 0 = .ok (.aload_n 0, 1) := by decide +kernel
theorem dX7_doorOf_1 : decode cX7_doorOf 1 = .ok (.iload_n 1, 1) := by decide +kernel
theorem dX7_doorOf_2 : decode cX7_doorOf 2 = .ok (.invokevirtual 88, 3) := by decide +kernel
theorem dX7_doorOf_5 : decode cX7_doorOf 5 = .ok (.ifCond .eq 15, 3) := by decide +kernel
theorem dX7_doorOf_8 : decode cX7_doorOf 8 = .ok (.iload_n 2, 1) := by decide +kernel
theorem dX7_doorOf_9 : decode cX7_doorOf 9 = .ok (.i2l, 1) := by decide +kernel
theorem dX7_doorOf_10 : decode cX7_doorOf 10 = .ok (.lconst 0, 1) := by decide +kernel
theorem dX7_doorOf_11 : decode cX7_doorOf 11 = .ok (.ldc2_w 73, 3) := by decide +kernel
theorem dX7_doorOf_14 : decode cX7_doorOf 14 = .ok (.invokestatic 64, 3) := by decide +kernel
theorem dX7_doorOf_17 : decode cX7_doorOf 17 = .ok (.ifCond .ne 10, 3) := by decide +kernel
theorem dX7_doorOf_20 : decode cX7_doorOf 20 = .ok (.aload_n 0, 1) := by decide +kernel
theorem dX7_doorOf_21 : decode cX7_doorOf 21 = .ok (.bipush (-2), 2) := by decide +kernel
theorem dX7_doorOf_23 : decode cX7_doorOf 23 = .ok (.invokevirtual 77, 3) := by decide +kernel
theorem dX7_doorOf_26 : decode cX7_doorOf 26 = .ok (.ireturn, 1) := by decide +kernel
theorem dX7_doorOf_27 : decode cX7_doorOf 27 = .ok (.iload_n 2, 1) := by decide +kernel
theorem dX7_doorOf_28 : decode cX7_doorOf 28 = .ok (.iconst 3, 1) := by decide +kernel
theorem dX7_doorOf_29 : decode cX7_doorOf 29 = .ok (.if_icmp .ne 14, 3) := by decide +kernel
theorem dX7_doorOf_32 : decode cX7_doorOf 32 = .ok (.aload_n 0, 1) := by decide +kernel
theorem dX7_doorOf_33 : decode cX7_doorOf 33 = .ok (.getfield 108, 3) := by decide +kernel
theorem dX7_doorOf_36 : decode cX7_doorOf 36 = .ok (.iload_n 1, 1) := by decide +kernel
theorem dX7_doorOf_37 : decode cX7_doorOf 37 = .ok (.ishr, 1) := by decide +kernel
theorem dX7_doorOf_38 : decode cX7_doorOf 38 = .ok (.iconst 1, 1) := by decide +kernel
theorem dX7_doorOf_39 : decode cX7_doorOf 39 = .ok (.iand, 1) := by decide +kernel
theorem dX7_doorOf_40 : decode cX7_doorOf 40 = .ok (.goto 24, 3) := by decide +kernel
theorem dX7_doorOf_43 : decode cX7_doorOf 43 = .ok (.iload_n 2, 1) := by decide +kernel
theorem dX7_doorOf_44 : decode cX7_doorOf 44 = .ok (.iconst 4, 1) := by decide +kernel
theorem dX7_doorOf_45 : decode cX7_doorOf 45 = .ok (.if_icmp .ne 11, 3) := by decide +kernel
theorem dX7_doorOf_48 : decode cX7_doorOf 48 = .ok (.aload_n 0, 1) := by decide +kernel
theorem dX7_doorOf_49 : decode cX7_doorOf 49 = .ok (.iload_n 1, 1) := by decide +kernel
theorem dX7_doorOf_50 : decode cX7_doorOf 50 = .ok (.invokevirtual 94, 3) := by decide +kernel
theorem dX7_doorOf_53 : decode cX7_doorOf 53 = .ok (.goto 11, 3) := by decide +kernel
theorem dX7_doorOf_56 : decode cX7_doorOf 56 = .ok (.aload_n 0, 1) := by decide +kernel
theorem dX7_doorOf_57 : decode cX7_doorOf 57 = .ok (.getfield 39, 3) := by decide +kernel
theorem dX7_doorOf_60 : decode cX7_doorOf 60 = .ok (.iload_n 1, 1) := by decide +kernel
theorem dX7_doorOf_61 : decode cX7_doorOf 61 = .ok (.aaload, 1) := by decide +kernel
theorem dX7_doorOf_62 : decode cX7_doorOf 62 = .ok (.iload_n 2, 1) := by decide +kernel
theorem dX7_doorOf_63 : decode cX7_doorOf 63 = .ok (.iaload, 1) := by decide +kernel
theorem dX7_doorOf_64 : decode cX7_doorOf 64 = .ok (.ireturn, 1) := by decide +kernel
theorem dX7_where_0 : decode cX7_where 0 = .ok (.aload_n 0, 1) := by decide +kernel
theorem dX7_where_1 : decode cX7_where 1 = .ok (.iload_n 1, 1) := by decide +kernel
theorem dX7_where_2 : decode cX7_where 2 = .ok (.invokevirtual 120, 3) := by decide +kernel
theorem dX7_where_5 : decode cX7_where 5 = .ok (.ifCond .eq 12, 3) := by decide +kernel
theorem dX7_where_8 : decode cX7_where 8 = .ok (.aload_n 0, 1) := by decide +kernel
theorem dX7_where_9 : decode cX7_where 9 = .ok (.getfield 42, 3) := by decide +kernel
theorem dX7_where_12 : decode cX7_where 12 = .ok (.iload_n 1, 1) := by decide +kernel
theorem dX7_where_13 : decode cX7_where 13 = .ok (.iaload, 1) := by decide +kernel
theorem dX7_where_14 : decode cX7_where 14 = .ok (.goto 9, 3) := by decide +kernel
theorem dX7_where_17 : decode cX7_where 17 = .ok (.aload_n 0, 1) := by decide +kernel
theorem dX7_where_18 : decode cX7_where 18 = .ok (.bipush (-2), 2) := by decide +kernel
theorem dX7_where_20 : decode cX7_where 20 = .ok (.invokevirtual 77, 3) := by decide +kernel
theorem dX7_where_23 : decode cX7_where 23 = .ok (.ireturn, 1) := by decide +kernel
theorem dX7_mayWalk_0 : decode cX7_mayWalk 0 = .ok (.aload_n 0, 1) := by decide +kernel
theorem dX7_mayWalk_1 : decode cX7_mayWalk 1 = .ok (.getfield 108, 3) := by decide +kernel
theorem dX7_mayWalk_4 : decode cX7_mayWalk 4 = .ok (.iload_n 1, 1) := by decide +kernel
theorem dX7_mayWalk_5 : decode cX7_mayWalk 5 = .ok (.invokestatic 116, 3) := by decide +kernel
theorem dX7_mayWalk_8 : decode cX7_mayWalk 8 = .ok (.ifCond .eq 28, 3) := by decide +kernel
theorem dX7_mayWalk_11 : decode cX7_mayWalk 11 = .ok (.aload_n 0, 1) := by decide +kernel
theorem dX7_mayWalk_12 : decode cX7_mayWalk 12 = .ok (.getfield 39, 3) := by decide +kernel
theorem dX7_mayWalk_15 : decode cX7_mayWalk 15 = .ok (.iload_n 1, 1) := by decide +kernel
theorem dX7_mayWalk_16 : decode cX7_mayWalk 16 = .ok (.aaload, 1) := by decide +kernel
theorem dX7_mayWalk_17 : decode cX7_mayWalk 17 = .ok (.iconst 0, 1) := by decide +kernel
theorem dX7_mayWalk_18 : decode cX7_mayWalk 18 = .ok (.iaload, 1) := by decide +kernel
theorem dX7_mayWalk_19 : decode cX7_mayWalk 19 = .ok (.iconst 1, 1) := by decide +kernel
theorem dX7_mayWalk_20 : decode cX7_mayWalk 20 = .ok (.if_icmp .eq 16, 3) := by decide +kernel
theorem dX7_mayWalk_23 : decode cX7_mayWalk 23 = .ok (.aload_n 0, 1) := by decide +kernel
theorem dX7_mayWalk_24 : decode cX7_mayWalk 24 = .ok (.iload_n 1, 1) := by decide +kernel
theorem dX7_mayWalk_25 : decode cX7_mayWalk 25 = .ok (.iload_n 2, 1) := by decide +kernel
theorem dX7_mayWalk_26 : decode cX7_mayWalk 26 = .ok (.invokevirtual 210, 3) := by decide +kernel
theorem dX7_mayWalk_29 : decode cX7_mayWalk 29 = .ok (.ifCond .eq 7, 3) := by decide +kernel
theorem dX7_mayWalk_32 : decode cX7_mayWalk 32 = .ok (.iconst 1, 1) := by decide +kernel
theorem dX7_mayWalk_33 : decode cX7_mayWalk 33 = .ok (.goto 4, 3) := by decide +kernel
theorem dX7_mayWalk_36 : decode cX7_mayWalk 36 = .ok (.iconst 0, 1) := by decide +kernel
theorem dX7_mayWalk_37 : decode cX7_mayWalk 37 = .ok (.ireturn, 1) := by decide +kernel
theorem dX7_canOpen_0 : decode cX7_canOpen 0 = .ok (.aload_n 0, 1) := by decide +kernel
theorem dX7_canOpen_1 : decode cX7_canOpen 1 = .ok (.getfield 108, 3) := by decide +kernel
theorem dX7_canOpen_4 : decode cX7_canOpen 4 = .ok (.iload_n 1, 1) := by decide +kernel
theorem dX7_canOpen_5 : decode cX7_canOpen 5 = .ok (.invokestatic 116, 3) := by decide +kernel
theorem dX7_canOpen_8 : decode cX7_canOpen 8 = .ok (.ifCond .ne 43, 3) := by decide +kernel
theorem dX7_canOpen_11 : decode cX7_canOpen 11 = .ok (.aload_n 0, 1) := by decide +kernel
theorem dX7_canOpen_12 : decode cX7_canOpen 12 = .ok (.getfield 39, 3) := by decide +kernel
theorem dX7_canOpen_15 : decode cX7_canOpen 15 = .ok (.iload_n 1, 1) := by decide +kernel
theorem dX7_canOpen_16 : decode cX7_canOpen 16 = .ok (.aaload, 1) := by decide +kernel
theorem dX7_canOpen_17 : decode cX7_canOpen 17 = .ok (.iconst 0, 1) := by decide +kernel
theorem dX7_canOpen_18 : decode cX7_canOpen 18 = .ok (.iaload, 1) := by decide +kernel
theorem dX7_canOpen_19 : decode cX7_canOpen 19 = .ok (.iconst 3, 1) := by decide +kernel
theorem dX7_canOpen_20 : decode cX7_canOpen 20 = .ok (.if_icmp .ne 18, 3) := by decide +kernel
theorem dX7_canOpen_23 : decode cX7_canOpen 23 = .ok (.aload_n 0, 1) := by decide +kernel
theorem dX7_canOpen_24 : decode cX7_canOpen 24 = .ok (.getfield 39, 3) := by decide +kernel
theorem dX7_canOpen_27 : decode cX7_canOpen 27 = .ok (.iload_n 1, 1) := by decide +kernel
theorem dX7_canOpen_28 : decode cX7_canOpen 28 = .ok (.aaload, 1) := by decide +kernel
theorem dX7_canOpen_29 : decode cX7_canOpen 29 = .ok (.iconst 1, 1) := by decide +kernel
theorem dX7_canOpen_30 : decode cX7_canOpen 30 = .ok (.iaload, 1) := by decide +kernel
theorem dX7_canOpen_31 : decode cX7_canOpen 31 = .ok (.iload_n 2, 1) := by decide +kernel
theorem dX7_canOpen_32 : decode cX7_canOpen 32 = .ok (.if_icmp .ne 19, 3) := by decide +kernel
theorem dX7_canOpen_35 : decode cX7_canOpen 35 = .ok (.goto 12, 3) := by decide +kernel
theorem dX7_canOpen_38 : decode cX7_canOpen 38 = .ok (.aload_n 0, 1) := by decide +kernel
theorem dX7_canOpen_39 : decode cX7_canOpen 39 = .ok (.iload_n 1, 1) := by decide +kernel
theorem dX7_canOpen_40 : decode cX7_canOpen 40 = .ok (.iload_n 2, 1) := by decide +kernel
theorem dX7_canOpen_41 : decode cX7_canOpen 41 = .ok (.invokevirtual 210, 3) := by decide +kernel
theorem dX7_canOpen_44 : decode cX7_canOpen 44 = .ok (.ifCond .eq 7, 3) := by decide +kernel
theorem dX7_canOpen_47 : decode cX7_canOpen 47 = .ok (.iconst 1, 1) := by decide +kernel
theorem dX7_canOpen_48 : decode cX7_canOpen 48 = .ok (.goto 4, 3) := by decide +kernel
theorem dX7_canOpen_51 : decode cX7_canOpen 51 = .ok (.iconst 0, 1) := by decide +kernel
theorem dX7_canOpen_52 : decode cX7_canOpen 52 = .ok (.ireturn, 1) := by decide +kernel
theorem dX7_beyond_0 : decode cX7_beyond 0 = .ok (.aload_n 0, 1) := by decide +kernel
theorem dX7_beyond_1 : decode cX7_beyond 1 = .ok (.getfield 39, 3) := by decide +kernel
theorem dX7_beyond_4 : decode cX7_beyond 4 = .ok (.iload_n 1, 1) := by decide +kernel
theorem dX7_beyond_5 : decode cX7_beyond 5 = .ok (.aaload, 1) := by decide +kernel
theorem dX7_beyond_6 : decode cX7_beyond 6 = .ok (.iconst 1, 1) := by decide +kernel
theorem dX7_beyond_7 : decode cX7_beyond 7 = .ok (.iaload, 1) := by decide +kernel
theorem dX7_beyond_8 : decode cX7_beyond 8 = .ok (.iload_n 2, 1) := by decide +kernel
theorem dX7_beyond_9 : decode cX7_beyond 9 = .ok (.if_icmp .ne 14, 3) := by decide +kernel
theorem dX7_beyond_12 : decode cX7_beyond 12 = .ok (.aload_n 0, 1) := by decide +kernel
theorem dX7_beyond_13 : decode cX7_beyond 13 = .ok (.getfield 39, 3) := by decide +kernel
theorem dX7_beyond_16 : decode cX7_beyond 16 = .ok (.iload_n 1, 1) := by decide +kernel
theorem dX7_beyond_17 : decode cX7_beyond 17 = .ok (.aaload, 1) := by decide +kernel
theorem dX7_beyond_18 : decode cX7_beyond 18 = .ok (.iconst 2, 1) := by decide +kernel
theorem dX7_beyond_19 : decode cX7_beyond 19 = .ok (.iaload, 1) := by decide +kernel
theorem dX7_beyond_20 : decode cX7_beyond 20 = .ok (.goto 11, 3) := by decide +kernel
theorem dX7_beyond_23 : decode cX7_beyond 23 = .ok (.aload_n 0, 1) := by decide +kernel
theorem dX7_beyond_24 : decode cX7_beyond 24 = .ok (.getfield 39, 3) := by decide +kernel
theorem dX7_beyond_27 : decode cX7_beyond 27 = .ok (.iload_n 1, 1) := by decide +kernel
theorem dX7_beyond_28 : decode cX7_beyond 28 = .ok (.aaload, 1) := by decide +kernel
theorem dX7_beyond_29 : decode cX7_beyond 29 = .ok (.iconst 1, 1) := by decide +kernel
theorem dX7_beyond_30 : decode cX7_beyond 30 = .ok (.iaload, 1) := by decide +kernel
theorem dX7_beyond_31 : decode cX7_beyond 31 = .ok (.ireturn, 1) := by decide +kernel
theorem dX7_weightsOf_0 : decode cX7_weightsOf 0 = .ok (.iconst 0, 1) := by decide +kernel
theorem dX7_weightsOf_1 : decode cX7_weightsOf 1 = .ok (.istore_n 2, 1) := by decide +kernel
theorem dX7_weightsOf_2 : decode cX7_weightsOf 2 = .ok (.iconst 0, 1) := by decide +kernel
theorem dX7_weightsOf_3 : decode cX7_weightsOf 3 = .ok (.istore_n 3, 1) := by decide +kernel
theorem dX7_weightsOf_4 : decode cX7_weightsOf 4 = .ok (.iload_n 3, 1) := by decide +kernel
theorem dX7_weightsOf_5 : decode cX7_weightsOf 5 = .ok (.aload_n 0, 1) := by decide +kernel
theorem dX7_weightsOf_6 : decode cX7_weightsOf 6 = .ok (.getfield 61, 3) := by decide +kernel
theorem dX7_weightsOf_9 : decode cX7_weightsOf 9 = .ok (.if_icmp .ge 29, 3) := by decide +kernel
theorem dX7_weightsOf_12 : decode cX7_weightsOf 12 = .ok (.iload_n 2, 1) := by decide +kernel
theorem dX7_weightsOf_13 : decode cX7_weightsOf 13 = .ok (.iload_n 1, 1) := by decide +kernel
theorem dX7_weightsOf_14 : decode cX7_weightsOf 14 = .ok (.iload_n 3, 1) := by decide +kernel
theorem dX7_weightsOf_15 : decode cX7_weightsOf 15 = .ok (.invokestatic 116, 3) := by decide +kernel
theorem dX7_weightsOf_18 : decode cX7_weightsOf 18 = .ok (.ifCond .eq 11, 3) := by decide +kernel
theorem dX7_weightsOf_21 : decode cX7_weightsOf 21 = .ok (.aload_n 0, 1) := by decide +kernel
theorem dX7_weightsOf_22 : decode cX7_weightsOf 22 = .ok (.iload_n 3, 1) := by decide +kernel
theorem dX7_weightsOf_23 : decode cX7_weightsOf 23 = .ok (.invokevirtual 94, 3) := by decide +kernel
theorem dX7_weightsOf_26 : decode cX7_weightsOf 26 = .ok (.goto 4, 3) := by decide +kernel
theorem dX7_weightsOf_29 : decode cX7_weightsOf 29 = .ok (.iconst 0, 1) := by decide +kernel
theorem dX7_weightsOf_30 : decode cX7_weightsOf 30 = .ok (.iadd, 1) := by decide +kernel
theorem dX7_weightsOf_31 : decode cX7_weightsOf 31 = .ok (.istore_n 2, 1) := by decide +kernel
theorem dX7_weightsOf_32 : decode cX7_weightsOf 32 = .ok (.iinc 3 1, 3) := by decide +kernel
theorem dX7_weightsOf_35 : decode cX7_weightsOf 35 = .ok (.goto (-31), 3) := by decide +kernel
theorem dX7_weightsOf_38 : decode cX7_weightsOf 38 = .ok (.iload_n 2, 1) := by decide +kernel
theorem dX7_weightsOf_39 : decode cX7_weightsOf 39 = .ok (.ireturn, 1) := by decide +kernel
theorem dX7_isEnough_0 : decode cX7_isEnough 0 = .ok (.aload_n 0, 1) := by decide +kernel
theorem dX7_isEnough_1 : decode cX7_isEnough 1 = .ok (.iload_n 1, 1) := by decide +kernel
theorem dX7_isEnough_2 : decode cX7_isEnough 2 = .ok (.invokevirtual 216, 3) := by decide +kernel
theorem dX7_isEnough_5 : decode cX7_isEnough 5 = .ok (.istore_n 2, 1) := by decide +kernel
theorem dX7_isEnough_6 : decode cX7_isEnough 6 = .ok (.iload_n 2, 1) := by decide +kernel
theorem dX7_isEnough_7 : decode cX7_isEnough 7 = .ok (.aload_n 0, 1) := by decide +kernel
theorem dX7_isEnough_8 : decode cX7_isEnough 8 = .ok (.getfield 45, 3) := by decide +kernel
theorem dX7_isEnough_11 : decode cX7_isEnough 11 = .ok (.if_icmp .ge 5, 3) := by decide +kernel
theorem dX7_isEnough_14 : decode cX7_isEnough 14 = .ok (.iconst 0, 1) := by decide +kernel
theorem dX7_isEnough_15 : decode cX7_isEnough 15 = .ok (.ireturn, 1) := by decide +kernel
theorem dX7_isEnough_16 : decode cX7_isEnough 16 = .ok (.iconst 0, 1) := by decide +kernel
theorem dX7_isEnough_17 : decode cX7_isEnough 17 = .ok (.istore_n 3, 1) := by decide +kernel
theorem dX7_isEnough_18 : decode cX7_isEnough 18 = .ok (.iload_n 3, 1) := by decide +kernel
theorem dX7_isEnough_19 : decode cX7_isEnough 19 = .ok (.aload_n 0, 1) := by decide +kernel
theorem dX7_isEnough_20 : decode cX7_isEnough 20 = .ok (.getfield 61, 3) := by decide +kernel
theorem dX7_isEnough_23 : decode cX7_isEnough 23 = .ok (.if_icmp .ge 33, 3) := by decide +kernel
theorem dX7_isEnough_26 : decode cX7_isEnough 26 = .ok (.iload_n 1, 1) := by decide +kernel
theorem dX7_isEnough_27 : decode cX7_isEnough 27 = .ok (.iload_n 3, 1) := by decide +kernel
theorem dX7_isEnough_28 : decode cX7_isEnough 28 = .ok (.invokestatic 116, 3) := by decide +kernel
theorem dX7_isEnough_31 : decode cX7_isEnough 31 = .ok (.ifCond .eq 19, 3) := by decide +kernel
theorem dX7_isEnough_34 : decode cX7_isEnough 34 = .ok (.iload_n 2, 1) := by decide +kernel
theorem dX7_isEnough_35 : decode cX7_isEnough 35 = .ok (.aload_n 0, 1) := by decide +kernel
theorem dX7_isEnough_36 : decode cX7_isEnough 36 = .ok (.iload_n 3, 1) := by decide +kernel
theorem dX7_isEnough_37 : decode cX7_isEnough 37 = .ok (.invokevirtual 94, 3) := by decide +kernel
theorem dX7_isEnough_40 : decode cX7_isEnough 40 = .ok (.isub, 1) := by decide +kernel
theorem dX7_isEnough_41 : decode cX7_isEnough 41 = .ok (.aload_n 0, 1) := by decide +kernel
theorem dX7_isEnough_42 : decode cX7_isEnough 42 = .ok (.getfield 45, 3) := by decide +kernel
theorem dX7_isEnough_45 : decode cX7_isEnough 45 = .ok (.if_icmp .lt 5, 3) := by decide +kernel
theorem dX7_isEnough_48 : decode cX7_isEnough 48 = .ok (.iconst 0, 1) := by decide +kernel
theorem dX7_isEnough_49 : decode cX7_isEnough 49 = .ok (.ireturn, 1) := by decide +kernel
theorem dX7_isEnough_50 : decode cX7_isEnough 50 = .ok (.iinc 3 1, 3) := by decide +kernel
theorem dX7_isEnough_53 : decode cX7_isEnough 53 = .ok (.goto (-35), 3) := by decide +kernel
theorem dX7_isEnough_56 : decode cX7_isEnough 56 = .ok (.iconst 1, 1) := by decide +kernel
theorem dX7_isEnough_57 : decode cX7_isEnough 57 = .ok (.ireturn, 1) := by decide +kernel
theorem dX7_mayOpenBy_0 : decode cX7_mayOpenBy 0 = .ok (.aload_n 0, 1) := by decide +kernel
theorem dX7_mayOpenBy_1 : decode cX7_mayOpenBy 1 = .ok (.iload_n 2, 1) := by decide +kernel
theorem dX7_mayOpenBy_2 : decode cX7_mayOpenBy 2 = .ok (.aload_n 0, 1) := by decide +kernel
theorem dX7_mayOpenBy_3 : decode cX7_mayOpenBy 3 = .ok (.getfield 42, 3) := by decide +kernel
theorem dX7_mayOpenBy_6 : decode cX7_mayOpenBy 6 = .ok (.iload_n 1, 1) := by decide +kernel
theorem dX7_mayOpenBy_7 : decode cX7_mayOpenBy 7 = .ok (.iaload, 1) := by decide +kernel
theorem dX7_mayOpenBy_8 : decode cX7_mayOpenBy 8 = .ok (.invokevirtual 219, 3) := by decide +kernel
theorem dX7_mayOpenBy_11 : decode cX7_mayOpenBy 11 = .ok (.ifCond .eq 26, 3) := by decide +kernel
theorem dX7_mayOpenBy_14 : decode cX7_mayOpenBy 14 = .ok (.iload_n 3, 1) := by decide +kernel
theorem dX7_mayOpenBy_15 : decode cX7_mayOpenBy 15 = .ok (.aload_n 0, 1) := by decide +kernel
theorem dX7_mayOpenBy_16 : decode cX7_mayOpenBy 16 = .ok (.invokevirtual 100, 3) := by decide +kernel
theorem dX7_mayOpenBy_19 : decode cX7_mayOpenBy 19 = .ok (.iconst (-1), 1) := by decide +kernel
theorem dX7_mayOpenBy_20 : decode cX7_mayOpenBy 20 = .ok (.ixor, 1) := by decide +kernel
theorem dX7_mayOpenBy_21 : decode cX7_mayOpenBy 21 = .ok (.iand, 1) := by decide +kernel
theorem dX7_mayOpenBy_22 : decode cX7_mayOpenBy 22 = .ok (.ifCond .ne 15, 3) := by decide +kernel
theorem dX7_mayOpenBy_25 : decode cX7_mayOpenBy 25 = .ok (.aload_n 0, 1) := by decide +kernel
theorem dX7_mayOpenBy_26 : decode cX7_mayOpenBy 26 = .ok (.iload_n 3, 1) := by decide +kernel
theorem dX7_mayOpenBy_27 : decode cX7_mayOpenBy 27 = .ok (.invokevirtual 222, 3) := by decide +kernel
theorem dX7_mayOpenBy_30 : decode cX7_mayOpenBy 30 = .ok (.ifCond .eq 7, 3) := by decide +kernel
theorem dX7_mayOpenBy_33 : decode cX7_mayOpenBy 33 = .ok (.iconst 1, 1) := by decide +kernel
theorem dX7_mayOpenBy_34 : decode cX7_mayOpenBy 34 = .ok (.goto 4, 3) := by decide +kernel
theorem dX7_mayOpenBy_37 : decode cX7_mayOpenBy 37 = .ok (.iconst 0, 1) := by decide +kernel
theorem dX7_mayOpenBy_38 : decode cX7_mayOpenBy 38 = .ok (.ireturn, 1) := by decide +kernel
theorem dX7_doors_0 : decode cX7_doors 0 = .ok (.iload_n 1, 1) := by decide +kernel
theorem dX7_doors_1 : decode cX7_doors 1 = .ok (.i2l, 1) := by decide +kernel
theorem dX7_doors_2 : decode cX7_doors 2 = .ok (.lconst 0, 1) := by decide +kernel
theorem dX7_doors_3 : decode cX7_doors 3 = .ok (.ldc2_w 225, 3) := by decide +kernel
theorem dX7_doors_6 : decode cX7_doors 6 = .ok (.invokestatic 64, 3) := by decide +kernel
theorem dX7_doors_9 : decode cX7_doors 9 = .ok (.ifCond .eq 16, 3) := by decide +kernel
theorem dX7_doors_12 : decode cX7_doors 12 = .ok (.iload_n 1, 1) := by decide +kernel
theorem dX7_doors_13 : decode cX7_doors 13 = .ok (.iconst 1, 1) := by decide +kernel
theorem dX7_doors_14 : decode cX7_doors 14 = .ok (.if_icmp .ne 18, 3) := by decide +kernel
theorem dX7_doors_17 : decode cX7_doors 17 = .ok (.iload_n 2, 1) := by decide +kernel
theorem dX7_doors_18 : decode cX7_doors 18 = .ok (.i2l, 1) := by decide +kernel
theorem dX7_doors_19 : decode cX7_doors 19 = .ok (.invokestatic 104, 3) := by decide +kernel
theorem dX7_doors_22 : decode cX7_doors 22 = .ok (.ifCond .ne 10, 3) := by decide +kernel
theorem dX7_doors_25 : decode cX7_doors 25 = .ok (.aload_n 0, 1) := by decide +kernel
theorem dX7_doors_26 : decode cX7_doors 26 = .ok (.bipush (-2), 2) := by decide +kernel
theorem dX7_doors_28 : decode cX7_doors 28 = .ok (.invokevirtual 77, 3) := by decide +kernel
theorem dX7_doors_31 : decode cX7_doors 31 = .ok (.ireturn, 1) := by decide +kernel
theorem dX7_doors_32 : decode cX7_doors 32 = .ok (.iconst 0, 1) := by decide +kernel
theorem dX7_doors_33 : decode cX7_doors 33 = .ok (.istore_n 3, 1) := by decide +kernel
theorem dX7_doors_34 : decode cX7_doors 34 = .ok (.iconst 0, 1) := by decide +kernel
theorem dX7_doors_35 : decode cX7_doors 35 = .ok (.istore 4, 2) := by decide +kernel
theorem dX7_doors_37 : decode cX7_doors 37 = .ok (.iload 4, 2) := by decide +kernel
theorem dX7_doors_39 : decode cX7_doors 39 = .ok (.aload_n 0, 1) := by decide +kernel
theorem dX7_doors_40 : decode cX7_doors 40 = .ok (.getfield 61, 3) := by decide +kernel
theorem dX7_doors_43 : decode cX7_doors 43 = .ok (.if_icmp .ge 35, 3) := by decide +kernel
theorem dX7_doors_46 : decode cX7_doors 46 = .ok (.iload_n 1, 1) := by decide +kernel
theorem dX7_doors_47 : decode cX7_doors 47 = .ok (.iconst 1, 1) := by decide +kernel
theorem dX7_doors_48 : decode cX7_doors 48 = .ok (.if_icmp .ne 30, 3) := by decide +kernel
theorem dX7_doors_51 : decode cX7_doors 51 = .ok (.iload_n 3, 1) := by decide +kernel
theorem dX7_doors_52 : decode cX7_doors 52 = .ok (.aload_n 0, 1) := by decide +kernel
theorem dX7_doors_53 : decode cX7_doors 53 = .ok (.iload 4, 2) := by decide +kernel
theorem dX7_doors_55 : decode cX7_doors 55 = .ok (.iload_n 2, 1) := by decide +kernel
theorem dX7_doors_56 : decode cX7_doors 56 = .ok (.invokevirtual 210, 3) := by decide +kernel
theorem dX7_doors_59 : decode cX7_doors 59 = .ok (.ifCond .eq 10, 3) := by decide +kernel
theorem dX7_doors_62 : decode cX7_doors 62 = .ok (.iconst 1, 1) := by decide +kernel
theorem dX7_doors_63 : decode cX7_doors 63 = .ok (.iload 4, 2) := by decide +kernel
theorem dX7_doors_65 : decode cX7_doors 65 = .ok (.ishl, 1) := by decide +kernel
theorem dX7_doors_66 : decode cX7_doors 66 = .ok (.goto 4, 3) := by decide +kernel
theorem dX7_doors_69 : decode cX7_doors 69 = .ok (.iconst 0, 1) := by decide +kernel
theorem dX7_doors_70 : decode cX7_doors 70 = .ok (.ior, 1) := by decide +kernel
theorem dX7_doors_71 : decode cX7_doors 71 = .ok (.istore_n 3, 1) := by decide +kernel
theorem dX7_doors_72 : decode cX7_doors 72 = .ok (.iinc 4 1, 3) := by decide +kernel
theorem dX7_doors_75 : decode cX7_doors 75 = .ok (.goto (-38), 3) := by decide +kernel
theorem dX7_doors_78 : decode cX7_doors 78 = .ok (.iload_n 1, 1) := by decide +kernel
theorem dX7_doors_79 : decode cX7_doors 79 = .ok (.ifCond .ne 10, 3) := by decide +kernel
theorem dX7_doors_82 : decode cX7_doors 82 = .ok (.aload_n 0, 1) := by decide +kernel
theorem dX7_doors_83 : decode cX7_doors 83 = .ok (.getfield 108, 3) := by decide +kernel
theorem dX7_doors_86 : decode cX7_doors 86 = .ok (.goto 16, 3) := by decide +kernel
theorem dX7_doors_89 : decode cX7_doors 89 = .ok (.iload_n 1, 1) := by decide +kernel
theorem dX7_doors_90 : decode cX7_doors 90 = .ok (.iconst 1, 1) := by decide +kernel
theorem dX7_doors_91 : decode cX7_doors 91 = .ok (.if_icmp .ne 7, 3) := by decide +kernel
theorem dX7_doors_94 : decode cX7_doors 94 = .ok (.iload_n 3, 1) := by decide +kernel
theorem dX7_doors_95 : decode cX7_doors 95 = .ok (.goto 7, 3) := by decide +kernel
theorem dX7_doors_98 : decode cX7_doors 98 = .ok (.aload_n 0, 1) := by decide +kernel
theorem dX7_doors_99 : decode cX7_doors 99 = .ok (.invokevirtual 100, 3) := by decide +kernel
theorem dX7_doors_102 : decode cX7_doors 102 = .ok (.ireturn, 1) := by decide +kernel
theorem dX7_waysOf_0 : decode cX7_waysOf 0 = .ok (.aload_n 0, 1) := by decide +kernel
theorem dX7_waysOf_1 : decode cX7_waysOf 1 = .ok (.invokevirtual 100, 3) := by decide +kernel
theorem dX7_waysOf_4 : decode cX7_waysOf 4 = .ok (.istore 4, 2) := by decide +kernel
theorem dX7_waysOf_6 : decode cX7_waysOf 6 = .ok (.iconst 0, 1) := by decide +kernel
theorem dX7_waysOf_7 : decode cX7_waysOf 7 = .ok (.istore 5, 2) := by decide +kernel
theorem dX7_waysOf_9 : decode cX7_waysOf 9 = .ok (.aload_n 0, 1) := by decide +kernel
theorem dX7_waysOf_10 : decode cX7_waysOf 10 = .ok (.iload_n 2, 1) := by decide +kernel
theorem dX7_waysOf_11 : decode cX7_waysOf 11 = .ok (.aload_n 0, 1) := by decide +kernel
theorem dX7_waysOf_12 : decode cX7_waysOf 12 = .ok (.getfield 42, 3) := by decide +kernel
theorem dX7_waysOf_15 : decode cX7_waysOf 15 = .ok (.iload_n 1, 1) := by decide +kernel
theorem dX7_waysOf_16 : decode cX7_waysOf 16 = .ok (.iaload, 1) := by decide +kernel
theorem dX7_waysOf_17 : decode cX7_waysOf 17 = .ok (.invokevirtual 219, 3) := by decide +kernel
theorem dX7_waysOf_20 : decode cX7_waysOf 20 = .ok (.ifCond .ne 13, 3) := by decide +kernel
theorem dX7_waysOf_23 : decode cX7_waysOf 23 = .ok (.iload_n 3, 1) := by decide +kernel
theorem dX7_waysOf_24 : decode cX7_waysOf 24 = .ok (.ifCond .ne 7, 3) := by decide +kernel
theorem dX7_waysOf_27 : decode cX7_waysOf 27 = .ok (.iconst 0, 1) := by decide +kernel
theorem dX7_waysOf_28 : decode cX7_waysOf 28 = .ok (.goto 4, 3) := by decide +kernel
theorem dX7_waysOf_31 : decode cX7_waysOf 31 = .ok (.iconst (-1), 1) := by decide +kernel
theorem dX7_waysOf_32 : decode cX7_waysOf 32 = .ok (.ireturn, 1) := by decide +kernel
theorem dX7_waysOf_33 : decode cX7_waysOf 33 = .ok (.iconst 1, 1) := by decide +kernel
theorem dX7_waysOf_34 : decode cX7_waysOf 34 = .ok (.istore 6, 2) := by decide +kernel
theorem dX7_waysOf_36 : decode cX7_waysOf 36 = .ok (.iload 6, 2) := by decide +kernel
theorem dX7_waysOf_38 : decode cX7_waysOf 38 = .ok (.iconst 1, 1) := by decide +kernel
theorem dX7_waysOf_39 : decode cX7_waysOf 39 = .ok (.aload_n 0, 1) := by decide +kernel
theorem dX7_waysOf_40 : decode cX7_waysOf 40 = .ok (.getfield 61, 3) := by decide +kernel
theorem dX7_waysOf_43 : decode cX7_waysOf 43 = .ok (.ishl, 1) := by decide +kernel
theorem dX7_waysOf_44 : decode cX7_waysOf 44 = .ok (.if_icmp .ge 39, 3) := by decide +kernel
theorem dX7_waysOf_47 : decode cX7_waysOf 47 = .ok (.iload 6, 2) := by decide +kernel
theorem dX7_waysOf_49 : decode cX7_waysOf 49 = .ok (.iload 4, 2) := by decide +kernel
theorem dX7_waysOf_51 : decode cX7_waysOf 51 = .ok (.iconst (-1), 1) := by decide +kernel
theorem dX7_waysOf_52 : decode cX7_waysOf 52 = .ok (.ixor, 1) := by decide +kernel
theorem dX7_waysOf_53 : decode cX7_waysOf 53 = .ok (.iand, 1) := by decide +kernel
theorem dX7_waysOf_54 : decode cX7_waysOf 54 = .ok (.ifCond .ne 23, 3) := by decide +kernel
theorem dX7_waysOf_57 : decode cX7_waysOf 57 = .ok (.aload_n 0, 1) := by decide +kernel
theorem dX7_waysOf_58 : decode cX7_waysOf 58 = .ok (.iload 6, 2) := by decide +kernel
theorem dX7_waysOf_60 : decode cX7_waysOf 60 = .ok (.invokevirtual 222, 3) := by decide +kernel
theorem dX7_waysOf_63 : decode cX7_waysOf 63 = .ok (.ifCond .eq 14, 3) := by decide +kernel
theorem dX7_waysOf_66 : decode cX7_waysOf 66 = .ok (.iload_n 3, 1) := by decide +kernel
theorem dX7_waysOf_67 : decode cX7_waysOf 67 = .ok (.iconst 1, 1) := by decide +kernel
theorem dX7_waysOf_68 : decode cX7_waysOf 68 = .ok (.if_icmp .ne 6, 3) := by decide +kernel
theorem dX7_waysOf_71 : decode cX7_waysOf 71 = .ok (.iload 6, 2) := by decide +kernel
theorem dX7_waysOf_73 : decode cX7_waysOf 73 = .ok (.ireturn, 1) := by decide +kernel
theorem dX7_waysOf_74 : decode cX7_waysOf 74 = .ok (.iinc 5 1, 3) := by decide +kernel
theorem dX7_waysOf_77 : decode cX7_waysOf 77 = .ok (.iinc 6 1, 3) := by decide +kernel
theorem dX7_waysOf_80 : decode cX7_waysOf 80 = .ok (.goto (-44), 3) := by decide +kernel
theorem dX7_waysOf_83 : decode cX7_waysOf 83 = .ok (.iload_n 3, 1) := by decide +kernel
theorem dX7_waysOf_84 : decode cX7_waysOf 84 = .ok (.ifCond .ne 8, 3) := by decide +kernel
theorem dX7_waysOf_87 : decode cX7_waysOf 87 = .ok (.iload 5, 2) := by decide +kernel
theorem dX7_waysOf_89 : decode cX7_waysOf 89 = .ok (.goto 4, 3) := by decide +kernel
theorem dX7_waysOf_92 : decode cX7_waysOf 92 = .ok (.iconst (-1), 1) := by decide +kernel
theorem dX7_waysOf_93 : decode cX7_waysOf 93 = .ok (.ireturn, 1) := by decide +kernel
def f_X7_readAll_L23 (n : Nat) (v0 : Nat) : Nat → xH → Option (Sum (Int32 × xH) (xH))
  | 0, _ => none
  | k + 1, h =>
    (x_gI h v0 7 21).bind fun x7 =>
    if x7 = 0 then
      some (.inr h)
    else
      (x_gI h v0 7 21).bind fun x8 =>
      if x8 = (3 : Int32) then
        (x_ob h v0 7).bind fun u9 =>
        (f_X7_look n h v0).bind fun q10 =>
        (x_ob q10 v0 7).bind fun u11 =>
        (f_X7_statement n q10 v0).bind fun q12 =>
        if q12.1 = 0 then
          some (.inl ((0 : Int32), q12.2))
        else
          (x_gI q12.2 v0 7 26).bind fun x13 =>
          (x_put q12.2 v0 7 26 (.int (x13 + (1 : Int32)))).bind fun h14 =>
          f_X7_readAll_L23 n v0 k h14
      else
        (x_ob h v0 7).bind fun u16 =>
        (f_X7_wrong h v0).bind fun q17 =>
        (x_bool q17.1).bind fun x18 =>
        some (.inl (x18, q17.2))
set_option maxRecDepth 100000 in
set_option maxHeartbeats 4000000 in
theorem l_X7_readAll_23 {S : Nat × (Nat → Int32)} {rv : Option Value} {h0 h1 : xH} {mc ms : Nat} {cells slots : Nat} (hm : cells ≤ mc ∧ slots ≤ ms) (n : Nat) (v0 : Nat) : ∀ (k : Nat) (h : xH) (res : Sum (Int32 × xH) (xH)), f_X7_readAll_L23 n v0 k h = some res → (∀ r9, res = .inl r9 → rv = some (.int r9.1) ∧ h1 = r9.2) → (∀ r9, res = .inr r9 → Y S M_X7_readAll h0 rv h1 mc ms 69 [] [] r9 cells slots) → Y S M_X7_readAll h0 rv h1 mc ms 23 [(0, .ref v0)] [] h cells slots := by
  intro k
  induction k with
  | zero =>
    intro _ _ hE
    cases hE
  | succ k ih =>
    intro h res hE KR K
    unfold f_X7_readAll_L23 at hE
    refine y_aload_n dX7_readAll_23 0 rfl ?_
    obtain ⟨x7, ex7, hE⟩ := Option.bind_eq_some_iff.mp hE
    refine y_getI fl_X7_135 ex7 dX7_readAll_24 ?_
    refine y_if_eq (tgt := 69) dX7_readAll_27 (by decide) (fun hc20 => ?_) (fun hc20 => ?_)
    · rw [if_pos hc20] at hE
      obtain rfl := Option.some.inj hE
      exact y_pick [] rfl (K _ rfl)
    · rw [if_neg hc20] at hE
      refine y_aload_n dX7_readAll_30 0 rfl ?_
      obtain ⟨x8, ex8, hE⟩ := Option.bind_eq_some_iff.mp hE
      refine y_getI fl_X7_135 ex8 dX7_readAll_31 ?_
      refine y_iconst (v := (3 : Int32)) dX7_readAll_34 (by decide) ?_
      refine y_icmp_eq (tgt := 43) dX7_readAll_35 (by decide) (fun hc19 => ?_) (fun hc19 => ?_)
      · rw [if_pos hc19] at hE
        refine y_aload_n dX7_readAll_43 0 rfl ?_
        obtain ⟨u9, eu9, hE⟩ := Option.bind_eq_some_iff.mp hE
        obtain ⟨q10, eq10, hE⟩ := Option.bind_eq_some_iff.mp hE
        refine y_cVv0 (st := []) (as := []) (c_X7_look eq10) lk_X7_161 in_X7_look se_X7_look rfl eu9 ⟨Nat.le_of_ble_eq_true rfl, Nat.le_of_ble_eq_true rfl⟩ (Nat.le_of_ble_eq_true rfl) dX7_readAll_44 hm rfl ?_
        refine y_aload_n dX7_readAll_47 0 rfl ?_
        obtain ⟨u11, eu11, hE⟩ := Option.bind_eq_some_iff.mp hE
        obtain ⟨q12, eq12, hE⟩ := Option.bind_eq_some_iff.mp hE
        refine y_cVi0 (st := []) (as := []) (c_X7_statement eq12) lk_X7_196 in_X7_statement se_X7_statement rfl eu11 ⟨Nat.le_of_ble_eq_true rfl, Nat.le_of_ble_eq_true rfl⟩ (Nat.le_of_ble_eq_true rfl) dX7_readAll_48 hm rfl ?_
        refine y_if_ne (tgt := 56) dX7_readAll_51 (by decide) (fun hc15 => ?_) (fun hc15 => ?_)
        · rw [if_pos hc15] at hE
          refine y_iconst (v := (0 : Int32)) dX7_readAll_54 (by decide) ?_
          obtain rfl := Option.some.inj hE
          obtain ⟨rfl, rfl⟩ := KR _ rfl
          dsimp only
          exact y_ret dX7_readAll_55 hm.1 hm.2 ⟨_, rfl, rfl⟩
        · rw [if_neg hc15] at hE
          refine y_aload_n dX7_readAll_56 0 rfl ?_
          refine y_dup dX7_readAll_57 rfl ?_
          obtain ⟨x13, ex13, hE⟩ := Option.bind_eq_some_iff.mp hE
          refine y_getI fl_X7_193 ex13 dX7_readAll_58 ?_
          refine y_iconst (v := (1 : Int32)) dX7_readAll_61 (by decide) ?_
          refine y_iadd dX7_readAll_62 ?_
          obtain ⟨h14, eh14, hE⟩ := Option.bind_eq_some_iff.mp hE
          refine y_putI fp_X7_193 eh14 dX7_readAll_63 ?_
          refine y_goto (tgt := 23) dX7_readAll_66 (by decide) ?_
          refine y_pick [0] rfl ?_
          exact ih _ _ hE KR K
      · rw [if_neg hc19] at hE
        refine y_aload_n dX7_readAll_38 0 rfl ?_
        obtain ⟨u16, eu16, hE⟩ := Option.bind_eq_some_iff.mp hE
        obtain ⟨q17, eq17, hE⟩ := Option.bind_eq_some_iff.mp hE
        refine y_cVi0 (st := []) (as := []) (c_X7_wrong eq17) lk_X7_157 in_X7_wrong se_X7_wrong rfl eu16 ⟨Nat.le_of_ble_eq_true rfl, Nat.le_of_ble_eq_true rfl⟩ (Nat.le_of_ble_eq_true rfl) dX7_readAll_39 hm rfl ?_
        obtain ⟨x18, ex18, hE⟩ := Option.bind_eq_some_iff.mp hE
        obtain ⟨e9, hnb⟩ := x_bool.spec ex18
        rw [e9]
        obtain rfl := Option.some.inj hE
        obtain ⟨rfl, rfl⟩ := KR _ rfl
        dsimp only
        exact y_ret dX7_readAll_42 hm.1 hm.2 ⟨_, rfl, hnb⟩
def f_X7_readAll (n : Nat) (h : xH) (a0 : Nat) : Option (Int32 × xH) :=
  (x_put h a0 7 26 (.int (1 : Int32))).bind fun h1 =>
  (x_put h1 a0 7 20 (.int (0 : Int32))).bind fun h2 =>
  (x_ob h2 a0 7).bind fun u3 =>
  (f_X7_look n h2 a0).bind fun q4 =>
  (x_ob q4 a0 7).bind fun u5 =>
  (f_X7_statement n q4 a0).bind fun q6 =>
  if q6.1 = 0 then
    some ((0 : Int32), q6.2)
  else
    (f_X7_readAll_L23 n a0 n q6.2).bind fun q21 =>
    match q21 with
    | .inl r22 => some r22
    | .inr e23 =>
      some ((1 : Int32), e23)
set_option maxRecDepth 100000 in
set_option maxHeartbeats 4000000 in
theorem c_X7_readAll {n : Nat} {h : xH} {a0 : Nat} {r9 : Int32} {hz : xH} (hE : f_X7_readAll n h a0 = some (r9, hz)) : Ctr M_X7_readAll [.ref a0] h (some (.int r9)) hz 0 0 := by
  refine ctr_of (by decide) (fun _ _ => Nat.le_of_ble_eq_true rfl) (fun S => ?_)
  show Y S M_X7_readAll h (some (.int r9)) hz 0 0 0 [(0, .ref a0)] [] h 0 0
  unfold f_X7_readAll at hE
  refine y_aload_n dX7_readAll_0 0 rfl ?_
  refine y_iconst (v := (1 : Int32)) dX7_readAll_1 (by decide) ?_
  obtain ⟨h1, eh1, hE⟩ := Option.bind_eq_some_iff.mp hE
  refine y_putI fp_X7_193 eh1 dX7_readAll_2 ?_
  refine y_aload_n dX7_readAll_5 0 rfl ?_
  refine y_iconst (v := (0 : Int32)) dX7_readAll_6 (by decide) ?_
  obtain ⟨h2, eh2, hE⟩ := Option.bind_eq_some_iff.mp hE
  refine y_putI fp_X7_126 eh2 dX7_readAll_7 ?_
  refine y_aload_n dX7_readAll_10 0 rfl ?_
  obtain ⟨u3, eu3, hE⟩ := Option.bind_eq_some_iff.mp hE
  obtain ⟨q4, eq4, hE⟩ := Option.bind_eq_some_iff.mp hE
  refine y_cVv0 (st := []) (as := []) (c_X7_look eq4) lk_X7_161 in_X7_look se_X7_look rfl eu3 ⟨Nat.le_of_ble_eq_true rfl, Nat.le_of_ble_eq_true rfl⟩ (Nat.le_of_ble_eq_true rfl) dX7_readAll_11 ⟨Nat.le_refl _, Nat.le_refl _⟩ rfl ?_
  refine y_aload_n dX7_readAll_14 0 rfl ?_
  obtain ⟨u5, eu5, hE⟩ := Option.bind_eq_some_iff.mp hE
  obtain ⟨q6, eq6, hE⟩ := Option.bind_eq_some_iff.mp hE
  refine y_cVi0 (st := []) (as := []) (c_X7_statement eq6) lk_X7_196 in_X7_statement se_X7_statement rfl eu5 ⟨Nat.le_of_ble_eq_true rfl, Nat.le_of_ble_eq_true rfl⟩ (Nat.le_of_ble_eq_true rfl) dX7_readAll_15 ⟨Nat.le_refl _, Nat.le_refl _⟩ rfl ?_
  refine y_if_ne (tgt := 23) dX7_readAll_18 (by decide) (fun hc24 => ?_) (fun hc24 => ?_)
  · rw [if_pos hc24] at hE
    refine y_iconst (v := (0 : Int32)) dX7_readAll_21 (by decide) ?_
    obtain ⟨rfl, rfl⟩ := x_inj2 hE
    exact y_ret dX7_readAll_22 (Nat.le_refl _) (Nat.le_refl _) ⟨_, rfl, rfl⟩
  · rw [if_neg hc24] at hE
    obtain ⟨q21, eq21, hE⟩ := Option.bind_eq_some_iff.mp hE
    refine y_pick [0] rfl ?_
    cases q21 with
    | inl r22 =>
      dsimp only at hE
      cases hE
      exact l_X7_readAll_23 (S := S) ⟨Nat.le_refl _, Nat.le_refl _⟩ n a0 n q6.2 _ eq21 (fun r8 hr8 => by cases hr8; exact ⟨rfl, rfl⟩) (fun r8 hr8 => by cases hr8)
    | inr e23 =>
      dsimp only at hE
      refine l_X7_readAll_23 (S := S) ⟨Nat.le_refl _, Nat.le_refl _⟩ n a0 n q6.2 _ eq21 (fun r8 hr8 => by cases hr8) (fun r8 hr8 => ?_)
      cases hr8
      refine y_iconst (v := (1 : Int32)) dX7_readAll_69 (by decide) ?_
      obtain ⟨rfl, rfl⟩ := x_inj2 hE
      exact y_ret dX7_readAll_70 (Nat.le_refl _) (Nat.le_refl _) ⟨_, rfl, rfl⟩
def f_X7_takeFrom_L18 (v0 : Nat) (v1 : Nat) (v2 : Int32) : Nat → Int32 → xH → Option (xH)
  | 0, _, _ => none
  | k + 1, v3, h =>
    if (3 : Int32) ≤ v3 then
      some h
    else
      (x_gR h v0 7 10).bind fun a3 =>
      (x_ldQ h a3 v2).bind fun a4 =>
      (x_gR h v1 7 10).bind fun a5 =>
      (x_ldQ h a5 v2).bind fun a6 =>
      (x_ld h a6 v3).bind fun x7 =>
      (x_st h a4 v3 x7).bind fun h8 =>
      (some (v3 + (1 : Int32))).bind fun x9 =>
      f_X7_takeFrom_L18 v0 v1 v2 k x9 h8
set_option maxRecDepth 100000 in
set_option maxHeartbeats 4000000 in
theorem l_X7_takeFrom_18 {S : Nat × (Nat → Int32)} {rv : Option Value} {h0 h1 : xH} {mc ms : Nat} {cells slots : Nat} (hm : cells ≤ mc ∧ slots ≤ ms) (v0 : Nat) (v1 : Nat) (v2 : Int32) : ∀ (k : Nat) (v3 : Int32) (h : xH) (res : xH), f_X7_takeFrom_L18 v0 v1 v2 k v3 h = some res → (∀ r9, res = r9 → Y S M_X7_takeFrom h0 rv h1 mc ms 45 [(0, .ref v0), (1, .ref v1), (2, .int v2)] [] r9 cells slots) → Y S M_X7_takeFrom h0 rv h1 mc ms 18 [(0, .ref v0), (1, .ref v1), (2, .int v2), (3, .int v3)] [] h cells slots := by
  intro k
  induction k with
  | zero =>
    intro _ _ _ hE
    cases hE
  | succ k ih =>
    intro v3 h res hE K
    unfold f_X7_takeFrom_L18 at hE
    refine y_iload_n dX7_takeFrom_18 3 rfl ?_
    refine y_iconst (v := (3 : Int32)) dX7_takeFrom_19 (by decide) ?_
    refine y_icmp_ge (tgt := 45) dX7_takeFrom_20 (by decide) (fun hc10 => ?_) (fun hc10 => ?_)
    · rw [if_pos hc10] at hE
      obtain rfl := Option.some.inj hE
      exact y_pick [0, 1, 2] rfl (K _ rfl)
    · rw [if_neg hc10] at hE
      refine y_aload_n dX7_takeFrom_23 0 rfl ?_
      obtain ⟨a3, ea3, hE⟩ := Option.bind_eq_some_iff.mp hE
      refine y_getR fl_X7_39 ea3 dX7_takeFrom_24 ?_
      refine y_iload_n dX7_takeFrom_27 2 rfl ?_
      obtain ⟨a4, ea4, hE⟩ := Option.bind_eq_some_iff.mp hE
      refine y_aald ea4 dX7_takeFrom_28 ?_
      refine y_iload_n dX7_takeFrom_29 3 rfl ?_
      refine y_aload_n dX7_takeFrom_30 1 rfl ?_
      obtain ⟨a5, ea5, hE⟩ := Option.bind_eq_some_iff.mp hE
      refine y_getR fl_X7_39 ea5 dX7_takeFrom_31 ?_
      refine y_iload_n dX7_takeFrom_34 2 rfl ?_
      obtain ⟨a6, ea6, hE⟩ := Option.bind_eq_some_iff.mp hE
      refine y_aald ea6 dX7_takeFrom_35 ?_
      refine y_iload_n dX7_takeFrom_36 3 rfl ?_
      obtain ⟨x7, ex7, hE⟩ := Option.bind_eq_some_iff.mp hE
      refine y_iald ex7 dX7_takeFrom_37 ?_
      obtain ⟨h8, eh8, hE⟩ := Option.bind_eq_some_iff.mp hE
      refine y_iast eh8 dX7_takeFrom_38 ?_
      obtain ⟨x9, ex9, hE⟩ := Option.bind_eq_some_iff.mp hE
      refine y_iinc (ls' := [(3, .int x9), (0, .ref v0), (1, .ref v1), (2, .int v2)]) dX7_takeFrom_39 3 rfl (Option.some.inj ex9) (by decide) rfl ?_
      refine y_goto (tgt := 18) dX7_takeFrom_42 (by decide) ?_
      refine y_pick [1, 2, 3, 0] rfl ?_
      exact ih _ _ _ hE K
def f_X7_takeFrom_L10 (n : Nat) (v0 : Nat) (v1 : Nat) : Nat → Int32 → xH → Option (xH)
  | 0, _, _ => none
  | k + 1, v2, h =>
    if (14 : Int32) ≤ v2 then
      some h
    else
      (f_X7_takeFrom_L18 v0 v1 v2 n (0 : Int32) h).bind fun q11 =>
      (some (v2 + (1 : Int32))).bind fun x12 =>
      f_X7_takeFrom_L10 n v0 v1 k x12 q11
set_option maxRecDepth 100000 in
set_option maxHeartbeats 4000000 in
theorem l_X7_takeFrom_10 {S : Nat × (Nat → Int32)} {rv : Option Value} {h0 h1 : xH} {mc ms : Nat} {cells slots : Nat} (hm : cells ≤ mc ∧ slots ≤ ms) (n : Nat) (v0 : Nat) (v1 : Nat) : ∀ (k : Nat) (v2 : Int32) (h : xH) (res : xH), f_X7_takeFrom_L10 n v0 v1 k v2 h = some res → (∀ r9, res = r9 → Y S M_X7_takeFrom h0 rv h1 mc ms 51 [(0, .ref v0), (1, .ref v1)] [] r9 cells slots) → Y S M_X7_takeFrom h0 rv h1 mc ms 10 [(0, .ref v0), (1, .ref v1), (2, .int v2)] [] h cells slots := by
  intro k
  induction k with
  | zero =>
    intro _ _ _ hE
    cases hE
  | succ k ih =>
    intro v2 h res hE K
    unfold f_X7_takeFrom_L10 at hE
    refine y_iload_n dX7_takeFrom_10 2 rfl ?_
    refine y_bipush (v := (14 : Int32)) dX7_takeFrom_11 (by decide) ?_
    refine y_icmp_ge (tgt := 51) dX7_takeFrom_13 (by decide) (fun hc13 => ?_) (fun hc13 => ?_)
    · rw [if_pos hc13] at hE
      obtain rfl := Option.some.inj hE
      exact y_pick [0, 1] rfl (K _ rfl)
    · rw [if_neg hc13] at hE
      refine y_iconst (v := (0 : Int32)) dX7_takeFrom_16 (by decide) ?_
      refine y_istore_n (ls' := [(3, .int (0 : Int32)), (0, .ref v0), (1, .ref v1), (2, .int v2)]) dX7_takeFrom_17 (by decide) rfl rfl ?_
      obtain ⟨q11, eq11, hE⟩ := Option.bind_eq_some_iff.mp hE
      refine y_pick [1, 2, 3, 0] rfl ?_
      refine l_X7_takeFrom_18 (S := S) hm v0 v1 v2 n (0 : Int32) h _ eq11 (fun r8 hr8 => ?_)
      subst hr8
      obtain ⟨x12, ex12, hE⟩ := Option.bind_eq_some_iff.mp hE
      refine y_iinc (ls' := [(2, .int x12), (0, .ref v0), (1, .ref v1)]) dX7_takeFrom_45 2 rfl (Option.some.inj ex12) (by decide) rfl ?_
      refine y_goto (tgt := 10) dX7_takeFrom_48 (by decide) ?_
      refine y_pick [1, 2, 0] rfl ?_
      exact ih _ _ _ hE K
def f_X7_takeFrom_L69 (v0 : Nat) (v1 : Nat) : Nat → Int32 → xH → Option (xH)
  | 0, _, _ => none
  | k + 1, v2, h =>
    if (4 : Int32) ≤ v2 then
      some h
    else
      (x_gR h v0 7 13).bind fun a19 =>
      (x_gR h v1 7 13).bind fun a20 =>
      (x_ld h a20 v2).bind fun x21 =>
      (x_st h a19 v2 x21).bind fun h22 =>
      (some (v2 + (1 : Int32))).bind fun x23 =>
      f_X7_takeFrom_L69 v0 v1 k x23 h22
set_option maxRecDepth 100000 in
set_option maxHeartbeats 4000000 in
theorem l_X7_takeFrom_69 {S : Nat × (Nat → Int32)} {rv : Option Value} {h0 h1 : xH} {mc ms : Nat} {cells slots : Nat} (hm : cells ≤ mc ∧ slots ≤ ms) (v0 : Nat) (v1 : Nat) : ∀ (k : Nat) (v2 : Int32) (h : xH) (res : xH), f_X7_takeFrom_L69 v0 v1 k v2 h = some res → (∀ r9, res = r9 → Y S M_X7_takeFrom h0 rv h1 mc ms 92 [(0, .ref v0), (1, .ref v1)] [] r9 cells slots) → Y S M_X7_takeFrom h0 rv h1 mc ms 69 [(0, .ref v0), (1, .ref v1), (2, .int v2)] [] h cells slots := by
  intro k
  induction k with
  | zero =>
    intro _ _ _ hE
    cases hE
  | succ k ih =>
    intro v2 h res hE K
    unfold f_X7_takeFrom_L69 at hE
    refine y_iload_n dX7_takeFrom_69 2 rfl ?_
    refine y_iconst (v := (4 : Int32)) dX7_takeFrom_70 (by decide) ?_
    refine y_icmp_ge (tgt := 92) dX7_takeFrom_71 (by decide) (fun hc24 => ?_) (fun hc24 => ?_)
    · rw [if_pos hc24] at hE
      obtain rfl := Option.some.inj hE
      exact y_pick [0, 1] rfl (K _ rfl)
    · rw [if_neg hc24] at hE
      refine y_aload_n dX7_takeFrom_74 0 rfl ?_
      obtain ⟨a19, ea19, hE⟩ := Option.bind_eq_some_iff.mp hE
      refine y_getR fl_X7_42 ea19 dX7_takeFrom_75 ?_
      refine y_iload_n dX7_takeFrom_78 2 rfl ?_
      refine y_aload_n dX7_takeFrom_79 1 rfl ?_
      obtain ⟨a20, ea20, hE⟩ := Option.bind_eq_some_iff.mp hE
      refine y_getR fl_X7_42 ea20 dX7_takeFrom_80 ?_
      refine y_iload_n dX7_takeFrom_83 2 rfl ?_
      obtain ⟨x21, ex21, hE⟩ := Option.bind_eq_some_iff.mp hE
      refine y_iald ex21 dX7_takeFrom_84 ?_
      obtain ⟨h22, eh22, hE⟩ := Option.bind_eq_some_iff.mp hE
      refine y_iast eh22 dX7_takeFrom_85 ?_
      obtain ⟨x23, ex23, hE⟩ := Option.bind_eq_some_iff.mp hE
      refine y_iinc (ls' := [(2, .int x23), (0, .ref v0), (1, .ref v1)]) dX7_takeFrom_86 2 rfl (Option.some.inj ex23) (by decide) rfl ?_
      refine y_goto (tgt := 69) dX7_takeFrom_89 (by decide) ?_
      refine y_pick [1, 2, 0] rfl ?_
      exact ih _ _ _ hE K
def f_X7_takeFrom (n : Nat) (h : xH) (a0 : Nat) (o1 : Nat) : Option (xH) :=
  (x_gI h o1 7 9).bind fun x1 =>
  (x_put h a0 7 9 (.int x1)).bind fun h2 =>
  (f_X7_takeFrom_L10 n a0 o1 n (0 : Int32) h2).bind fun q14 =>
  (x_gI q14 o1 7 11).bind fun x15 =>
  (x_put q14 a0 7 11 (.int x15)).bind fun h16 =>
  (x_gI h16 o1 7 12).bind fun x17 =>
  (x_put h16 a0 7 12 (.int x17)).bind fun h18 =>
  (f_X7_takeFrom_L69 a0 o1 n (0 : Int32) h18).bind fun q25 =>
  (x_gI q25 o1 7 14).bind fun x26 =>
  (x_put q25 a0 7 14 (.int x26)).bind fun h27 =>
  (x_gI h27 o1 7 15).bind fun x28 =>
  (x_put h27 a0 7 15 (.int x28)).bind fun h29 =>
  (x_gI h29 o1 7 16).bind fun x30 =>
  (x_put h29 a0 7 16 (.int x30)).bind fun h31 =>
  (x_gI h31 o1 7 17).bind fun x32 =>
  (x_put h31 a0 7 17 (.int x32)).bind fun h33 =>
  some h33
set_option maxRecDepth 100000 in
set_option maxHeartbeats 4000000 in
theorem c_X7_takeFrom {n : Nat} {h : xH} {a0 : Nat} {o1 : Nat} {hz : xH} (hE : f_X7_takeFrom n h a0 o1 = some hz) : Ctr M_X7_takeFrom [.ref a0, .ref o1] h none hz 0 0 := by
  refine ctr_of (by decide) (fun _ _ => Nat.le_of_ble_eq_true rfl) (fun S => ?_)
  show Y S M_X7_takeFrom h none hz 0 0 0 [(0, .ref a0), (1, .ref o1)] [] h 0 0
  unfold f_X7_takeFrom at hE
  refine y_aload_n dX7_takeFrom_0 0 rfl ?_
  refine y_aload_n dX7_takeFrom_1 1 rfl ?_
  obtain ⟨x1, ex1, hE⟩ := Option.bind_eq_some_iff.mp hE
  refine y_getI fl_X7_61 ex1 dX7_takeFrom_2 ?_
  obtain ⟨h2, eh2, hE⟩ := Option.bind_eq_some_iff.mp hE
  refine y_putI fp_X7_61 eh2 dX7_takeFrom_5 ?_
  refine y_iconst (v := (0 : Int32)) dX7_takeFrom_8 (by decide) ?_
  refine y_istore_n (ls' := [(2, .int (0 : Int32)), (0, .ref a0), (1, .ref o1)]) dX7_takeFrom_9 (by decide) rfl rfl ?_
  obtain ⟨q14, eq14, hE⟩ := Option.bind_eq_some_iff.mp hE
  refine y_pick [1, 2, 0] rfl ?_
  refine l_X7_takeFrom_10 (S := S) ⟨Nat.le_refl _, Nat.le_refl _⟩ n a0 o1 n (0 : Int32) h2 _ eq14 (fun r8 hr8 => ?_)
  subst hr8
  refine y_aload_n dX7_takeFrom_51 0 rfl ?_
  refine y_aload_n dX7_takeFrom_52 1 rfl ?_
  obtain ⟨x15, ex15, hE⟩ := Option.bind_eq_some_iff.mp hE
  refine y_getI fl_X7_108 ex15 dX7_takeFrom_53 ?_
  obtain ⟨h16, eh16, hE⟩ := Option.bind_eq_some_iff.mp hE
  refine y_putI fp_X7_108 eh16 dX7_takeFrom_56 ?_
  refine y_aload_n dX7_takeFrom_59 0 rfl ?_
  refine y_aload_n dX7_takeFrom_60 1 rfl ?_
  obtain ⟨x17, ex17, hE⟩ := Option.bind_eq_some_iff.mp hE
  refine y_getI fl_X7_68 ex17 dX7_takeFrom_61 ?_
  obtain ⟨h18, eh18, hE⟩ := Option.bind_eq_some_iff.mp hE
  refine y_putI fp_X7_68 eh18 dX7_takeFrom_64 ?_
  refine y_iconst (v := (0 : Int32)) dX7_takeFrom_67 (by decide) ?_
  refine y_istore_n (ls' := [(2, .int (0 : Int32)), (0, .ref a0), (1, .ref o1)]) dX7_takeFrom_68 (by decide) rfl rfl ?_
  obtain ⟨q25, eq25, hE⟩ := Option.bind_eq_some_iff.mp hE
  refine y_pick [1, 2, 0] rfl ?_
  refine l_X7_takeFrom_69 (S := S) ⟨Nat.le_refl _, Nat.le_refl _⟩ a0 o1 n (0 : Int32) h18 _ eq25 (fun r8 hr8 => ?_)
  subst hr8
  refine y_aload_n dX7_takeFrom_92 0 rfl ?_
  refine y_aload_n dX7_takeFrom_93 1 rfl ?_
  obtain ⟨x26, ex26, hE⟩ := Option.bind_eq_some_iff.mp hE
  refine y_getI fl_X7_45 ex26 dX7_takeFrom_94 ?_
  obtain ⟨h27, eh27, hE⟩ := Option.bind_eq_some_iff.mp hE
  refine y_putI fp_X7_45 eh27 dX7_takeFrom_97 ?_
  refine y_aload_n dX7_takeFrom_100 0 rfl ?_
  refine y_aload_n dX7_takeFrom_101 1 rfl ?_
  obtain ⟨x28, ex28, hE⟩ := Option.bind_eq_some_iff.mp hE
  refine y_getI fl_X7_113 ex28 dX7_takeFrom_102 ?_
  obtain ⟨h29, eh29, hE⟩ := Option.bind_eq_some_iff.mp hE
  refine y_putI fp_X7_113 eh29 dX7_takeFrom_105 ?_
  refine y_aload_n dX7_takeFrom_108 0 rfl ?_
  refine y_aload_n dX7_takeFrom_109 1 rfl ?_
  obtain ⟨x30, ex30, hE⟩ := Option.bind_eq_some_iff.mp hE
  refine y_getI fl_X7_246 ex30 dX7_takeFrom_110 ?_
  obtain ⟨h31, eh31, hE⟩ := Option.bind_eq_some_iff.mp hE
  refine y_putI fp_X7_246 eh31 dX7_takeFrom_113 ?_
  refine y_aload_n dX7_takeFrom_116 0 rfl ?_
  refine y_aload_n dX7_takeFrom_117 1 rfl ?_
  obtain ⟨x32, ex32, hE⟩ := Option.bind_eq_some_iff.mp hE
  refine y_getI fl_X7_49 ex32 dX7_takeFrom_118 ?_
  obtain ⟨h33, eh33, hE⟩ := Option.bind_eq_some_iff.mp hE
  refine y_putI fp_X7_49 eh33 dX7_takeFrom_121 ?_
  obtain rfl := Option.some.inj hE
  exact y_ret dX7_takeFrom_124 (Nat.le_refl _) (Nat.le_refl _) rfl
def f_X7_fresh (n : Nat) (h : xH) (a0 : Nat) : Option ((Nat × xH) × Nat × Nat) :=
  (x_gN h a0 7 19).bind fun b1 =>
  (
    if b1 = false then
      x_add 1 40 <|
      (f_X7_init (h ++ [.inr (7, [.null, .null, .null, .null, .null, .null, .null, .int 0, .null, .int 0, .null, .int 0, .int 0, .null, .int 0, .int 0, .int 0, .int 0, .null, .null, .int 0, .int 0, .int 0, .int 0, .int 0, .null, .int 0, .null, .null, .null, .int 0, .null, .int 0, .int 0, .null, .null, .int 0, .int 0, .int 0, .int 0])]) (h.length + 16)).bind fun q5 =>
      x_add q5.2.1 q5.2.2 <|
      (x_put q5.1 a0 7 19 (.ref (h.length + 16))).bind fun h8 =>
      some (h8, 0, 0)
    else
      some (h, 0, 0)
  ).bind fun q2 =>
  x_add q2.2.1 q2.2.2 <|
  (x_gR q2.1 a0 7 19).bind fun a9 =>
  (x_ob q2.1 a9 7).bind fun u10 =>
  (f_X7_takeFrom n q2.1 a9 a0).bind fun q11 =>
  (x_gR q11 a0 7 19).bind fun a12 =>
  some ((a12, q11), 0, 0)
set_option maxRecDepth 100000 in
set_option maxHeartbeats 4000000 in
theorem c_X7_fresh {n : Nat} {h : xH} {a0 : Nat} {r9 : Nat} {hz : xH} {c9 s9 : Nat} (hE : f_X7_fresh n h a0 = some ((r9, hz), c9, s9)) : Ctr M_X7_fresh [.ref a0] h (some (.ref r9)) hz c9 s9 := by
  refine ctr_of (by decide) (fun _ _ => Nat.le_of_ble_eq_true rfl) (fun S => ?_)
  show Y S M_X7_fresh h (some (.ref r9)) hz c9 s9 0 [(0, .ref a0)] [] h 0 0
  unfold f_X7_fresh at hE
  refine y_aload_n dX7_fresh_0 0 rfl ?_
  obtain ⟨b1, eb1, hE⟩ := Option.bind_eq_some_iff.mp hE
  obtain ⟨q2, eJ, hE⟩ := Option.bind_eq_some_iff.mp hE
  obtain ⟨c13, s14, hN, ecc13, ess14⟩ := x_add.spec hE
  clear hE; have hE := hN; clear hN
  have hJ : Y S M_X7_fresh h (some (.ref r9)) hz c9 s9 18 [(0, .ref a0)] [] q2.1 (0 + q2.2.1) (0 + q2.2.2) := by
    refine y_aload_n dX7_fresh_18 0 rfl ?_
    obtain ⟨a9, ea9, hE⟩ := Option.bind_eq_some_iff.mp hE
    refine y_getR fl_X7_339 ea9 dX7_fresh_19 ?_
    refine y_aload_n dX7_fresh_22 0 rfl ?_
    obtain ⟨u10, eu10, hE⟩ := Option.bind_eq_some_iff.mp hE
    obtain ⟨q11, eq11, hE⟩ := Option.bind_eq_some_iff.mp hE
    refine y_cVv0 (st := []) (as := [.ref a0]) (c_X7_takeFrom eq11) lk_X7_206 in_X7_takeFrom se_X7_takeFrom rfl eu10 ⟨Nat.le_of_ble_eq_true rfl, Nat.le_of_ble_eq_true rfl⟩ (Nat.le_of_ble_eq_true rfl) dX7_fresh_23 ⟨by omega, by omega⟩ rfl ?_
    refine y_aload_n dX7_fresh_26 0 rfl ?_
    obtain ⟨a12, ea12, hE⟩ := Option.bind_eq_some_iff.mp hE
    refine y_getR fl_X7_339 ea12 dX7_fresh_27 ?_
    obtain ⟨rfl, rfl, rfl, rfl⟩ := x_inj4 hE
    exact y_ret dX7_fresh_30 (by omega) (by omega) ⟨_, rfl, Or.inl ⟨_, rfl⟩⟩
  clear hE
  have hE := eJ.trans (show some q2 = some (q2.1, q2.2.1, q2.2.2) from rfl)
  clear eJ
  cases b1 with
  | false =>
    rw [if_pos rfl] at hE
    refine y_get fl_X7_339 (x_gN.no eb1) dX7_fresh_1 ?_
    refine y_nonnullN dX7_fresh_4 ?_
    refine y_aload_n dX7_fresh_7 0 rfl ?_
    obtain ⟨c3, s4, hN, ecc3, ess4⟩ := x_add.spec hE
    clear hE; have hE := hN; clear hN
    refine y_new (fs := [.null, .null, .null, .null, .null, .null, .null, .int 0, .null, .int 0, .null, .int 0, .int 0, .null, .int 0, .int 0, .int 0, .int 0, .null, .null, .int 0, .int 0, .int 0, .int 0, .int 0, .null, .int 0, .null, .null, .null, .int 0, .null, .int 0, .int 0, .null, .null, .int 0, .int 0, .int 0, .int 0]) cl_X7 (x_wt (tb 1164 (by decide +kernel)) rfl) (x_wt (tb 917 (by decide +kernel)) rfl) (x_wt (tb 8 (by decide +kernel)) rfl) (by decide) rfl ⟨by omega, by omega⟩ dX7_fresh_8 ?_
    refine y_dup dX7_fresh_11 rfl ?_
    obtain ⟨q5, eq5, hE⟩ := Option.bind_eq_some_iff.mp hE
    obtain ⟨c6, s7, hN, ecc6, ess7⟩ := x_add.spec hE
    clear hE; have hE := hN; clear hN
    refine y_cIv1 (st := [.ref (h.length + 16), .ref a0]) (as := []) (c_X7_init (eq5.trans (show some q5 = some (q5.1, q5.2.1, q5.2.2) from rfl))) lk_X7_343 in_X7_init rfl rfl (by omega) ⟨Nat.le_of_ble_eq_true rfl, Nat.le_of_ble_eq_true rfl⟩ (Nat.le_of_ble_eq_true rfl) dX7_fresh_12 ⟨by omega, by omega⟩ rfl ?_
    obtain ⟨h8, eh8, hE⟩ := Option.bind_eq_some_iff.mp hE
    refine y_putR fp_X7_339 (fun q => by first | rfl | cases q) (fun _ => rfl) (fun _ => rfl) eh8 dX7_fresh_15 ?_
    have e9 := Option.some.inj hE
    have e8 := congrArg Prod.fst e9
    have e7 := congrArg (fun z => z.2.1) e9
    have e6 := congrArg (fun z => z.2.2) e9
    dsimp only at e8 e7 e6
    rw [← e8] at hJ
    refine y_cnt (c2 := 0 + q2.2.1) (s2 := 0 + q2.2.2) (by omega) (by omega) ?_
    exact y_pick [0] rfl hJ
  | true =>
    rw [if_neg (by decide)] at hE
    obtain ⟨_, e9⟩ := x_gN.yes eb1
    refine y_get fl_X7_339 e9 dX7_fresh_1 ?_
    refine y_nonnullR (tgt := 18) dX7_fresh_4 (by decide) ?_
    have e9 := Option.some.inj hE
    have e8 := congrArg Prod.fst e9
    have e7 := congrArg (fun z => z.2.1) e9
    have e6 := congrArg (fun z => z.2.2) e9
    dsimp only at e8 e7 e6
    rw [← e8] at hJ
    refine y_cnt (c2 := 0 + q2.2.1) (s2 := 0 + q2.2.2) (by omega) (by omega) ?_
    exact y_pick [0] rfl hJ
def f_X7_house (n : Nat) (h : xH) (a0 : Nat) : Option ((Int32 × xH) × Nat × Nat) :=
  (x_ob h a0 7).bind fun u1 =>
  (f_X7_fresh n h a0).bind fun q2 =>
  x_add q2.2.1 q2.2.2 <|
  (x_ob q2.1.2 a0 7).bind fun u5 =>
  (f_X7_readAll n q2.1.2 a0).bind fun q6 =>
  (x_put q6.2 a0 7 7 (.int (0 : Int32))).bind fun h7 =>
  if q6.1 = 0 then
    (x_ob h7 a0 7).bind fun u8 =>
    (f_X7_takeFrom n h7 a0 q2.1.1).bind fun q9 =>
    (x_ob q9 a0 7).bind fun u10 =>
    (f_X7_refuse q9 a0 (-2 : Int32)).bind fun q11 =>
    (x_gI q11.2 a0 7 24).bind fun x12 =>
    some ((((-20 : Int32) - x12), q11.2), 0, 0)
  else
    (x_gI h7 a0 7 26).bind fun x13 =>
    some ((x13, h7), 0, 0)
set_option maxRecDepth 100000 in
set_option maxHeartbeats 4000000 in
theorem c_X7_house {n : Nat} {h : xH} {a0 : Nat} {r9 : Int32} {hz : xH} {c9 s9 : Nat} (hE : f_X7_house n h a0 = some ((r9, hz), c9, s9)) : Ctr M_X7_house [.ref a0] h (some (.int r9)) hz c9 s9 := by
  refine ctr_of (by decide) (fun _ _ => Nat.le_of_ble_eq_true rfl) (fun S => ?_)
  show Y S M_X7_house h (some (.int r9)) hz c9 s9 0 [(0, .ref a0)] [] h 0 0
  unfold f_X7_house at hE
  refine y_aload_n dX7_house_0 0 rfl ?_
  obtain ⟨u1, eu1, hE⟩ := Option.bind_eq_some_iff.mp hE
  obtain ⟨q2, eq2, hE⟩ := Option.bind_eq_some_iff.mp hE
  obtain ⟨c3, s4, hN, ecc3, ess4⟩ := x_add.spec hE
  clear hE; have hE := hN; clear hN
  refine y_cVr1 (st := []) (as := []) (c_X7_fresh (eq2.trans (show some q2 = some ((q2.1.1, q2.1.2), q2.2.1, q2.2.2) from rfl))) lk_X7_199 in_X7_fresh se_X7_fresh rfl eu1 ⟨Nat.le_of_ble_eq_true rfl, Nat.le_of_ble_eq_true rfl⟩ (Nat.le_of_ble_eq_true rfl) dX7_house_1 ⟨by omega, by omega⟩ rfl ?_
  refine y_astore_n (ls' := [(1, .ref q2.1.1), (0, .ref a0)]) dX7_house_4 (by decide) rfl rfl ?_
  refine y_aload_n dX7_house_5 1 rfl ?_
  obtain ⟨u5, eu5, hE⟩ := Option.bind_eq_some_iff.mp hE
  obtain ⟨q6, eq6, hE⟩ := Option.bind_eq_some_iff.mp hE
  refine y_cVi0 (st := []) (as := []) (c_X7_readAll eq6) lk_X7_203 in_X7_readAll se_X7_readAll rfl eu5 ⟨Nat.le_of_ble_eq_true rfl, Nat.le_of_ble_eq_true rfl⟩ (Nat.le_of_ble_eq_true rfl) dX7_house_6 ⟨by omega, by omega⟩ rfl ?_
  refine y_istore_n (ls' := [(2, .int q6.1), (1, .ref q2.1.1), (0, .ref a0)]) dX7_house_9 (by decide) rfl rfl ?_
  refine y_aload_n dX7_house_10 2 rfl ?_
  refine y_iconst (v := (0 : Int32)) dX7_house_11 (by decide) ?_
  obtain ⟨h7, eh7, hE⟩ := Option.bind_eq_some_iff.mp hE
  refine y_putI fp_X7_123 eh7 dX7_house_12 ?_
  refine y_iload_n dX7_house_15 0 rfl ?_
  refine y_if_ne (tgt := 39) dX7_house_16 (by decide) (fun hc14 => ?_) (fun hc14 => ?_)
  · rw [if_pos hc14] at hE
    refine y_aload_n dX7_house_19 2 rfl ?_
    refine y_aload_n dX7_house_20 1 rfl ?_
    obtain ⟨u8, eu8, hE⟩ := Option.bind_eq_some_iff.mp hE
    obtain ⟨q9, eq9, hE⟩ := Option.bind_eq_some_iff.mp hE
    refine y_cVv0 (st := []) (as := [.ref q2.1.1]) (c_X7_takeFrom eq9) lk_X7_206 in_X7_takeFrom se_X7_takeFrom rfl eu8 ⟨Nat.le_of_ble_eq_true rfl, Nat.le_of_ble_eq_true rfl⟩ (Nat.le_of_ble_eq_true rfl) dX7_house_21 ⟨by omega, by omega⟩ rfl ?_
    refine y_aload_n dX7_house_24 2 rfl ?_
    refine y_bipush (v := (-2 : Int32)) dX7_house_25 (by decide) ?_
    obtain ⟨u10, eu10, hE⟩ := Option.bind_eq_some_iff.mp hE
    obtain ⟨q11, eq11, hE⟩ := Option.bind_eq_some_iff.mp hE
    refine y_cVi0 (st := []) (as := [.int (-2 : Int32)]) (c_X7_refuse eq11) lk_X7_77 in_X7_refuse se_X7_refuse rfl eu10 ⟨Nat.le_of_ble_eq_true rfl, Nat.le_of_ble_eq_true rfl⟩ (Nat.le_of_ble_eq_true rfl) dX7_house_27 ⟨by omega, by omega⟩ rfl ?_
    refine y_pop dX7_house_30 rfl ?_
    refine y_bipush (v := (-20 : Int32)) dX7_house_31 (by decide) ?_
    refine y_aload_n dX7_house_33 2 rfl ?_
    obtain ⟨x12, ex12, hE⟩ := Option.bind_eq_some_iff.mp hE
    refine y_getI fl_X7_145 ex12 dX7_house_34 ?_
    refine y_isub dX7_house_37 ?_
    obtain ⟨rfl, rfl, rfl, rfl⟩ := x_inj4 hE
    exact y_ret dX7_house_38 (by omega) (by omega) ⟨_, rfl, rfl⟩
  · rw [if_neg hc14] at hE
    refine y_aload_n dX7_house_39 2 rfl ?_
    obtain ⟨x13, ex13, hE⟩ := Option.bind_eq_some_iff.mp hE
    refine y_getI fl_X7_193 ex13 dX7_house_40 ?_
    obtain ⟨rfl, rfl, rfl, rfl⟩ := x_inj4 hE
    exact y_ret dX7_house_43 (by omega) (by omega) ⟨_, rfl, rfl⟩
def f_X7_doorOf (h : xH) (a0 : Nat) (p1 : Int32) (p2 : Int32) : Option (Int32 × xH) :=
  (x_ob h a0 7).bind fun u1 =>
  (f_X7_isDoor h a0 p1).bind fun q2 =>
  if q2 = 0 then
    (x_ob h a0 7).bind fun u3 =>
    (f_X7_refuse h a0 (-2 : Int32)).bind fun q4 =>
    some (q4.1, q4.2)
  else
    (f_X7_in h p2.toInt64 (0 : Int64) (4 : Int64)).bind fun q5 =>
    if q5 = 0 then
      (x_ob h a0 7).bind fun u6 =>
      (f_X7_refuse h a0 (-2 : Int32)).bind fun q7 =>
      some (q7.1, q7.2)
    else
      if p2 = (3 : Int32) then
        (x_gI h a0 7 11).bind fun x8 =>
        some (((i_shr x8 p1) &&& (1 : Int32)), h)
      else
        if p2 = (4 : Int32) then
          (x_ob h a0 7).bind fun u9 =>
          (f_X7_weightOf h a0 p1).bind fun q10 =>
          some (q10, h)
        else
          (x_gR h a0 7 10).bind fun a11 =>
          (x_ldQ h a11 p1).bind fun a12 =>
          (x_ld h a12 p2).bind fun x13 =>
          some (x13, h)
set_option maxRecDepth 100000 in
set_option maxHeartbeats 4000000 in
theorem c_X7_doorOf {h : xH} {a0 : Nat} {p1 : Int32} {p2 : Int32} {r9 : Int32} {hz : xH} (hE : f_X7_doorOf h a0 p1 p2 = some (r9, hz)) : Ctr M_X7_doorOf [.ref a0, .int p1, .int p2] h (some (.int r9)) hz 0 0 := by
  refine ctr_of (by decide) (fun _ _ => Nat.le_of_ble_eq_true rfl) (fun S => ?_)
  show Y S M_X7_doorOf h (some (.int r9)) hz 0 0 0 [(0, .ref a0), (1, .int p1), (2, .int p2)] [] h 0 0
  unfold f_X7_doorOf at hE
  refine y_aload_n dX7_doorOf_0 0 rfl ?_
  refine y_iload_n dX7_doorOf_1 1 rfl ?_
  obtain ⟨u1, eu1, hE⟩ := Option.bind_eq_some_iff.mp hE
  obtain ⟨q2, eq2, hE⟩ := Option.bind_eq_some_iff.mp hE
  refine y_cVi0 (st := []) (as := [.int p1]) (c_X7_isDoor eq2) lk_X7_88 in_X7_isDoor se_X7_isDoor rfl eu1 ⟨Nat.le_of_ble_eq_true rfl, Nat.le_of_ble_eq_true rfl⟩ (Nat.le_of_ble_eq_true rfl) dX7_doorOf_2 ⟨Nat.le_refl _, Nat.le_refl _⟩ rfl ?_
  refine y_if_eq (tgt := 20) dX7_doorOf_5 (by decide) (fun hc17 => ?_) (fun hc17 => ?_)
  · rw [if_pos hc17] at hE
    refine y_aload_n dX7_doorOf_20 0 rfl ?_
    refine y_bipush (v := (-2 : Int32)) dX7_doorOf_21 (by decide) ?_
    obtain ⟨u3, eu3, hE⟩ := Option.bind_eq_some_iff.mp hE
    obtain ⟨q4, eq4, hE⟩ := Option.bind_eq_some_iff.mp hE
    refine y_cVi0 (st := []) (as := [.int (-2 : Int32)]) (c_X7_refuse eq4) lk_X7_77 in_X7_refuse se_X7_refuse rfl eu3 ⟨Nat.le_of_ble_eq_true rfl, Nat.le_of_ble_eq_true rfl⟩ (Nat.le_of_ble_eq_true rfl) dX7_doorOf_23 ⟨Nat.le_refl _, Nat.le_refl _⟩ rfl ?_
    obtain ⟨rfl, rfl⟩ := x_inj2 hE
    exact y_ret dX7_doorOf_26 (Nat.le_refl _) (Nat.le_refl _) ⟨_, rfl, rfl⟩
  · rw [if_neg hc17] at hE
    refine y_iload_n dX7_doorOf_8 2 rfl ?_
    refine y_i2l dX7_doorOf_9 ?_
    refine y_lconst (v := (0 : Int64)) dX7_doorOf_10 (by decide) ?_
    refine y_ldc2 (v := (4 : Int64)) (x_wt (tb 1055 (by decide +kernel)) rfl) dX7_doorOf_11 ?_
    obtain ⟨q5, eq5, hE⟩ := Option.bind_eq_some_iff.mp hE
    refine y_cSi0 (st := []) (as := [.long p2.toInt64, .long (0 : Int64), .long (4 : Int64)]) (c_X7_in eq5) lk_X7_64 st_X7_in ⟨Nat.le_of_ble_eq_true rfl, Nat.le_of_ble_eq_true rfl⟩ (Nat.le_of_ble_eq_true rfl) dX7_doorOf_14 ⟨Nat.le_refl _, Nat.le_refl _⟩ rfl ?_
    refine y_if_ne (tgt := 27) dX7_doorOf_17 (by decide) (fun hc16 => ?_) (fun hc16 => ?_)
    · rw [if_pos hc16] at hE
      refine y_aload_n dX7_doorOf_20 0 rfl ?_
      refine y_bipush (v := (-2 : Int32)) dX7_doorOf_21 (by decide) ?_
      obtain ⟨u6, eu6, hE⟩ := Option.bind_eq_some_iff.mp hE
      obtain ⟨q7, eq7, hE⟩ := Option.bind_eq_some_iff.mp hE
      refine y_cVi0 (st := []) (as := [.int (-2 : Int32)]) (c_X7_refuse eq7) lk_X7_77 in_X7_refuse se_X7_refuse rfl eu6 ⟨Nat.le_of_ble_eq_true rfl, Nat.le_of_ble_eq_true rfl⟩ (Nat.le_of_ble_eq_true rfl) dX7_doorOf_23 ⟨Nat.le_refl _, Nat.le_refl _⟩ rfl ?_
      obtain ⟨rfl, rfl⟩ := x_inj2 hE
      exact y_ret dX7_doorOf_26 (Nat.le_refl _) (Nat.le_refl _) ⟨_, rfl, rfl⟩
    · rw [if_neg hc16] at hE
      refine y_iload_n dX7_doorOf_27 2 rfl ?_
      refine y_iconst (v := (3 : Int32)) dX7_doorOf_28 (by decide) ?_
      refine y_icmp_ne (tgt := 43) dX7_doorOf_29 (by decide) (fun hc15 => ?_) (fun hc15 => ?_)
      · rw [if_pos hc15] at hE
        refine y_aload_n dX7_doorOf_32 0 rfl ?_
        obtain ⟨x8, ex8, hE⟩ := Option.bind_eq_some_iff.mp hE
        refine y_getI fl_X7_108 ex8 dX7_doorOf_33 ?_
        refine y_iload_n dX7_doorOf_36 1 rfl ?_
        refine y_ishr dX7_doorOf_37 ?_
        refine y_iconst (v := (1 : Int32)) dX7_doorOf_38 (by decide) ?_
        refine y_iand dX7_doorOf_39 ?_
        refine y_goto (tgt := 64) dX7_doorOf_40 (by decide) ?_
        obtain ⟨rfl, rfl⟩ := x_inj2 hE
        exact y_ret dX7_doorOf_64 (Nat.le_refl _) (Nat.le_refl _) ⟨_, rfl, rfl⟩
      · rw [if_neg hc15] at hE
        refine y_iload_n dX7_doorOf_43 2 rfl ?_
        refine y_iconst (v := (4 : Int32)) dX7_doorOf_44 (by decide) ?_
        refine y_icmp_ne (tgt := 56) dX7_doorOf_45 (by decide) (fun hc14 => ?_) (fun hc14 => ?_)
        · rw [if_pos hc14] at hE
          refine y_aload_n dX7_doorOf_48 0 rfl ?_
          refine y_iload_n dX7_doorOf_49 1 rfl ?_
          obtain ⟨u9, eu9, hE⟩ := Option.bind_eq_some_iff.mp hE
          obtain ⟨q10, eq10, hE⟩ := Option.bind_eq_some_iff.mp hE
          refine y_cVi0 (st := []) (as := [.int p1]) (c_X7_weightOf eq10) lk_X7_94 in_X7_weightOf se_X7_weightOf rfl eu9 ⟨Nat.le_of_ble_eq_true rfl, Nat.le_of_ble_eq_true rfl⟩ (Nat.le_of_ble_eq_true rfl) dX7_doorOf_50 ⟨Nat.le_refl _, Nat.le_refl _⟩ rfl ?_
          refine y_goto (tgt := 64) dX7_doorOf_53 (by decide) ?_
          obtain ⟨rfl, rfl⟩ := x_inj2 hE
          exact y_ret dX7_doorOf_64 (Nat.le_refl _) (Nat.le_refl _) ⟨_, rfl, rfl⟩
        · rw [if_neg hc14] at hE
          refine y_aload_n dX7_doorOf_56 0 rfl ?_
          obtain ⟨a11, ea11, hE⟩ := Option.bind_eq_some_iff.mp hE
          refine y_getR fl_X7_39 ea11 dX7_doorOf_57 ?_
          refine y_iload_n dX7_doorOf_60 1 rfl ?_
          obtain ⟨a12, ea12, hE⟩ := Option.bind_eq_some_iff.mp hE
          refine y_aald ea12 dX7_doorOf_61 ?_
          refine y_iload_n dX7_doorOf_62 2 rfl ?_
          obtain ⟨x13, ex13, hE⟩ := Option.bind_eq_some_iff.mp hE
          refine y_iald ex13 dX7_doorOf_63 ?_
          obtain ⟨rfl, rfl⟩ := x_inj2 hE
          exact y_ret dX7_doorOf_64 (Nat.le_refl _) (Nat.le_refl _) ⟨_, rfl, rfl⟩
def f_X7_where (h : xH) (a0 : Nat) (p1 : Int32) : Option (Int32 × xH) :=
  (x_ob h a0 7).bind fun u1 =>
  (f_X7_isOne h a0 p1).bind fun q2 =>
  if q2 = 0 then
    (x_ob h a0 7).bind fun u3 =>
    (f_X7_refuse h a0 (-2 : Int32)).bind fun q4 =>
    some (q4.1, q4.2)
  else
    (x_gR h a0 7 13).bind fun a5 =>
    (x_ld h a5 p1).bind fun x6 =>
    some (x6, h)
set_option maxRecDepth 100000 in
set_option maxHeartbeats 4000000 in
theorem c_X7_where {h : xH} {a0 : Nat} {p1 : Int32} {r9 : Int32} {hz : xH} (hE : f_X7_where h a0 p1 = some (r9, hz)) : Ctr M_X7_where [.ref a0, .int p1] h (some (.int r9)) hz 0 0 := by
  refine ctr_of (by decide) (fun _ _ => Nat.le_of_ble_eq_true rfl) (fun S => ?_)
  show Y S M_X7_where h (some (.int r9)) hz 0 0 0 [(0, .ref a0), (1, .int p1)] [] h 0 0
  unfold f_X7_where at hE
  refine y_aload_n dX7_where_0 0 rfl ?_
  refine y_iload_n dX7_where_1 1 rfl ?_
  obtain ⟨u1, eu1, hE⟩ := Option.bind_eq_some_iff.mp hE
  obtain ⟨q2, eq2, hE⟩ := Option.bind_eq_some_iff.mp hE
  refine y_cVi0 (st := []) (as := [.int p1]) (c_X7_isOne eq2) lk_X7_120 in_X7_isOne se_X7_isOne rfl eu1 ⟨Nat.le_of_ble_eq_true rfl, Nat.le_of_ble_eq_true rfl⟩ (Nat.le_of_ble_eq_true rfl) dX7_where_2 ⟨Nat.le_refl _, Nat.le_refl _⟩ rfl ?_
  refine y_if_eq (tgt := 17) dX7_where_5 (by decide) (fun hc7 => ?_) (fun hc7 => ?_)
  · rw [if_pos hc7] at hE
    refine y_aload_n dX7_where_17 0 rfl ?_
    refine y_bipush (v := (-2 : Int32)) dX7_where_18 (by decide) ?_
    obtain ⟨u3, eu3, hE⟩ := Option.bind_eq_some_iff.mp hE
    obtain ⟨q4, eq4, hE⟩ := Option.bind_eq_some_iff.mp hE
    refine y_cVi0 (st := []) (as := [.int (-2 : Int32)]) (c_X7_refuse eq4) lk_X7_77 in_X7_refuse se_X7_refuse rfl eu3 ⟨Nat.le_of_ble_eq_true rfl, Nat.le_of_ble_eq_true rfl⟩ (Nat.le_of_ble_eq_true rfl) dX7_where_20 ⟨Nat.le_refl _, Nat.le_refl _⟩ rfl ?_
    obtain ⟨rfl, rfl⟩ := x_inj2 hE
    exact y_ret dX7_where_23 (Nat.le_refl _) (Nat.le_refl _) ⟨_, rfl, rfl⟩
  · rw [if_neg hc7] at hE
    refine y_aload_n dX7_where_8 0 rfl ?_
    obtain ⟨a5, ea5, hE⟩ := Option.bind_eq_some_iff.mp hE
    refine y_getR fl_X7_42 ea5 dX7_where_9 ?_
    refine y_iload_n dX7_where_12 1 rfl ?_
    obtain ⟨x6, ex6, hE⟩ := Option.bind_eq_some_iff.mp hE
    refine y_iald ex6 dX7_where_13 ?_
    refine y_goto (tgt := 23) dX7_where_14 (by decide) ?_
    obtain ⟨rfl, rfl⟩ := x_inj2 hE
    exact y_ret dX7_where_23 (Nat.le_refl _) (Nat.le_refl _) ⟨_, rfl, rfl⟩
def f_X7_mayWalk (h : xH) (a0 : Nat) (p1 : Int32) (p2 : Int32) : Option (Int32) :=
  (x_gI h a0 7 11).bind fun x1 =>
  (f_X7_has h x1 p1).bind fun q2 =>
  if q2 = 0 then
    some (0 : Int32)
  else
    (x_gR h a0 7 10).bind fun a3 =>
    (x_ldQ h a3 p1).bind fun a4 =>
    (x_ld h a4 (0 : Int32)).bind fun x5 =>
    if x5 = (1 : Int32) then
      some (0 : Int32)
    else
      (x_ob h a0 7).bind fun u6 =>
      (f_X7_isAt h a0 p1 p2).bind fun q7 =>
      if q7 = 0 then
        some (0 : Int32)
      else
        some (1 : Int32)
set_option maxRecDepth 100000 in
set_option maxHeartbeats 4000000 in
theorem c_X7_mayWalk {h : xH} {a0 : Nat} {p1 : Int32} {p2 : Int32} {r9 : Int32} (hE : f_X7_mayWalk h a0 p1 p2 = some r9) : Ctr M_X7_mayWalk [.ref a0, .int p1, .int p2] h (some (.int r9)) h 0 0 := by
  refine ctr_of (by decide) (fun _ _ => Nat.le_of_ble_eq_true rfl) (fun S => ?_)
  show Y S M_X7_mayWalk h (some (.int r9)) h 0 0 0 [(0, .ref a0), (1, .int p1), (2, .int p2)] [] h 0 0
  unfold f_X7_mayWalk at hE
  refine y_aload_n dX7_mayWalk_0 0 rfl ?_
  obtain ⟨x1, ex1, hE⟩ := Option.bind_eq_some_iff.mp hE
  refine y_getI fl_X7_108 ex1 dX7_mayWalk_1 ?_
  refine y_iload_n dX7_mayWalk_4 1 rfl ?_
  obtain ⟨q2, eq2, hE⟩ := Option.bind_eq_some_iff.mp hE
  refine y_cSi0 (st := []) (as := [.int x1, .int p1]) (c_X7_has eq2) lk_X7_116 st_X7_has ⟨Nat.le_of_ble_eq_true rfl, Nat.le_of_ble_eq_true rfl⟩ (Nat.le_of_ble_eq_true rfl) dX7_mayWalk_5 ⟨Nat.le_refl _, Nat.le_refl _⟩ rfl ?_
  refine y_if_eq (tgt := 36) dX7_mayWalk_8 (by decide) (fun hc10 => ?_) (fun hc10 => ?_)
  · rw [if_pos hc10] at hE
    refine y_iconst (v := (0 : Int32)) dX7_mayWalk_36 (by decide) ?_
    obtain rfl := Option.some.inj hE
    exact y_ret dX7_mayWalk_37 (Nat.le_refl _) (Nat.le_refl _) ⟨_, rfl, rfl⟩
  · rw [if_neg hc10] at hE
    refine y_aload_n dX7_mayWalk_11 0 rfl ?_
    obtain ⟨a3, ea3, hE⟩ := Option.bind_eq_some_iff.mp hE
    refine y_getR fl_X7_39 ea3 dX7_mayWalk_12 ?_
    refine y_iload_n dX7_mayWalk_15 1 rfl ?_
    obtain ⟨a4, ea4, hE⟩ := Option.bind_eq_some_iff.mp hE
    refine y_aald ea4 dX7_mayWalk_16 ?_
    refine y_iconst (v := (0 : Int32)) dX7_mayWalk_17 (by decide) ?_
    obtain ⟨x5, ex5, hE⟩ := Option.bind_eq_some_iff.mp hE
    refine y_iald ex5 dX7_mayWalk_18 ?_
    refine y_iconst (v := (1 : Int32)) dX7_mayWalk_19 (by decide) ?_
    refine y_icmp_eq (tgt := 36) dX7_mayWalk_20 (by decide) (fun hc9 => ?_) (fun hc9 => ?_)
    · rw [if_pos hc9] at hE
      refine y_iconst (v := (0 : Int32)) dX7_mayWalk_36 (by decide) ?_
      obtain rfl := Option.some.inj hE
      exact y_ret dX7_mayWalk_37 (Nat.le_refl _) (Nat.le_refl _) ⟨_, rfl, rfl⟩
    · rw [if_neg hc9] at hE
      refine y_aload_n dX7_mayWalk_23 0 rfl ?_
      refine y_iload_n dX7_mayWalk_24 1 rfl ?_
      refine y_iload_n dX7_mayWalk_25 2 rfl ?_
      obtain ⟨u6, eu6, hE⟩ := Option.bind_eq_some_iff.mp hE
      obtain ⟨q7, eq7, hE⟩ := Option.bind_eq_some_iff.mp hE
      refine y_cVi0 (st := []) (as := [.int p1, .int p2]) (c_X7_isAt eq7) lk_X7_210 in_X7_isAt se_X7_isAt rfl eu6 ⟨Nat.le_of_ble_eq_true rfl, Nat.le_of_ble_eq_true rfl⟩ (Nat.le_of_ble_eq_true rfl) dX7_mayWalk_26 ⟨Nat.le_refl _, Nat.le_refl _⟩ rfl ?_
      refine y_if_eq (tgt := 36) dX7_mayWalk_29 (by decide) (fun hc8 => ?_) (fun hc8 => ?_)
      · rw [if_pos hc8] at hE
        refine y_iconst (v := (0 : Int32)) dX7_mayWalk_36 (by decide) ?_
        obtain rfl := Option.some.inj hE
        exact y_ret dX7_mayWalk_37 (Nat.le_refl _) (Nat.le_refl _) ⟨_, rfl, rfl⟩
      · rw [if_neg hc8] at hE
        refine y_iconst (v := (1 : Int32)) dX7_mayWalk_32 (by decide) ?_
        refine y_goto (tgt := 37) dX7_mayWalk_33 (by decide) ?_
        obtain rfl := Option.some.inj hE
        exact y_ret dX7_mayWalk_37 (Nat.le_refl _) (Nat.le_refl _) ⟨_, rfl, rfl⟩
def f_X7_canOpen (h : xH) (a0 : Nat) (p1 : Int32) (p2 : Int32) : Option (Int32) :=
  (x_gI h a0 7 11).bind fun x1 =>
  (f_X7_has h x1 p1).bind fun q2 =>
  if q2 = 0 then
    (x_gR h a0 7 10).bind fun a3 =>
    (x_ldQ h a3 p1).bind fun a4 =>
    (x_ld h a4 (0 : Int32)).bind fun x5 =>
    if x5 = (3 : Int32) then
      (x_gR h a0 7 10).bind fun a6 =>
      (x_ldQ h a6 p1).bind fun a7 =>
      (x_ld h a7 (1 : Int32)).bind fun x8 =>
      if x8 = p2 then
        some (1 : Int32)
      else
        some (0 : Int32)
    else
      (x_ob h a0 7).bind fun u10 =>
      (f_X7_isAt h a0 p1 p2).bind fun q11 =>
      if q11 = 0 then
        some (0 : Int32)
      else
        some (1 : Int32)
  else
    some (0 : Int32)
set_option maxRecDepth 100000 in
set_option maxHeartbeats 4000000 in
theorem c_X7_canOpen {h : xH} {a0 : Nat} {p1 : Int32} {p2 : Int32} {r9 : Int32} (hE : f_X7_canOpen h a0 p1 p2 = some r9) : Ctr M_X7_canOpen [.ref a0, .int p1, .int p2] h (some (.int r9)) h 0 0 := by
  refine ctr_of (by decide) (fun _ _ => Nat.le_of_ble_eq_true rfl) (fun S => ?_)
  show Y S M_X7_canOpen h (some (.int r9)) h 0 0 0 [(0, .ref a0), (1, .int p1), (2, .int p2)] [] h 0 0
  unfold f_X7_canOpen at hE
  refine y_aload_n dX7_canOpen_0 0 rfl ?_
  obtain ⟨x1, ex1, hE⟩ := Option.bind_eq_some_iff.mp hE
  refine y_getI fl_X7_108 ex1 dX7_canOpen_1 ?_
  refine y_iload_n dX7_canOpen_4 1 rfl ?_
  obtain ⟨q2, eq2, hE⟩ := Option.bind_eq_some_iff.mp hE
  refine y_cSi0 (st := []) (as := [.int x1, .int p1]) (c_X7_has eq2) lk_X7_116 st_X7_has ⟨Nat.le_of_ble_eq_true rfl, Nat.le_of_ble_eq_true rfl⟩ (Nat.le_of_ble_eq_true rfl) dX7_canOpen_5 ⟨Nat.le_refl _, Nat.le_refl _⟩ rfl ?_
  refine y_if_ne (tgt := 51) dX7_canOpen_8 (by decide) (fun hc14 => ?_) (fun hc14 => ?_)
  · rw [if_pos hc14] at hE
    refine y_aload_n dX7_canOpen_11 0 rfl ?_
    obtain ⟨a3, ea3, hE⟩ := Option.bind_eq_some_iff.mp hE
    refine y_getR fl_X7_39 ea3 dX7_canOpen_12 ?_
    refine y_iload_n dX7_canOpen_15 1 rfl ?_
    obtain ⟨a4, ea4, hE⟩ := Option.bind_eq_some_iff.mp hE
    refine y_aald ea4 dX7_canOpen_16 ?_
    refine y_iconst (v := (0 : Int32)) dX7_canOpen_17 (by decide) ?_
    obtain ⟨x5, ex5, hE⟩ := Option.bind_eq_some_iff.mp hE
    refine y_iald ex5 dX7_canOpen_18 ?_
    refine y_iconst (v := (3 : Int32)) dX7_canOpen_19 (by decide) ?_
    refine y_icmp_ne (tgt := 38) dX7_canOpen_20 (by decide) (fun hc13 => ?_) (fun hc13 => ?_)
    · rw [if_pos hc13] at hE
      refine y_aload_n dX7_canOpen_23 0 rfl ?_
      obtain ⟨a6, ea6, hE⟩ := Option.bind_eq_some_iff.mp hE
      refine y_getR fl_X7_39 ea6 dX7_canOpen_24 ?_
      refine y_iload_n dX7_canOpen_27 1 rfl ?_
      obtain ⟨a7, ea7, hE⟩ := Option.bind_eq_some_iff.mp hE
      refine y_aald ea7 dX7_canOpen_28 ?_
      refine y_iconst (v := (1 : Int32)) dX7_canOpen_29 (by decide) ?_
      obtain ⟨x8, ex8, hE⟩ := Option.bind_eq_some_iff.mp hE
      refine y_iald ex8 dX7_canOpen_30 ?_
      refine y_iload_n dX7_canOpen_31 2 rfl ?_
      refine y_icmp_ne (tgt := 51) dX7_canOpen_32 (by decide) (fun hc9 => ?_) (fun hc9 => ?_)
      · rw [if_pos hc9] at hE
        refine y_goto (tgt := 47) dX7_canOpen_35 (by decide) ?_
        refine y_iconst (v := (1 : Int32)) dX7_canOpen_47 (by decide) ?_
        refine y_goto (tgt := 52) dX7_canOpen_48 (by decide) ?_
        obtain rfl := Option.some.inj hE
        exact y_ret dX7_canOpen_52 (Nat.le_refl _) (Nat.le_refl _) ⟨_, rfl, rfl⟩
      · rw [if_neg hc9] at hE
        refine y_iconst (v := (0 : Int32)) dX7_canOpen_51 (by decide) ?_
        obtain rfl := Option.some.inj hE
        exact y_ret dX7_canOpen_52 (Nat.le_refl _) (Nat.le_refl _) ⟨_, rfl, rfl⟩
    · rw [if_neg hc13] at hE
      refine y_aload_n dX7_canOpen_38 0 rfl ?_
      refine y_iload_n dX7_canOpen_39 1 rfl ?_
      refine y_iload_n dX7_canOpen_40 2 rfl ?_
      obtain ⟨u10, eu10, hE⟩ := Option.bind_eq_some_iff.mp hE
      obtain ⟨q11, eq11, hE⟩ := Option.bind_eq_some_iff.mp hE
      refine y_cVi0 (st := []) (as := [.int p1, .int p2]) (c_X7_isAt eq11) lk_X7_210 in_X7_isAt se_X7_isAt rfl eu10 ⟨Nat.le_of_ble_eq_true rfl, Nat.le_of_ble_eq_true rfl⟩ (Nat.le_of_ble_eq_true rfl) dX7_canOpen_41 ⟨Nat.le_refl _, Nat.le_refl _⟩ rfl ?_
      refine y_if_eq (tgt := 51) dX7_canOpen_44 (by decide) (fun hc12 => ?_) (fun hc12 => ?_)
      · rw [if_pos hc12] at hE
        refine y_iconst (v := (0 : Int32)) dX7_canOpen_51 (by decide) ?_
        obtain rfl := Option.some.inj hE
        exact y_ret dX7_canOpen_52 (Nat.le_refl _) (Nat.le_refl _) ⟨_, rfl, rfl⟩
      · rw [if_neg hc12] at hE
        refine y_iconst (v := (1 : Int32)) dX7_canOpen_47 (by decide) ?_
        refine y_goto (tgt := 52) dX7_canOpen_48 (by decide) ?_
        obtain rfl := Option.some.inj hE
        exact y_ret dX7_canOpen_52 (Nat.le_refl _) (Nat.le_refl _) ⟨_, rfl, rfl⟩
  · rw [if_neg hc14] at hE
    refine y_iconst (v := (0 : Int32)) dX7_canOpen_51 (by decide) ?_
    obtain rfl := Option.some.inj hE
    exact y_ret dX7_canOpen_52 (Nat.le_refl _) (Nat.le_refl _) ⟨_, rfl, rfl⟩
def f_X7_beyond (h : xH) (a0 : Nat) (p1 : Int32) (p2 : Int32) : Option (Int32) :=
  (x_gR h a0 7 10).bind fun a1 =>
  (x_ldQ h a1 p1).bind fun a2 =>
  (x_ld h a2 (1 : Int32)).bind fun x3 =>
  if x3 = p2 then
    (x_gR h a0 7 10).bind fun a4 =>
    (x_ldQ h a4 p1).bind fun a5 =>
    (x_ld h a5 (2 : Int32)).bind fun x6 =>
    some x6
  else
    (x_gR h a0 7 10).bind fun a7 =>
    (x_ldQ h a7 p1).bind fun a8 =>
    (x_ld h a8 (1 : Int32)).bind fun x9 =>
    some x9
set_option maxRecDepth 100000 in
set_option maxHeartbeats 4000000 in
theorem c_X7_beyond {h : xH} {a0 : Nat} {p1 : Int32} {p2 : Int32} {r9 : Int32} (hE : f_X7_beyond h a0 p1 p2 = some r9) : Ctr M_X7_beyond [.ref a0, .int p1, .int p2] h (some (.int r9)) h 0 0 := by
  refine ctr_of (by decide) (fun _ _ => Nat.le_of_ble_eq_true rfl) (fun S => ?_)
  show Y S M_X7_beyond h (some (.int r9)) h 0 0 0 [(0, .ref a0), (1, .int p1), (2, .int p2)] [] h 0 0
  unfold f_X7_beyond at hE
  refine y_aload_n dX7_beyond_0 0 rfl ?_
  obtain ⟨a1, ea1, hE⟩ := Option.bind_eq_some_iff.mp hE
  refine y_getR fl_X7_39 ea1 dX7_beyond_1 ?_
  refine y_iload_n dX7_beyond_4 1 rfl ?_
  obtain ⟨a2, ea2, hE⟩ := Option.bind_eq_some_iff.mp hE
  refine y_aald ea2 dX7_beyond_5 ?_
  refine y_iconst (v := (1 : Int32)) dX7_beyond_6 (by decide) ?_
  obtain ⟨x3, ex3, hE⟩ := Option.bind_eq_some_iff.mp hE
  refine y_iald ex3 dX7_beyond_7 ?_
  refine y_iload_n dX7_beyond_8 2 rfl ?_
  refine y_icmp_ne (tgt := 23) dX7_beyond_9 (by decide) (fun hc10 => ?_) (fun hc10 => ?_)
  · rw [if_pos hc10] at hE
    refine y_aload_n dX7_beyond_12 0 rfl ?_
    obtain ⟨a4, ea4, hE⟩ := Option.bind_eq_some_iff.mp hE
    refine y_getR fl_X7_39 ea4 dX7_beyond_13 ?_
    refine y_iload_n dX7_beyond_16 1 rfl ?_
    obtain ⟨a5, ea5, hE⟩ := Option.bind_eq_some_iff.mp hE
    refine y_aald ea5 dX7_beyond_17 ?_
    refine y_iconst (v := (2 : Int32)) dX7_beyond_18 (by decide) ?_
    obtain ⟨x6, ex6, hE⟩ := Option.bind_eq_some_iff.mp hE
    refine y_iald ex6 dX7_beyond_19 ?_
    refine y_goto (tgt := 31) dX7_beyond_20 (by decide) ?_
    obtain rfl := Option.some.inj hE
    exact y_ret dX7_beyond_31 (Nat.le_refl _) (Nat.le_refl _) ⟨_, rfl, rfl⟩
  · rw [if_neg hc10] at hE
    refine y_aload_n dX7_beyond_23 0 rfl ?_
    obtain ⟨a7, ea7, hE⟩ := Option.bind_eq_some_iff.mp hE
    refine y_getR fl_X7_39 ea7 dX7_beyond_24 ?_
    refine y_iload_n dX7_beyond_27 1 rfl ?_
    obtain ⟨a8, ea8, hE⟩ := Option.bind_eq_some_iff.mp hE
    refine y_aald ea8 dX7_beyond_28 ?_
    refine y_iconst (v := (1 : Int32)) dX7_beyond_29 (by decide) ?_
    obtain ⟨x9, ex9, hE⟩ := Option.bind_eq_some_iff.mp hE
    refine y_iald ex9 dX7_beyond_30 ?_
    obtain rfl := Option.some.inj hE
    exact y_ret dX7_beyond_31 (Nat.le_refl _) (Nat.le_refl _) ⟨_, rfl, rfl⟩
def f_X7_weightsOf_L4 (h : xH) (v0 : Nat) (v1 : Int32) : Nat → Int32 → Int32 → Option (Int32)
  | 0, _, _ => none
  | k + 1, v2, v3 =>
    (x_gI h v0 7 9).bind fun x1 =>
    if x1 ≤ v3 then
      some v2
    else
      (f_X7_has h v1 v3).bind fun q2 =>
      if q2 = 0 then
        (some (v2 + (0 : Int32))).bind fun x3 =>
        (some (v3 + (1 : Int32))).bind fun x4 =>
        f_X7_weightsOf_L4 h v0 v1 k x3 x4
      else
        (x_ob h v0 7).bind fun u5 =>
        (f_X7_weightOf h v0 v3).bind fun q6 =>
        (some (v2 + q6)).bind fun x7 =>
        (some (v3 + (1 : Int32))).bind fun x8 =>
        f_X7_weightsOf_L4 h v0 v1 k x7 x8
set_option maxRecDepth 100000 in
set_option maxHeartbeats 4000000 in
theorem l_X7_weightsOf_4 {S : Nat × (Nat → Int32)} {rv : Option Value} {h0 h1 : xH} {mc ms : Nat} {cells slots : Nat} (hm : cells ≤ mc ∧ slots ≤ ms) (h : xH) (v0 : Nat) (v1 : Int32) : ∀ (k : Nat) (v2 : Int32) (v3 : Int32) (res : Int32), f_X7_weightsOf_L4 h v0 v1 k v2 v3 = some res → (∀ r9, res = r9 → Y S M_X7_weightsOf h0 rv h1 mc ms 38 [(2, .int r9)] [] h cells slots) → Y S M_X7_weightsOf h0 rv h1 mc ms 4 [(0, .ref v0), (1, .int v1), (2, .int v2), (3, .int v3)] [] h cells slots := by
  intro k
  induction k with
  | zero =>
    intro _ _ _ hE
    cases hE
  | succ k ih =>
    intro v2 v3 res hE K
    unfold f_X7_weightsOf_L4 at hE
    refine y_iload_n dX7_weightsOf_4 3 rfl ?_
    refine y_aload_n dX7_weightsOf_5 0 rfl ?_
    obtain ⟨x1, ex1, hE⟩ := Option.bind_eq_some_iff.mp hE
    refine y_getI fl_X7_61 ex1 dX7_weightsOf_6 ?_
    refine y_icmp_ge (tgt := 38) dX7_weightsOf_9 (by decide) (fun hc10 => ?_) (fun hc10 => ?_)
    · rw [if_pos hc10] at hE
      obtain rfl := Option.some.inj hE
      exact y_pick [2] rfl (K _ rfl)
    · rw [if_neg hc10] at hE
      refine y_iload_n dX7_weightsOf_12 2 rfl ?_
      refine y_iload_n dX7_weightsOf_13 1 rfl ?_
      refine y_iload_n dX7_weightsOf_14 3 rfl ?_
      obtain ⟨q2, eq2, hE⟩ := Option.bind_eq_some_iff.mp hE
      refine y_cSi0 (st := [.int v2]) (as := [.int v1, .int v3]) (c_X7_has eq2) lk_X7_116 st_X7_has ⟨Nat.le_of_ble_eq_true rfl, Nat.le_of_ble_eq_true rfl⟩ (Nat.le_of_ble_eq_true rfl) dX7_weightsOf_15 hm rfl ?_
      refine y_if_eq (tgt := 29) dX7_weightsOf_18 (by decide) (fun hc9 => ?_) (fun hc9 => ?_)
      · rw [if_pos hc9] at hE
        refine y_iconst (v := (0 : Int32)) dX7_weightsOf_29 (by decide) ?_
        refine y_iadd dX7_weightsOf_30 ?_
        obtain ⟨x3, ex3, hE⟩ := Option.bind_eq_some_iff.mp hE
        refine y_istore_n (ls' := [(2, .int x3), (0, .ref v0), (1, .int v1), (3, .int v3)]) dX7_weightsOf_31 (by decide) (Option.some.inj ex3) rfl ?_
        obtain ⟨x4, ex4, hE⟩ := Option.bind_eq_some_iff.mp hE
        refine y_iinc (ls' := [(3, .int x4), (2, .int x3), (0, .ref v0), (1, .int v1)]) dX7_weightsOf_32 3 rfl (Option.some.inj ex4) (by decide) rfl ?_
        refine y_goto (tgt := 4) dX7_weightsOf_35 (by decide) ?_
        refine y_pick [2, 3, 1, 0] rfl ?_
        exact ih _ _ _ hE K
      · rw [if_neg hc9] at hE
        refine y_aload_n dX7_weightsOf_21 0 rfl ?_
        refine y_iload_n dX7_weightsOf_22 3 rfl ?_
        obtain ⟨u5, eu5, hE⟩ := Option.bind_eq_some_iff.mp hE
        obtain ⟨q6, eq6, hE⟩ := Option.bind_eq_some_iff.mp hE
        refine y_cVi0 (st := [.int v2]) (as := [.int v3]) (c_X7_weightOf eq6) lk_X7_94 in_X7_weightOf se_X7_weightOf rfl eu5 ⟨Nat.le_of_ble_eq_true rfl, Nat.le_of_ble_eq_true rfl⟩ (Nat.le_of_ble_eq_true rfl) dX7_weightsOf_23 hm rfl ?_
        refine y_goto (tgt := 30) dX7_weightsOf_26 (by decide) ?_
        refine y_iadd dX7_weightsOf_30 ?_
        obtain ⟨x7, ex7, hE⟩ := Option.bind_eq_some_iff.mp hE
        refine y_istore_n (ls' := [(2, .int x7), (0, .ref v0), (1, .int v1), (3, .int v3)]) dX7_weightsOf_31 (by decide) (Option.some.inj ex7) rfl ?_
        obtain ⟨x8, ex8, hE⟩ := Option.bind_eq_some_iff.mp hE
        refine y_iinc (ls' := [(3, .int x8), (2, .int x7), (0, .ref v0), (1, .int v1)]) dX7_weightsOf_32 3 rfl (Option.some.inj ex8) (by decide) rfl ?_
        refine y_goto (tgt := 4) dX7_weightsOf_35 (by decide) ?_
        refine y_pick [2, 3, 1, 0] rfl ?_
        exact ih _ _ _ hE K
def f_X7_weightsOf (n : Nat) (h : xH) (a0 : Nat) (p1 : Int32) : Option (Int32) :=
  (f_X7_weightsOf_L4 h a0 p1 n (0 : Int32) (0 : Int32)).bind fun q11 =>
  some q11
set_option maxRecDepth 100000 in
set_option maxHeartbeats 4000000 in
theorem c_X7_weightsOf {n : Nat} {h : xH} {a0 : Nat} {p1 : Int32} {r9 : Int32} (hE : f_X7_weightsOf n h a0 p1 = some r9) : Ctr M_X7_weightsOf [.ref a0, .int p1] h (some (.int r9)) h 0 0 := by
  refine ctr_of (by decide) (fun _ _ => Nat.le_of_ble_eq_true rfl) (fun S => ?_)
  show Y S M_X7_weightsOf h (some (.int r9)) h 0 0 0 [(0, .ref a0), (1, .int p1)] [] h 0 0
  unfold f_X7_weightsOf at hE
  refine y_iconst (v := (0 : Int32)) dX7_weightsOf_0 (by decide) ?_
  refine y_istore_n (ls' := [(2, .int (0 : Int32)), (0, .ref a0), (1, .int p1)]) dX7_weightsOf_1 (by decide) rfl rfl ?_
  refine y_iconst (v := (0 : Int32)) dX7_weightsOf_2 (by decide) ?_
  refine y_istore_n (ls' := [(3, .int (0 : Int32)), (2, .int (0 : Int32)), (0, .ref a0), (1, .int p1)]) dX7_weightsOf_3 (by decide) rfl rfl ?_
  obtain ⟨q11, eq11, hE⟩ := Option.bind_eq_some_iff.mp hE
  refine y_pick [2, 3, 1, 0] rfl ?_
  refine l_X7_weightsOf_4 (S := S) ⟨Nat.le_refl _, Nat.le_refl _⟩ h a0 p1 n (0 : Int32) (0 : Int32) _ eq11 (fun r8 hr8 => ?_)
  subst hr8
  refine y_iload_n dX7_weightsOf_38 0 rfl ?_
  obtain rfl := Option.some.inj hE
  exact y_ret dX7_weightsOf_39 (Nat.le_refl _) (Nat.le_refl _) ⟨_, rfl, rfl⟩
def f_X7_isEnough_L18 (h : xH) (v0 : Nat) (v1 : Int32) (v2 : Int32) : Nat → Int32 → Option (Sum (Int32) (Unit))
  | 0, _ => none
  | k + 1, v3 =>
    (x_gI h v0 7 9).bind fun x4 =>
    if x4 ≤ v3 then
      some (.inr ())
    else
      (f_X7_has h v1 v3).bind fun q5 =>
      if q5 = 0 then
        (some (v3 + (1 : Int32))).bind fun x6 =>
        f_X7_isEnough_L18 h v0 v1 v2 k x6
      else
        (x_ob h v0 7).bind fun u7 =>
        (f_X7_weightOf h v0 v3).bind fun q8 =>
        (x_gI h v0 7 14).bind fun x9 =>
        if (v2 - q8) < x9 then
          (some (v3 + (1 : Int32))).bind fun x10 =>
          f_X7_isEnough_L18 h v0 v1 v2 k x10
        else
          some (.inl (0 : Int32))
set_option maxRecDepth 100000 in
set_option maxHeartbeats 4000000 in
theorem l_X7_isEnough_18 {S : Nat × (Nat → Int32)} {rv : Option Value} {h0 h1 : xH} {mc ms : Nat} {cells slots : Nat} (hm : cells ≤ mc ∧ slots ≤ ms) (h : xH) (v0 : Nat) (v1 : Int32) (v2 : Int32) : ∀ (k : Nat) (v3 : Int32) (res : Sum (Int32) (Unit)), f_X7_isEnough_L18 h v0 v1 v2 k v3 = some res → (∀ r9, res = .inl r9 → rv = some (.int r9) ∧ h1 = h) → (∀ r9, res = .inr r9 → Y S M_X7_isEnough h0 rv h1 mc ms 56 [] [] h cells slots) → Y S M_X7_isEnough h0 rv h1 mc ms 18 [(0, .ref v0), (1, .int v1), (2, .int v2), (3, .int v3)] [] h cells slots := by
  intro k
  induction k with
  | zero =>
    intro _ _ hE
    cases hE
  | succ k ih =>
    intro v3 res hE KR K
    unfold f_X7_isEnough_L18 at hE
    refine y_iload_n dX7_isEnough_18 3 rfl ?_
    refine y_aload_n dX7_isEnough_19 0 rfl ?_
    obtain ⟨x4, ex4, hE⟩ := Option.bind_eq_some_iff.mp hE
    refine y_getI fl_X7_61 ex4 dX7_isEnough_20 ?_
    refine y_icmp_ge (tgt := 56) dX7_isEnough_23 (by decide) (fun hc13 => ?_) (fun hc13 => ?_)
    · rw [if_pos hc13] at hE
      obtain rfl := Option.some.inj hE
      exact y_pick [] rfl (K _ rfl)
    · rw [if_neg hc13] at hE
      refine y_iload_n dX7_isEnough_26 1 rfl ?_
      refine y_iload_n dX7_isEnough_27 3 rfl ?_
      obtain ⟨q5, eq5, hE⟩ := Option.bind_eq_some_iff.mp hE
      refine y_cSi0 (st := []) (as := [.int v1, .int v3]) (c_X7_has eq5) lk_X7_116 st_X7_has ⟨Nat.le_of_ble_eq_true rfl, Nat.le_of_ble_eq_true rfl⟩ (Nat.le_of_ble_eq_true rfl) dX7_isEnough_28 hm rfl ?_
      refine y_if_eq (tgt := 50) dX7_isEnough_31 (by decide) (fun hc12 => ?_) (fun hc12 => ?_)
      · rw [if_pos hc12] at hE
        obtain ⟨x6, ex6, hE⟩ := Option.bind_eq_some_iff.mp hE
        refine y_iinc (ls' := [(3, .int x6), (0, .ref v0), (1, .int v1), (2, .int v2)]) dX7_isEnough_50 3 rfl (Option.some.inj ex6) (by decide) rfl ?_
        refine y_goto (tgt := 18) dX7_isEnough_53 (by decide) ?_
        refine y_pick [1, 2, 3, 0] rfl ?_
        exact ih _ _ hE KR K
      · rw [if_neg hc12] at hE
        refine y_iload_n dX7_isEnough_34 2 rfl ?_
        refine y_aload_n dX7_isEnough_35 0 rfl ?_
        refine y_iload_n dX7_isEnough_36 3 rfl ?_
        obtain ⟨u7, eu7, hE⟩ := Option.bind_eq_some_iff.mp hE
        obtain ⟨q8, eq8, hE⟩ := Option.bind_eq_some_iff.mp hE
        refine y_cVi0 (st := [.int v2]) (as := [.int v3]) (c_X7_weightOf eq8) lk_X7_94 in_X7_weightOf se_X7_weightOf rfl eu7 ⟨Nat.le_of_ble_eq_true rfl, Nat.le_of_ble_eq_true rfl⟩ (Nat.le_of_ble_eq_true rfl) dX7_isEnough_37 hm rfl ?_
        refine y_isub dX7_isEnough_40 ?_
        refine y_aload_n dX7_isEnough_41 0 rfl ?_
        obtain ⟨x9, ex9, hE⟩ := Option.bind_eq_some_iff.mp hE
        refine y_getI fl_X7_45 ex9 dX7_isEnough_42 ?_
        refine y_icmp_lt (tgt := 50) dX7_isEnough_45 (by decide) (fun hc11 => ?_) (fun hc11 => ?_)
        · rw [if_pos hc11] at hE
          obtain ⟨x10, ex10, hE⟩ := Option.bind_eq_some_iff.mp hE
          refine y_iinc (ls' := [(3, .int x10), (0, .ref v0), (1, .int v1), (2, .int v2)]) dX7_isEnough_50 3 rfl (Option.some.inj ex10) (by decide) rfl ?_
          refine y_goto (tgt := 18) dX7_isEnough_53 (by decide) ?_
          refine y_pick [1, 2, 3, 0] rfl ?_
          exact ih _ _ hE KR K
        · rw [if_neg hc11] at hE
          refine y_iconst (v := (0 : Int32)) dX7_isEnough_48 (by decide) ?_
          obtain rfl := Option.some.inj hE
          obtain ⟨rfl, rfl⟩ := KR _ rfl
          exact y_ret dX7_isEnough_49 hm.1 hm.2 ⟨_, rfl, rfl⟩
def f_X7_isEnough (n : Nat) (h : xH) (a0 : Nat) (p1 : Int32) : Option (Int32) :=
  (x_ob h a0 7).bind fun u1 =>
  (f_X7_weightsOf n h a0 p1).bind fun q2 =>
  (x_gI h a0 7 14).bind fun x3 =>
  if x3 ≤ q2 then
    (f_X7_isEnough_L18 h a0 p1 q2 n (0 : Int32)).bind fun q14 =>
    match q14 with
    | .inl r15 => some r15
    | .inr e16 =>
      some (1 : Int32)
  else
    some (0 : Int32)
set_option maxRecDepth 100000 in
set_option maxHeartbeats 4000000 in
theorem c_X7_isEnough {n : Nat} {h : xH} {a0 : Nat} {p1 : Int32} {r9 : Int32} (hE : f_X7_isEnough n h a0 p1 = some r9) : Ctr M_X7_isEnough [.ref a0, .int p1] h (some (.int r9)) h 0 0 := by
  refine ctr_of (by decide) (fun _ _ => Nat.le_of_ble_eq_true rfl) (fun S => ?_)
  show Y S M_X7_isEnough h (some (.int r9)) h 0 0 0 [(0, .ref a0), (1, .int p1)] [] h 0 0
  unfold f_X7_isEnough at hE
  refine y_aload_n dX7_isEnough_0 0 rfl ?_
  refine y_iload_n dX7_isEnough_1 1 rfl ?_
  obtain ⟨u1, eu1, hE⟩ := Option.bind_eq_some_iff.mp hE
  obtain ⟨q2, eq2, hE⟩ := Option.bind_eq_some_iff.mp hE
  refine y_cVi0 (st := []) (as := [.int p1]) (c_X7_weightsOf eq2) lk_X7_216 in_X7_weightsOf se_X7_weightsOf rfl eu1 ⟨Nat.le_of_ble_eq_true rfl, Nat.le_of_ble_eq_true rfl⟩ (Nat.le_of_ble_eq_true rfl) dX7_isEnough_2 ⟨Nat.le_refl _, Nat.le_refl _⟩ rfl ?_
  refine y_istore_n (ls' := [(2, .int q2), (0, .ref a0), (1, .int p1)]) dX7_isEnough_5 (by decide) rfl rfl ?_
  refine y_iload_n dX7_isEnough_6 0 rfl ?_
  refine y_aload_n dX7_isEnough_7 1 rfl ?_
  obtain ⟨x3, ex3, hE⟩ := Option.bind_eq_some_iff.mp hE
  refine y_getI fl_X7_45 ex3 dX7_isEnough_8 ?_
  refine y_icmp_ge (tgt := 16) dX7_isEnough_11 (by decide) (fun hc17 => ?_) (fun hc17 => ?_)
  · rw [if_pos hc17] at hE
    refine y_iconst (v := (0 : Int32)) dX7_isEnough_16 (by decide) ?_
    refine y_istore_n (ls' := [(3, .int (0 : Int32)), (2, .int q2), (0, .ref a0), (1, .int p1)]) dX7_isEnough_17 (by decide) rfl rfl ?_
    obtain ⟨q14, eq14, hE⟩ := Option.bind_eq_some_iff.mp hE
    refine y_pick [2, 3, 1, 0] rfl ?_
    cases q14 with
    | inl r15 =>
      dsimp only at hE
      cases hE
      exact l_X7_isEnough_18 (S := S) ⟨Nat.le_refl _, Nat.le_refl _⟩ h a0 p1 q2 n (0 : Int32) _ eq14 (fun r8 hr8 => by cases hr8; exact ⟨rfl, rfl⟩) (fun r8 hr8 => by cases hr8)
    | inr e16 =>
      dsimp only at hE
      refine l_X7_isEnough_18 (S := S) ⟨Nat.le_refl _, Nat.le_refl _⟩ h a0 p1 q2 n (0 : Int32) _ eq14 (fun r8 hr8 => by cases hr8) (fun r8 hr8 => ?_)
      cases hr8
      refine y_iconst (v := (1 : Int32)) dX7_isEnough_56 (by decide) ?_
      obtain rfl := Option.some.inj hE
      exact y_ret dX7_isEnough_57 (Nat.le_refl _) (Nat.le_refl _) ⟨_, rfl, rfl⟩
  · rw [if_neg hc17] at hE
    refine y_iconst (v := (0 : Int32)) dX7_isEnough_14 (by decide) ?_
    obtain rfl := Option.some.inj hE
    exact y_ret dX7_isEnough_15 (Nat.le_refl _) (Nat.le_refl _) ⟨_, rfl, rfl⟩
def f_X7_mayOpenBy (n : Nat) (h : xH) (a0 : Nat) (p1 : Int32) (p2 : Int32) (p3 : Int32) : Option (Int32) :=
  (x_gR h a0 7 13).bind fun a1 =>
  (x_ld h a1 p1).bind fun x2 =>
  (x_ob h a0 7).bind fun u3 =>
  (f_X7_canOpen h a0 p2 x2).bind fun q4 =>
  if q4 = 0 then
    some (0 : Int32)
  else
    (x_ob h a0 7).bind fun u5 =>
    (f_X7_shuttable n h a0).bind fun q6 =>
    if (p3 &&& (q6 ^^^ (-1 : Int32))) = 0 then
      (x_ob h a0 7).bind fun u7 =>
      (f_X7_isEnough n h a0 p3).bind fun q8 =>
      if q8 = 0 then
        some (0 : Int32)
      else
        some (1 : Int32)
    else
      some (0 : Int32)
set_option maxRecDepth 100000 in
set_option maxHeartbeats 4000000 in
theorem c_X7_mayOpenBy {n : Nat} {h : xH} {a0 : Nat} {p1 : Int32} {p2 : Int32} {p3 : Int32} {r9 : Int32} (hE : f_X7_mayOpenBy n h a0 p1 p2 p3 = some r9) : Ctr M_X7_mayOpenBy [.ref a0, .int p1, .int p2, .int p3] h (some (.int r9)) h 0 0 := by
  refine ctr_of (by decide) (fun _ _ => Nat.le_of_ble_eq_true rfl) (fun S => ?_)
  show Y S M_X7_mayOpenBy h (some (.int r9)) h 0 0 0 [(0, .ref a0), (1, .int p1), (2, .int p2), (3, .int p3)] [] h 0 0
  unfold f_X7_mayOpenBy at hE
  refine y_aload_n dX7_mayOpenBy_0 0 rfl ?_
  refine y_iload_n dX7_mayOpenBy_1 2 rfl ?_
  refine y_aload_n dX7_mayOpenBy_2 0 rfl ?_
  obtain ⟨a1, ea1, hE⟩ := Option.bind_eq_some_iff.mp hE
  refine y_getR fl_X7_42 ea1 dX7_mayOpenBy_3 ?_
  refine y_iload_n dX7_mayOpenBy_6 1 rfl ?_
  obtain ⟨x2, ex2, hE⟩ := Option.bind_eq_some_iff.mp hE
  refine y_iald ex2 dX7_mayOpenBy_7 ?_
  obtain ⟨u3, eu3, hE⟩ := Option.bind_eq_some_iff.mp hE
  obtain ⟨q4, eq4, hE⟩ := Option.bind_eq_some_iff.mp hE
  refine y_cVi0 (st := []) (as := [.int p2, .int x2]) (c_X7_canOpen eq4) lk_X7_219 in_X7_canOpen se_X7_canOpen rfl eu3 ⟨Nat.le_of_ble_eq_true rfl, Nat.le_of_ble_eq_true rfl⟩ (Nat.le_of_ble_eq_true rfl) dX7_mayOpenBy_8 ⟨Nat.le_refl _, Nat.le_refl _⟩ rfl ?_
  refine y_if_eq (tgt := 37) dX7_mayOpenBy_11 (by decide) (fun hc11 => ?_) (fun hc11 => ?_)
  · rw [if_pos hc11] at hE
    refine y_iconst (v := (0 : Int32)) dX7_mayOpenBy_37 (by decide) ?_
    obtain rfl := Option.some.inj hE
    exact y_ret dX7_mayOpenBy_38 (Nat.le_refl _) (Nat.le_refl _) ⟨_, rfl, rfl⟩
  · rw [if_neg hc11] at hE
    refine y_iload_n dX7_mayOpenBy_14 3 rfl ?_
    refine y_aload_n dX7_mayOpenBy_15 0 rfl ?_
    obtain ⟨u5, eu5, hE⟩ := Option.bind_eq_some_iff.mp hE
    obtain ⟨q6, eq6, hE⟩ := Option.bind_eq_some_iff.mp hE
    refine y_cVi0 (st := [.int p3]) (as := []) (c_X7_shuttable eq6) lk_X7_100 in_X7_shuttable se_X7_shuttable rfl eu5 ⟨Nat.le_of_ble_eq_true rfl, Nat.le_of_ble_eq_true rfl⟩ (Nat.le_of_ble_eq_true rfl) dX7_mayOpenBy_16 ⟨Nat.le_refl _, Nat.le_refl _⟩ rfl ?_
    refine y_iconst (v := (-1 : Int32)) dX7_mayOpenBy_19 (by decide) ?_
    refine y_ixor dX7_mayOpenBy_20 ?_
    refine y_iand dX7_mayOpenBy_21 ?_
    refine y_if_ne (tgt := 37) dX7_mayOpenBy_22 (by decide) (fun hc10 => ?_) (fun hc10 => ?_)
    · rw [if_pos hc10] at hE
      refine y_aload_n dX7_mayOpenBy_25 0 rfl ?_
      refine y_iload_n dX7_mayOpenBy_26 3 rfl ?_
      obtain ⟨u7, eu7, hE⟩ := Option.bind_eq_some_iff.mp hE
      obtain ⟨q8, eq8, hE⟩ := Option.bind_eq_some_iff.mp hE
      refine y_cVi0 (st := []) (as := [.int p3]) (c_X7_isEnough eq8) lk_X7_222 in_X7_isEnough se_X7_isEnough rfl eu7 ⟨Nat.le_of_ble_eq_true rfl, Nat.le_of_ble_eq_true rfl⟩ (Nat.le_of_ble_eq_true rfl) dX7_mayOpenBy_27 ⟨Nat.le_refl _, Nat.le_refl _⟩ rfl ?_
      refine y_if_eq (tgt := 37) dX7_mayOpenBy_30 (by decide) (fun hc9 => ?_) (fun hc9 => ?_)
      · rw [if_pos hc9] at hE
        refine y_iconst (v := (0 : Int32)) dX7_mayOpenBy_37 (by decide) ?_
        obtain rfl := Option.some.inj hE
        exact y_ret dX7_mayOpenBy_38 (Nat.le_refl _) (Nat.le_refl _) ⟨_, rfl, rfl⟩
      · rw [if_neg hc9] at hE
        refine y_iconst (v := (1 : Int32)) dX7_mayOpenBy_33 (by decide) ?_
        refine y_goto (tgt := 38) dX7_mayOpenBy_34 (by decide) ?_
        obtain rfl := Option.some.inj hE
        exact y_ret dX7_mayOpenBy_38 (Nat.le_refl _) (Nat.le_refl _) ⟨_, rfl, rfl⟩
    · rw [if_neg hc10] at hE
      refine y_iconst (v := (0 : Int32)) dX7_mayOpenBy_37 (by decide) ?_
      obtain rfl := Option.some.inj hE
      exact y_ret dX7_mayOpenBy_38 (Nat.le_refl _) (Nat.le_refl _) ⟨_, rfl, rfl⟩
def f_X7_doors_L37 (h : xH) (v0 : Nat) (v1 : Int32) (v2 : Int32) : Nat → Int32 → Int32 → Option (Int32)
  | 0, _, _ => none
  | k + 1, v3, v4 =>
    (x_gI h v0 7 9).bind fun x7 =>
    if x7 ≤ v4 then
      some v3
    else
      if v1 = (1 : Int32) then
        (x_ob h v0 7).bind fun u8 =>
        (f_X7_isAt h v0 v4 v2).bind fun q9 =>
        if q9 = 0 then
          (some (v3 ||| (0 : Int32))).bind fun x10 =>
          (some (v4 + (1 : Int32))).bind fun x11 =>
          f_X7_doors_L37 h v0 v1 v2 k x10 x11
        else
          (some (v3 ||| (i_shl (1 : Int32) v4))).bind fun x12 =>
          (some (v4 + (1 : Int32))).bind fun x13 =>
          f_X7_doors_L37 h v0 v1 v2 k x12 x13
      else
        some v3
set_option maxRecDepth 100000 in
set_option maxHeartbeats 4000000 in
theorem l_X7_doors_37 {S : Nat × (Nat → Int32)} {rv : Option Value} {h0 h1 : xH} {mc ms : Nat} {cells slots : Nat} (hm : cells ≤ mc ∧ slots ≤ ms) (h : xH) (v0 : Nat) (v1 : Int32) (v2 : Int32) : ∀ (k : Nat) (v3 : Int32) (v4 : Int32) (res : Int32), f_X7_doors_L37 h v0 v1 v2 k v3 v4 = some res → (∀ r9, res = r9 → Y S M_X7_doors h0 rv h1 mc ms 78 [(0, .ref v0), (1, .int v1), (3, .int r9)] [] h cells slots) → Y S M_X7_doors h0 rv h1 mc ms 37 [(0, .ref v0), (1, .int v1), (2, .int v2), (3, .int v3), (4, .int v4)] [] h cells slots := by
  intro k
  induction k with
  | zero =>
    intro _ _ _ hE
    cases hE
  | succ k ih =>
    intro v3 v4 res hE K
    unfold f_X7_doors_L37 at hE
    refine y_iload dX7_doors_37 4 rfl ?_
    refine y_aload_n dX7_doors_39 0 rfl ?_
    obtain ⟨x7, ex7, hE⟩ := Option.bind_eq_some_iff.mp hE
    refine y_getI fl_X7_61 ex7 dX7_doors_40 ?_
    refine y_icmp_ge (tgt := 78) dX7_doors_43 (by decide) (fun hc16 => ?_) (fun hc16 => ?_)
    · rw [if_pos hc16] at hE
      obtain rfl := Option.some.inj hE
      exact y_pick [0, 1, 3] rfl (K _ rfl)
    · rw [if_neg hc16] at hE
      refine y_iload_n dX7_doors_46 1 rfl ?_
      refine y_iconst (v := (1 : Int32)) dX7_doors_47 (by decide) ?_
      refine y_icmp_ne (tgt := 78) dX7_doors_48 (by decide) (fun hc15 => ?_) (fun hc15 => ?_)
      · rw [if_pos hc15] at hE
        refine y_iload_n dX7_doors_51 3 rfl ?_
        refine y_aload_n dX7_doors_52 0 rfl ?_
        refine y_iload dX7_doors_53 4 rfl ?_
        refine y_iload_n dX7_doors_55 2 rfl ?_
        obtain ⟨u8, eu8, hE⟩ := Option.bind_eq_some_iff.mp hE
        obtain ⟨q9, eq9, hE⟩ := Option.bind_eq_some_iff.mp hE
        refine y_cVi0 (st := [.int v3]) (as := [.int v4, .int v2]) (c_X7_isAt eq9) lk_X7_210 in_X7_isAt se_X7_isAt rfl eu8 ⟨Nat.le_of_ble_eq_true rfl, Nat.le_of_ble_eq_true rfl⟩ (Nat.le_of_ble_eq_true rfl) dX7_doors_56 hm rfl ?_
        refine y_if_eq (tgt := 69) dX7_doors_59 (by decide) (fun hc14 => ?_) (fun hc14 => ?_)
        · rw [if_pos hc14] at hE
          refine y_iconst (v := (0 : Int32)) dX7_doors_69 (by decide) ?_
          refine y_ior dX7_doors_70 ?_
          obtain ⟨x10, ex10, hE⟩ := Option.bind_eq_some_iff.mp hE
          refine y_istore_n (ls' := [(3, .int x10), (0, .ref v0), (1, .int v1), (2, .int v2), (4, .int v4)]) dX7_doors_71 (by decide) (Option.some.inj ex10) rfl ?_
          obtain ⟨x11, ex11, hE⟩ := Option.bind_eq_some_iff.mp hE
          refine y_iinc (ls' := [(4, .int x11), (3, .int x10), (0, .ref v0), (1, .int v1), (2, .int v2)]) dX7_doors_72 4 rfl (Option.some.inj ex11) (by decide) rfl ?_
          refine y_goto (tgt := 37) dX7_doors_75 (by decide) ?_
          refine y_pick [2, 3, 4, 1, 0] rfl ?_
          exact ih _ _ _ hE K
        · rw [if_neg hc14] at hE
          refine y_iconst (v := (1 : Int32)) dX7_doors_62 (by decide) ?_
          refine y_iload dX7_doors_63 4 rfl ?_
          refine y_ishl dX7_doors_65 ?_
          refine y_goto (tgt := 70) dX7_doors_66 (by decide) ?_
          refine y_ior dX7_doors_70 ?_
          obtain ⟨x12, ex12, hE⟩ := Option.bind_eq_some_iff.mp hE
          refine y_istore_n (ls' := [(3, .int x12), (0, .ref v0), (1, .int v1), (2, .int v2), (4, .int v4)]) dX7_doors_71 (by decide) (Option.some.inj ex12) rfl ?_
          obtain ⟨x13, ex13, hE⟩ := Option.bind_eq_some_iff.mp hE
          refine y_iinc (ls' := [(4, .int x13), (3, .int x12), (0, .ref v0), (1, .int v1), (2, .int v2)]) dX7_doors_72 4 rfl (Option.some.inj ex13) (by decide) rfl ?_
          refine y_goto (tgt := 37) dX7_doors_75 (by decide) ?_
          refine y_pick [2, 3, 4, 1, 0] rfl ?_
          exact ih _ _ _ hE K
      · rw [if_neg hc15] at hE
        obtain rfl := Option.some.inj hE
        exact y_pick [0, 1, 3] rfl (K _ rfl)
def f_X7_doors_J32 (n : Nat) (h : xH) (v0 : Nat) (v1 : Int32) (v2 : Int32) : Option (Int32 × xH) :=
  (f_X7_doors_L37 h v0 v1 v2 n (0 : Int32) (0 : Int32)).bind fun q17 =>
  if v1 = 0 then
    (x_gI h v0 7 11).bind fun x18 =>
    some (x18, h)
  else
    if v1 = (1 : Int32) then
      some (q17, h)
    else
      (x_ob h v0 7).bind fun u19 =>
      (f_X7_shuttable n h v0).bind fun q20 =>
      some (q20, h)
set_option maxRecDepth 100000 in
set_option maxHeartbeats 4000000 in
theorem j_X7_doors_32 {S : Nat × (Nat → Int32)} {h0 : xH} {mc ms cells slots : Nat} {n : Nat} {h : xH} {v0 : Nat} {v1 : Int32} {v2 : Int32} {r9 : Int32} {hz : xH} (hE : f_X7_doors_J32 n h v0 v1 v2 = some (r9, hz)) (hm : cells ≤ mc ∧ slots ≤ ms) : Y S M_X7_doors h0 (some (.int r9)) hz mc ms 32 [(0, .ref v0), (1, .int v1), (2, .int v2)] [] h cells slots := by
  unfold f_X7_doors_J32 at hE
  refine y_iconst (v := (0 : Int32)) dX7_doors_32 (by decide) ?_
  refine y_istore_n (ls' := [(3, .int (0 : Int32)), (0, .ref v0), (1, .int v1), (2, .int v2)]) dX7_doors_33 (by decide) rfl rfl ?_
  refine y_iconst (v := (0 : Int32)) dX7_doors_34 (by decide) ?_
  refine y_istore (ls' := [(4, .int (0 : Int32)), (3, .int (0 : Int32)), (0, .ref v0), (1, .int v1), (2, .int v2)]) dX7_doors_35 (by decide) rfl rfl ?_
  obtain ⟨q17, eq17, hE⟩ := Option.bind_eq_some_iff.mp hE
  refine y_pick [2, 3, 4, 1, 0] rfl ?_
  refine l_X7_doors_37 (S := S) hm h v0 v1 v2 n (0 : Int32) (0 : Int32) _ eq17 (fun r8 hr8 => ?_)
  subst hr8
  refine y_iload_n dX7_doors_78 1 rfl ?_
  refine y_if_ne (tgt := 89) dX7_doors_79 (by decide) (fun hc22 => ?_) (fun hc22 => ?_)
  · rw [if_pos hc22] at hE
    refine y_aload_n dX7_doors_82 0 rfl ?_
    obtain ⟨x18, ex18, hE⟩ := Option.bind_eq_some_iff.mp hE
    refine y_getI fl_X7_108 ex18 dX7_doors_83 ?_
    refine y_goto (tgt := 102) dX7_doors_86 (by decide) ?_
    obtain ⟨rfl, rfl⟩ := x_inj2 hE
    exact y_ret dX7_doors_102 hm.1 hm.2 ⟨_, rfl, rfl⟩
  · rw [if_neg hc22] at hE
    refine y_iload_n dX7_doors_89 1 rfl ?_
    refine y_iconst (v := (1 : Int32)) dX7_doors_90 (by decide) ?_
    refine y_icmp_ne (tgt := 98) dX7_doors_91 (by decide) (fun hc21 => ?_) (fun hc21 => ?_)
    · rw [if_pos hc21] at hE
      refine y_iload_n dX7_doors_94 2 rfl ?_
      refine y_goto (tgt := 102) dX7_doors_95 (by decide) ?_
      obtain ⟨rfl, rfl⟩ := x_inj2 hE
      exact y_ret dX7_doors_102 hm.1 hm.2 ⟨_, rfl, rfl⟩
    · rw [if_neg hc21] at hE
      refine y_aload_n dX7_doors_98 0 rfl ?_
      obtain ⟨u19, eu19, hE⟩ := Option.bind_eq_some_iff.mp hE
      obtain ⟨q20, eq20, hE⟩ := Option.bind_eq_some_iff.mp hE
      refine y_cVi0 (st := []) (as := []) (c_X7_shuttable eq20) lk_X7_100 in_X7_shuttable se_X7_shuttable rfl eu19 ⟨Nat.le_of_ble_eq_true rfl, Nat.le_of_ble_eq_true rfl⟩ (Nat.le_of_ble_eq_true rfl) dX7_doors_99 hm rfl ?_
      obtain ⟨rfl, rfl⟩ := x_inj2 hE
      exact y_ret dX7_doors_102 hm.1 hm.2 ⟨_, rfl, rfl⟩
def f_X7_doors (n : Nat) (h : xH) (a0 : Nat) (p1 : Int32) (p2 : Int32) : Option (Int32 × xH) :=
  (f_X7_in h p1.toInt64 (0 : Int64) (2 : Int64)).bind fun q1 =>
  if q1 = 0 then
    (x_ob h a0 7).bind fun u2 =>
    (f_X7_refuse h a0 (-2 : Int32)).bind fun q3 =>
    some (q3.1, q3.2)
  else
    if p1 = (1 : Int32) then
      (f_X7_isRoom h p2.toInt64).bind fun q4 =>
      if q4 = 0 then
        (x_ob h a0 7).bind fun u5 =>
        (f_X7_refuse h a0 (-2 : Int32)).bind fun q6 =>
        some (q6.1, q6.2)
      else
        f_X7_doors_J32 n h a0 p1 p2
    else
      f_X7_doors_J32 n h a0 p1 p2
set_option maxRecDepth 100000 in
set_option maxHeartbeats 4000000 in
theorem c_X7_doors {n : Nat} {h : xH} {a0 : Nat} {p1 : Int32} {p2 : Int32} {r9 : Int32} {hz : xH} (hE : f_X7_doors n h a0 p1 p2 = some (r9, hz)) : Ctr M_X7_doors [.ref a0, .int p1, .int p2] h (some (.int r9)) hz 0 0 := by
  refine ctr_of (by decide) (fun _ _ => Nat.le_of_ble_eq_true rfl) (fun S => ?_)
  show Y S M_X7_doors h (some (.int r9)) hz 0 0 0 [(0, .ref a0), (1, .int p1), (2, .int p2)] [] h 0 0
  unfold f_X7_doors at hE
  refine y_iload_n dX7_doors_0 1 rfl ?_
  refine y_i2l dX7_doors_1 ?_
  refine y_lconst (v := (0 : Int64)) dX7_doors_2 (by decide) ?_
  refine y_ldc2 (v := (2 : Int64)) (x_wt (tb 1231 (by decide +kernel)) rfl) dX7_doors_3 ?_
  obtain ⟨q1, eq1, hE⟩ := Option.bind_eq_some_iff.mp hE
  refine y_cSi0 (st := []) (as := [.long p1.toInt64, .long (0 : Int64), .long (2 : Int64)]) (c_X7_in eq1) lk_X7_64 st_X7_in ⟨Nat.le_of_ble_eq_true rfl, Nat.le_of_ble_eq_true rfl⟩ (Nat.le_of_ble_eq_true rfl) dX7_doors_6 ⟨Nat.le_refl _, Nat.le_refl _⟩ rfl ?_
  refine y_if_eq (tgt := 25) dX7_doors_9 (by decide) (fun hc25 => ?_) (fun hc25 => ?_)
  · rw [if_pos hc25] at hE
    refine y_aload_n dX7_doors_25 0 rfl ?_
    refine y_bipush (v := (-2 : Int32)) dX7_doors_26 (by decide) ?_
    obtain ⟨u2, eu2, hE⟩ := Option.bind_eq_some_iff.mp hE
    obtain ⟨q3, eq3, hE⟩ := Option.bind_eq_some_iff.mp hE
    refine y_cVi0 (st := []) (as := [.int (-2 : Int32)]) (c_X7_refuse eq3) lk_X7_77 in_X7_refuse se_X7_refuse rfl eu2 ⟨Nat.le_of_ble_eq_true rfl, Nat.le_of_ble_eq_true rfl⟩ (Nat.le_of_ble_eq_true rfl) dX7_doors_28 ⟨Nat.le_refl _, Nat.le_refl _⟩ rfl ?_
    obtain ⟨rfl, rfl⟩ := x_inj2 hE
    exact y_ret dX7_doors_31 (Nat.le_refl _) (Nat.le_refl _) ⟨_, rfl, rfl⟩
  · rw [if_neg hc25] at hE
    refine y_iload_n dX7_doors_12 1 rfl ?_
    refine y_iconst (v := (1 : Int32)) dX7_doors_13 (by decide) ?_
    refine y_icmp_ne (tgt := 32) dX7_doors_14 (by decide) (fun hc24 => ?_) (fun hc24 => ?_)
    · rw [if_pos hc24] at hE
      refine y_iload_n dX7_doors_17 2 rfl ?_
      refine y_i2l dX7_doors_18 ?_
      obtain ⟨q4, eq4, hE⟩ := Option.bind_eq_some_iff.mp hE
      refine y_cSi0 (st := []) (as := [.long p2.toInt64]) (c_X7_isRoom eq4) lk_X7_104 st_X7_isRoom ⟨Nat.le_of_ble_eq_true rfl, Nat.le_of_ble_eq_true rfl⟩ (Nat.le_of_ble_eq_true rfl) dX7_doors_19 ⟨Nat.le_refl _, Nat.le_refl _⟩ rfl ?_
      refine y_if_ne (tgt := 32) dX7_doors_22 (by decide) (fun hc23 => ?_) (fun hc23 => ?_)
      · rw [if_pos hc23] at hE
        refine y_aload_n dX7_doors_25 0 rfl ?_
        refine y_bipush (v := (-2 : Int32)) dX7_doors_26 (by decide) ?_
        obtain ⟨u5, eu5, hE⟩ := Option.bind_eq_some_iff.mp hE
        obtain ⟨q6, eq6, hE⟩ := Option.bind_eq_some_iff.mp hE
        refine y_cVi0 (st := []) (as := [.int (-2 : Int32)]) (c_X7_refuse eq6) lk_X7_77 in_X7_refuse se_X7_refuse rfl eu5 ⟨Nat.le_of_ble_eq_true rfl, Nat.le_of_ble_eq_true rfl⟩ (Nat.le_of_ble_eq_true rfl) dX7_doors_28 ⟨Nat.le_refl _, Nat.le_refl _⟩ rfl ?_
        obtain ⟨rfl, rfl⟩ := x_inj2 hE
        exact y_ret dX7_doors_31 (Nat.le_refl _) (Nat.le_refl _) ⟨_, rfl, rfl⟩
      · rw [if_neg hc23] at hE
        refine y_pick [0, 1, 2] rfl ?_
        exact j_X7_doors_32 hE ⟨Nat.le_refl _, Nat.le_refl _⟩
    · rw [if_neg hc24] at hE
      refine y_pick [0, 1, 2] rfl ?_
      exact j_X7_doors_32 hE ⟨Nat.le_refl _, Nat.le_refl _⟩
def f_X7_waysOf_L36 (n : Nat) (h : xH) (v0 : Nat) (v3 : Int32) (v4 : Int32) : Nat → Int32 → Int32 → Option (Sum (Int32) (Int32))
  | 0, _, _ => none
  | k + 1, v5, v6 =>
    (x_gI h v0 7 9).bind fun x8 =>
    if (i_shl (1 : Int32) x8) ≤ v6 then
      some (.inr v5)
    else
      if (v6 &&& (v4 ^^^ (-1 : Int32))) = 0 then
        (x_ob h v0 7).bind fun u9 =>
        (f_X7_isEnough n h v0 v6).bind fun q10 =>
        if q10 = 0 then
          (some (v6 + (1 : Int32))).bind fun x11 =>
          f_X7_waysOf_L36 n h v0 v3 v4 k v5 x11
        else
          if v3 = (1 : Int32) then
            some (.inl v6)
          else
            (some (v5 + (1 : Int32))).bind fun x12 =>
            (some (v6 + (1 : Int32))).bind fun x13 =>
            f_X7_waysOf_L36 n h v0 v3 v4 k x12 x13
      else
        (some (v6 + (1 : Int32))).bind fun x16 =>
        f_X7_waysOf_L36 n h v0 v3 v4 k v5 x16
set_option maxRecDepth 100000 in
set_option maxHeartbeats 4000000 in
theorem l_X7_waysOf_36 {S : Nat × (Nat → Int32)} {rv : Option Value} {h0 h1 : xH} {mc ms : Nat} {cells slots : Nat} (hm : cells ≤ mc ∧ slots ≤ ms) (n : Nat) (h : xH) (v0 : Nat) (v3 : Int32) (v4 : Int32) : ∀ (k : Nat) (v5 : Int32) (v6 : Int32) (res : Sum (Int32) (Int32)), f_X7_waysOf_L36 n h v0 v3 v4 k v5 v6 = some res → (∀ r9, res = .inl r9 → rv = some (.int r9) ∧ h1 = h) → (∀ r9, res = .inr r9 → Y S M_X7_waysOf h0 rv h1 mc ms 83 [(3, .int v3), (5, .int r9)] [] h cells slots) → Y S M_X7_waysOf h0 rv h1 mc ms 36 [(0, .ref v0), (3, .int v3), (4, .int v4), (5, .int v5), (6, .int v6)] [] h cells slots := by
  intro k
  induction k with
  | zero =>
    intro _ _ _ hE
    cases hE
  | succ k ih =>
    intro v5 v6 res hE KR K
    unfold f_X7_waysOf_L36 at hE
    refine y_iload dX7_waysOf_36 4 rfl ?_
    refine y_iconst (v := (1 : Int32)) dX7_waysOf_38 (by decide) ?_
    refine y_aload_n dX7_waysOf_39 0 rfl ?_
    obtain ⟨x8, ex8, hE⟩ := Option.bind_eq_some_iff.mp hE
    refine y_getI fl_X7_61 ex8 dX7_waysOf_40 ?_
    refine y_ishl dX7_waysOf_43 ?_
    refine y_icmp_ge (tgt := 83) dX7_waysOf_44 (by decide) (fun hc18 => ?_) (fun hc18 => ?_)
    · rw [if_pos hc18] at hE
      obtain rfl := Option.some.inj hE
      exact y_pick [1, 3] rfl (K _ rfl)
    · rw [if_neg hc18] at hE
      refine y_iload dX7_waysOf_47 4 rfl ?_
      refine y_iload dX7_waysOf_49 2 rfl ?_
      refine y_iconst (v := (-1 : Int32)) dX7_waysOf_51 (by decide) ?_
      refine y_ixor dX7_waysOf_52 ?_
      refine y_iand dX7_waysOf_53 ?_
      refine y_if_ne (tgt := 77) dX7_waysOf_54 (by decide) (fun hc17 => ?_) (fun hc17 => ?_)
      · rw [if_pos hc17] at hE
        refine y_aload_n dX7_waysOf_57 0 rfl ?_
        refine y_iload dX7_waysOf_58 4 rfl ?_
        obtain ⟨u9, eu9, hE⟩ := Option.bind_eq_some_iff.mp hE
        obtain ⟨q10, eq10, hE⟩ := Option.bind_eq_some_iff.mp hE
        refine y_cVi0 (st := []) (as := [.int v6]) (c_X7_isEnough eq10) lk_X7_222 in_X7_isEnough se_X7_isEnough rfl eu9 ⟨Nat.le_of_ble_eq_true rfl, Nat.le_of_ble_eq_true rfl⟩ (Nat.le_of_ble_eq_true rfl) dX7_waysOf_60 hm rfl ?_
        refine y_if_eq (tgt := 77) dX7_waysOf_63 (by decide) (fun hc15 => ?_) (fun hc15 => ?_)
        · rw [if_pos hc15] at hE
          obtain ⟨x11, ex11, hE⟩ := Option.bind_eq_some_iff.mp hE
          refine y_iinc (ls' := [(6, .int x11), (0, .ref v0), (3, .int v3), (4, .int v4), (5, .int v5)]) dX7_waysOf_77 4 rfl (Option.some.inj ex11) (by decide) rfl ?_
          refine y_goto (tgt := 36) dX7_waysOf_80 (by decide) ?_
          refine y_pick [1, 2, 3, 4, 0] rfl ?_
          exact ih _ _ _ hE KR K
        · rw [if_neg hc15] at hE
          refine y_iload_n dX7_waysOf_66 1 rfl ?_
          refine y_iconst (v := (1 : Int32)) dX7_waysOf_67 (by decide) ?_
          refine y_icmp_ne (tgt := 74) dX7_waysOf_68 (by decide) (fun hc14 => ?_) (fun hc14 => ?_)
          · rw [if_pos hc14] at hE
            refine y_iload dX7_waysOf_71 4 rfl ?_
            obtain rfl := Option.some.inj hE
            obtain ⟨rfl, rfl⟩ := KR _ rfl
            exact y_ret dX7_waysOf_73 hm.1 hm.2 ⟨_, rfl, rfl⟩
          · rw [if_neg hc14] at hE
            obtain ⟨x12, ex12, hE⟩ := Option.bind_eq_some_iff.mp hE
            refine y_iinc (ls' := [(5, .int x12), (0, .ref v0), (3, .int v3), (4, .int v4), (6, .int v6)]) dX7_waysOf_74 3 rfl (Option.some.inj ex12) (by decide) rfl ?_
            obtain ⟨x13, ex13, hE⟩ := Option.bind_eq_some_iff.mp hE
            refine y_iinc (ls' := [(6, .int x13), (5, .int x12), (0, .ref v0), (3, .int v3), (4, .int v4)]) dX7_waysOf_77 4 rfl (Option.some.inj ex13) (by decide) rfl ?_
            refine y_goto (tgt := 36) dX7_waysOf_80 (by decide) ?_
            refine y_pick [2, 3, 4, 1, 0] rfl ?_
            exact ih _ _ _ hE KR K
      · rw [if_neg hc17] at hE
        obtain ⟨x16, ex16, hE⟩ := Option.bind_eq_some_iff.mp hE
        refine y_iinc (ls' := [(6, .int x16), (0, .ref v0), (3, .int v3), (4, .int v4), (5, .int v5)]) dX7_waysOf_77 4 rfl (Option.some.inj ex16) (by decide) rfl ?_
        refine y_goto (tgt := 36) dX7_waysOf_80 (by decide) ?_
        refine y_pick [1, 2, 3, 4, 0] rfl ?_
        exact ih _ _ _ hE KR K
def f_X7_waysOf (n : Nat) (h : xH) (a0 : Nat) (p1 : Int32) (p2 : Int32) (p3 : Int32) : Option (Int32) :=
  (x_ob h a0 7).bind fun u1 =>
  (f_X7_shuttable n h a0).bind fun q2 =>
  (x_gR h a0 7 13).bind fun a3 =>
  (x_ld h a3 p1).bind fun x4 =>
  (x_ob h a0 7).bind fun u5 =>
  (f_X7_canOpen h a0 p2 x4).bind fun q6 =>
  if q6 = 0 then
    if p3 = 0 then
      some (0 : Int32)
    else
      some (-1 : Int32)
  else
    (f_X7_waysOf_L36 n h a0 p3 q2 n (0 : Int32) (1 : Int32)).bind fun q19 =>
    match q19 with
    | .inl r20 => some r20
    | .inr e21 =>
      if p3 = 0 then
        some e21
      else
        some (-1 : Int32)
set_option maxRecDepth 100000 in
set_option maxHeartbeats 4000000 in
theorem c_X7_waysOf {n : Nat} {h : xH} {a0 : Nat} {p1 : Int32} {p2 : Int32} {p3 : Int32} {r9 : Int32} (hE : f_X7_waysOf n h a0 p1 p2 p3 = some r9) : Ctr M_X7_waysOf [.ref a0, .int p1, .int p2, .int p3] h (some (.int r9)) h 0 0 := by
  refine ctr_of (by decide) (fun _ _ => Nat.le_of_ble_eq_true rfl) (fun S => ?_)
  show Y S M_X7_waysOf h (some (.int r9)) h 0 0 0 [(0, .ref a0), (1, .int p1), (2, .int p2), (3, .int p3)] [] h 0 0
  unfold f_X7_waysOf at hE
  refine y_aload_n dX7_waysOf_0 0 rfl ?_
  obtain ⟨u1, eu1, hE⟩ := Option.bind_eq_some_iff.mp hE
  obtain ⟨q2, eq2, hE⟩ := Option.bind_eq_some_iff.mp hE
  refine y_cVi0 (st := []) (as := []) (c_X7_shuttable eq2) lk_X7_100 in_X7_shuttable se_X7_shuttable rfl eu1 ⟨Nat.le_of_ble_eq_true rfl, Nat.le_of_ble_eq_true rfl⟩ (Nat.le_of_ble_eq_true rfl) dX7_waysOf_1 ⟨Nat.le_refl _, Nat.le_refl _⟩ rfl ?_
  refine y_istore (ls' := [(4, .int q2), (0, .ref a0), (1, .int p1), (2, .int p2), (3, .int p3)]) dX7_waysOf_4 (by decide) rfl rfl ?_
  refine y_iconst (v := (0 : Int32)) dX7_waysOf_6 (by decide) ?_
  refine y_istore (ls' := [(5, .int (0 : Int32)), (4, .int q2), (0, .ref a0), (1, .int p1), (2, .int p2), (3, .int p3)]) dX7_waysOf_7 (by decide) rfl rfl ?_
  refine y_aload_n dX7_waysOf_9 2 rfl ?_
  refine y_iload_n dX7_waysOf_10 4 rfl ?_
  refine y_aload_n dX7_waysOf_11 2 rfl ?_
  obtain ⟨a3, ea3, hE⟩ := Option.bind_eq_some_iff.mp hE
  refine y_getR fl_X7_42 ea3 dX7_waysOf_12 ?_
  refine y_iload_n dX7_waysOf_15 3 rfl ?_
  obtain ⟨x4, ex4, hE⟩ := Option.bind_eq_some_iff.mp hE
  refine y_iald ex4 dX7_waysOf_16 ?_
  obtain ⟨u5, eu5, hE⟩ := Option.bind_eq_some_iff.mp hE
  obtain ⟨q6, eq6, hE⟩ := Option.bind_eq_some_iff.mp hE
  refine y_cVi0 (st := []) (as := [.int p2, .int x4]) (c_X7_canOpen eq6) lk_X7_219 in_X7_canOpen se_X7_canOpen rfl eu5 ⟨Nat.le_of_ble_eq_true rfl, Nat.le_of_ble_eq_true rfl⟩ (Nat.le_of_ble_eq_true rfl) dX7_waysOf_17 ⟨Nat.le_refl _, Nat.le_refl _⟩ rfl ?_
  refine y_if_ne (tgt := 33) dX7_waysOf_20 (by decide) (fun hc23 => ?_) (fun hc23 => ?_)
  · rw [if_pos hc23] at hE
    refine y_iload_n dX7_waysOf_23 5 rfl ?_
    refine y_if_ne (tgt := 31) dX7_waysOf_24 (by decide) (fun hc7 => ?_) (fun hc7 => ?_)
    · rw [if_pos hc7] at hE
      refine y_iconst (v := (0 : Int32)) dX7_waysOf_27 (by decide) ?_
      refine y_goto (tgt := 32) dX7_waysOf_28 (by decide) ?_
      obtain rfl := Option.some.inj hE
      exact y_ret dX7_waysOf_32 (Nat.le_refl _) (Nat.le_refl _) ⟨_, rfl, rfl⟩
    · rw [if_neg hc7] at hE
      refine y_iconst (v := (-1 : Int32)) dX7_waysOf_31 (by decide) ?_
      obtain rfl := Option.some.inj hE
      exact y_ret dX7_waysOf_32 (Nat.le_refl _) (Nat.le_refl _) ⟨_, rfl, rfl⟩
  · rw [if_neg hc23] at hE
    refine y_iconst (v := (1 : Int32)) dX7_waysOf_33 (by decide) ?_
    refine y_istore (ls' := [(6, .int (1 : Int32)), (5, .int (0 : Int32)), (4, .int q2), (0, .ref a0), (1, .int p1), (2, .int p2), (3, .int p3)]) dX7_waysOf_34 (by decide) rfl rfl ?_
    obtain ⟨q19, eq19, hE⟩ := Option.bind_eq_some_iff.mp hE
    refine y_pick [3, 6, 2, 1, 0] rfl ?_
    cases q19 with
    | inl r20 =>
      dsimp only at hE
      cases hE
      exact l_X7_waysOf_36 (S := S) ⟨Nat.le_refl _, Nat.le_refl _⟩ n h a0 p3 q2 n (0 : Int32) (1 : Int32) _ eq19 (fun r8 hr8 => by cases hr8; exact ⟨rfl, rfl⟩) (fun r8 hr8 => by cases hr8)
    | inr e21 =>
      dsimp only at hE
      refine l_X7_waysOf_36 (S := S) ⟨Nat.le_refl _, Nat.le_refl _⟩ n h a0 p3 q2 n (0 : Int32) (1 : Int32) _ eq19 (fun r8 hr8 => by cases hr8) (fun r8 hr8 => ?_)
      cases hr8
      refine y_iload_n dX7_waysOf_83 0 rfl ?_
      refine y_if_ne (tgt := 92) dX7_waysOf_84 (by decide) (fun hc22 => ?_) (fun hc22 => ?_)
      · rw [if_pos hc22] at hE
        refine y_iload dX7_waysOf_87 1 rfl ?_
        refine y_goto (tgt := 93) dX7_waysOf_89 (by decide) ?_
        obtain rfl := Option.some.inj hE
        exact y_ret dX7_waysOf_93 (Nat.le_refl _) (Nat.le_refl _) ⟨_, rfl, rfl⟩
      · rw [if_neg hc22] at hE
        refine y_iconst (v := (-1 : Int32)) dX7_waysOf_92 (by decide) ?_
        obtain rfl := Option.some.inj hE
        exact y_ret dX7_waysOf_93 (Nat.le_refl _) (Nat.le_refl _) ⟨_, rfl, rfl⟩
