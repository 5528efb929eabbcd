theorem dX0_init_0 : decode cX0_init 0 = .ok (.aload_n 0, 1) := by decide +kernel
theorem dX0_init_1 : decode cX0_init 1 = .ok (.invokespecial 3, 3) := by decide +kernel
theorem dX0_init_4 : decode cX0_init 4 = .ok (.aload_n 0, 1) := by decide +kernel
theorem dX0_init_5 : decode cX0_init 5 = .ok (.bipush 14, 2) := by decide +kernel
theorem dX0_init_7 : decode cX0_init 7 = .ok (.newarray .int, 2) := by decide +kernel
theorem dX0_init_9 : decode cX0_init 9 = .ok (.putfield 9, 3) := by decide +kernel
theorem dX0_init_12 : decode cX0_init 12 = .ok (.aload_n 0, 1) := by decide +kernel
theorem dX0_init_13 : decode cX0_init 13 = .ok (.bipush 14, 2) := by decide +kernel
theorem dX0_init_15 : decode cX0_init 15 = .ok (.newarray .int, 2) := by decide +kernel
theorem dX0_init_17 : decode cX0_init 17 = .ok (.putfield 15, 3) := by decide +kernel
theorem dX0_init_20 : decode cX0_init 20 = .ok (.aload_n 0, 1) := by decide +kernel
theorem dX0_init_21 : decode cX0_init 21 = .ok (.bipush 14, 2) := by decide +kernel
theorem dX0_init_23 : decode cX0_init 23 = .ok (.newarray .int, 2) := by decide +kernel
theorem dX0_init_25 : decode cX0_init 25 = .ok (.putfield 18, 3) := by decide +kernel
theorem dX0_init_28 : decode cX0_init 28 = .ok (.aload_n 0, 1) := by decide +kernel
theorem dX0_init_29 : decode cX0_init 29 = .ok (.iconst 4, 1) := by decide +kernel
theorem dX0_init_30 : decode cX0_init 30 = .ok (.newarray .int, 2) := by decide +kernel
theorem dX0_init_32 : decode cX0_init 32 = .ok (.putfield 21, 3) := by decide +kernel
theorem dX0_init_35 : decode cX0_init 35 = .ok (.aload_n 0, 1) := by decide +kernel
theorem dX0_init_36 : decode cX0_init 36 = .ok (.iconst 2, 1) := by decide +kernel
theorem dX0_init_37 : decode cX0_init 37 = .ok (.putfield 24, 3) := by decide +kernel
theorem dX0_init_40 : decode cX0_init 40 = .ok (.aload_n 0, 1) := by decide +kernel
theorem dX0_init_41 : decode cX0_init 41 = .ok (.iconst 1, 1) := by decide +kernel
theorem dX0_init_42 : decode cX0_init 42 = .ok (.putfield 28, 3) := by decide +kernel
theorem dX0_init_45 : decode cX0_init 45 = .ok (.return_, 1) := by decide +kernel
theorem dX0_become_0 : decode cX0_become 0 = .ok (.iconst 0, 1) := by decide +kernel
theorem dX0_become_1 : decode cX0_become 1 = .ok (.istore_n 2, 1) := by decide +kernel
theorem dX0_become_2 : decode cX0_become 2 = .ok (.iload_n 2, 1) := by decide +kernel
theorem dX0_become_3 : decode cX0_become 3 = .ok (.aload_n 1, 1) := by decide +kernel
theorem dX0_become_4 : decode cX0_become 4 = .ok (.getfield 31, 3) := by decide +kernel
theorem dX0_become_7 : decode cX0_become 7 = .ok (.if_icmp .ge 45, 3) := by decide +kernel
theorem dX0_become_10 : decode cX0_become 10 = .ok (.aload_n 0, 1) := by decide +kernel
theorem dX0_become_11 : decode cX0_become 11 = .ok (.getfield 9, 3) := by decide +kernel
theorem dX0_become_14 : decode cX0_become 14 = .ok (.iload_n 2, 1) := by decide +kernel
theorem dX0_become_15 : decode cX0_become 15 = .ok (.aload_n 1, 1) := by decide +kernel
theorem dX0_become_16 : decode cX0_become 16 = .ok (.getfield 9, 3) := by decide +kernel
theorem dX0_become_19 : decode cX0_become 19 = .ok (.iload_n 2, 1) := by decide +kernel
theorem dX0_become_20 : decode cX0_become 20 = .ok (.iaload, 1) := by decide +kernel
theorem dX0_become_21 : decode cX0_become 21 = .ok (.iastore, 1) := by decide +kernel
theorem dX0_become_22 : decode cX0_become 22 = .ok (.aload_n 0, 1) := by decide +kernel
theorem dX0_become_23 : decode cX0_become 23 = .ok (.getfield 15, 3) := by decide +kernel
theorem dX0_become_26 : decode cX0_become 26 = .ok (.iload_n 2, 1) := by decide +kernel
theorem dX0_become_27 : decode cX0_become 27 = .ok (.aload_n 1, 1) := by decide +kernel
theorem dX0_become_28 : decode cX0_become 28 = .ok (.getfield 15, 3) := by decide +kernel
theorem dX0_become_31 : decode cX0_become 31 = .ok (.iload_n 2, 1) := by decide +kernel
theorem dX0_become_32 : decode cX0_become 32 = .ok (.iaload, 1) := by decide +kernel
theorem dX0_become_33 : decode cX0_become 33 = .ok (.iastore, 1) := by decide +kernel
theorem dX0_become_34 : decode cX0_become 34 = .ok (.aload_n 0, 1) := by decide +kernel
theorem dX0_become_35 : decode cX0_become 35 = .ok (.getfield 18, 3) := by decide +kernel
theorem dX0_become_38 : decode cX0_become 38 = .ok (.iload_n 2, 1) := by decide +kernel
theorem dX0_become_39 : decode cX0_become 39 = .ok (.aload_n 1, 1) := by decide +kernel
theorem dX0_become_40 : decode cX0_become 40 = .ok (.getfield 18, 3) := by decide +kernel
theorem dX0_become_43 : decode cX0_become 43 = .ok (.iload_n 2, 1) := by decide +kernel
theorem dX0_become_44 : decode cX0_become 44 = .ok (.iaload, 1) := by decide +kernel
theorem dX0_become_45 : decode cX0_become 45 = .ok (.iastore, 1) := by decide +kernel
theorem dX0_become_46 : decode cX0_become 46 = .ok (.iinc 2 1, 3) := by decide +kernel
theorem dX0_become_49 : decode cX0_become 49 = .ok (.goto (-47), 3) := by decide +kernel
theorem dX0_become_52 : decode cX0_become 52 = .ok (.iconst 0, 1) := by decide +kernel
theorem dX0_become_53 : decode cX0_become 53 = .ok (.istore_n 2, 1) := by decide +kernel
theorem dX0_become_54 : decode cX0_become 54 = .ok (.iload_n 2, 1) := by decide +kernel
theorem dX0_become_55 : decode cX0_become 55 = .ok (.aload_n 1, 1) := by decide +kernel
theorem dX0_become_56 : decode cX0_become 56 = .ok (.getfield 34, 3) := by decide +kernel
theorem dX0_become_59 : decode cX0_become 59 = .ok (.if_icmp .ge 21, 3) := by decide +kernel
theorem dX0_become_62 : decode cX0_become 62 = .ok (.aload_n 0, 1) := by decide +kernel
theorem dX0_become_63 : decode cX0_become 63 = .ok (.getfield 21, 3) := by decide +kernel
theorem dX0_become_66 : decode cX0_become 66 = .ok (.iload_n 2, 1) := by decide +kernel
theorem dX0_become_67 : decode cX0_become 67 = .ok (.aload_n 1, 1) := by decide +kernel
theorem dX0_become_68 : decode cX0_become 68 = .ok (.getfield 21, 3) := by decide +kernel
theorem dX0_become_71 : decode cX0_become 71 = .ok (.iload_n 2, 1) := by decide +kernel
theorem dX0_become_72 : decode cX0_become 72 = .ok (.iaload, 1) := by decide +kernel
theorem dX0_become_73 : decode cX0_become 73 = .ok (.iastore, 1) := by decide +kernel
theorem dX0_become_74 : decode cX0_become 74 = .ok (.iinc 2 1, 3) := by decide +kernel
theorem dX0_become_77 : decode cX0_become 77 = .ok (.goto (-23), 3) := by decide +kernel
theorem dX0_become_80 : decode cX0_become 80 = .ok (.aload_n 0, 1) := by decide +kernel
theorem dX0_become_81 : decode cX0_become 81 = .ok (.aload_n 1, 1) := by decide +kernel
theorem dX0_become_82 : decode cX0_become 82 = .ok (.getfield 31, 3) := by decide +kernel
theorem dX0_become_85 : decode cX0_become 85 = .ok (.putfield 31, 3) := by decide +kernel
theorem dX0_become_88 : decode cX0_become 88 = .ok (.aload_n 0, 1) := by decide +kernel
theorem dX0_become_89 : decode cX0_become 89 = .ok (.aload_n 1, 1) := by decide +kernel
theorem dX0_become_90 : decode cX0_become 90 = .ok (.getfield 37, 3) := by decide +kernel
theorem dX0_become_93 : decode cX0_become 93 = .ok (.putfield 37, 3) := by decide +kernel
theorem dX0_become_96 : decode cX0_become 96 = .ok (.aload_n 0, 1) := by decide +kernel
theorem dX0_become_97 : decode cX0_become 97 = .ok (.aload_n 1, 1) := by decide +kernel
theorem dX0_become_98 : decode cX0_become 98 = .ok (.getfield 34, 3) := by decide +kernel
theorem dX0_become_101 : decode cX0_become 101 = .ok (.putfield 34, 3) := by decide +kernel
theorem dX0_become_104 : decode cX0_become 104 = .ok (.aload_n 0, 1) := by decide +kernel
theorem dX0_become_105 : decode cX0_become 105 = .ok (.aload_n 1, 1) := by decide +kernel
theorem dX0_become_106 : decode cX0_become 106 = .ok (.getfield 24, 3) := by decide +kernel
theorem dX0_become_109 : decode cX0_become 109 = .ok (.putfield 24, 3) := by decide +kernel
theorem dX0_become_112 : decode cX0_become 112 = .ok (.aload_n 0, 1) := by decide +kernel
theorem dX0_become_113 : decode cX0_become 113 = .ok (.aload_n 1, 1) := by decide +kernel
theorem dX0_become_114 : decode cX0_become 114 = .ok (.getfield 40, 3) := by decide +kernel
theorem dX0_become_117 : decode cX0_become 117 = .ok (.putfield 40, 3) := by decide +kernel
theorem dX0_become_120 : decode cX0_become 120 = .ok (.aload_n 0, 1) := by decide +kernel
theorem dX0_become_121 : decode cX0_become 121 = .ok (.aload_n 1, 1) := by decide +kernel
theorem dX0_become_122 : decode cX0_become 122 = .ok (.getfield 28, 3) := by decide +kernel
theorem dX0_become_125 : decode cX0_become 125 = .ok (.putfield 28, 3) := by decide +kernel
theorem dX0_become_128 : decode cX0_become 128 = .ok (.aload_n 0, 1) := by decide +kernel
theorem dX0_become_129 : decode cX0_become 129 = .ok (.aload_n 1, 1) := by decide +kernel
theorem dX0_become_130 : decode cX0_become 130 = .ok (.getfield 43, 3) := by decide +kernel
theorem dX0_become_133 : decode cX0_become 133 = .ok (.putfield 43, 3) := by decide +kernel
theorem dX0_become_136 : decode cX0_become 136 = .ok (.return_, 1) := by decide +kernel
theorem dX0_hasDoor_0 : decode cX0_hasDoor 0 = .ok (.iload_n 1, 1) := by decide +kernel
theorem dX0_hasDoor_1 : decode cX0_hasDoor 1 = .ok (.ifCond .lt 15, 3) := by decide +kernel
theorem dX0_hasDoor_4 : decode cX0_hasDoor 4 = .ok (.iload_n 1, 1) := by decide +kernel
theorem dX0_hasDoor_5 : decode cX0_hasDoor 5 = .ok (.aload_n 0, 1) := by decide +kernel
theorem dX0_hasDoor_6 : decode cX0_hasDoor 6 = .ok (.getfield 31, 3) := by decide +kernel
theorem dX0_hasDoor_9 : decode cX0_hasDoor 9 = .ok (.if_icmp .ge 7, 3) := by decide +kernel
theorem dX0_hasDoor_12 : decode cX0_hasDoor 12 = .ok (.iconst 1, 1) := by decide +kernel
theorem dX0_hasDoor_13 : decode cX0_hasDoor 13 = .ok (.goto 4, 3) := by decide +kernel
theorem dX0_hasDoor_16 : decode cX0_hasDoor 16 = .ok (.iconst 0, 1) := by decide +kernel
theorem dX0_hasDoor_17 : decode cX0_hasDoor 17 = .ok (.ireturn, 1) := by decide +kernel
theorem dX0_hasDoors_0 : decode cX0_hasDoors 0 = .ok (.iload_n 1, 1) := by decide +kernel
theorem dX0_hasDoors_1 : decode cX0_hasDoors 1 = .ok (.aload_n 0, 1) := by decide +kernel
theorem dX0_hasDoors_2 : decode cX0_hasDoors 2 = .ok (.getfield 31, 3) := by decide +kernel
theorem dX0_hasDoors_5 : decode cX0_hasDoors 5 = .ok (.ishr, 1) := by decide +kernel
theorem dX0_hasDoors_6 : decode cX0_hasDoors 6 = .ok (.ifCond .ne 7, 3) := by decide +kernel
theorem dX0_hasDoors_9 : decode cX0_hasDoors 9 = .ok (.iconst 1, 1) := by decide +kernel
theorem dX0_hasDoors_10 : decode cX0_hasDoors 10 = .ok (.goto 4, 3) := by decide +kernel
theorem dX0_hasDoors_13 : decode cX0_hasDoors 13 = .ok (.iconst 0, 1) := by decide +kernel
theorem dX0_hasDoors_14 : decode cX0_hasDoors 14 = .ok (.ireturn, 1) := by decide +kernel
theorem dX0_hasOne_0 : decode cX0_hasOne 0 = .ok (.iload_n 1, 1) := by decide +kernel
theorem dX0_hasOne_1 : decode cX0_hasOne 1 = .ok (.ifCond .lt 15, 3) := by decide +kernel
theorem dX0_hasOne_4 : decode cX0_hasOne 4 = .ok (.iload_n 1, 1) := by decide +kernel
theorem dX0_hasOne_5 : decode cX0_hasOne 5 = .ok (.aload_n 0, 1) := by decide +kernel
theorem dX0_hasOne_6 : decode cX0_hasOne 6 = .ok (.getfield 34, 3) := by decide +kernel
theorem dX0_hasOne_9 : decode cX0_hasOne 9 = .ok (.if_icmp .ge 7, 3) := by decide +kernel
theorem dX0_hasOne_12 : decode cX0_hasOne 12 = .ok (.iconst 1, 1) := by decide +kernel
theorem dX0_hasOne_13 : decode cX0_hasOne 13 = .ok (.goto 4, 3) := by decide +kernel
theorem dX0_hasOne_16 : decode cX0_hasOne 16 = .ok (.iconst 0, 1) := by decide +kernel
theorem dX0_hasOne_17 : decode cX0_hasOne 17 = .ok (.ireturn, 1) := by decide +kernel
theorem dX0_addDoor_0 : decode cX0_addDoor 0 = .ok (.aload_n 0, 1) := by decide +kernel
theorem dX0_addDoor_1 : decode cX0_addDoor 1 = .ok (.getfield 9, 3) := by decide +kernel
theorem dX0_addDoor_4 : decode cX0_addDoor 4 = .ok (.aload_n 0, 1) := by decide +kernel
theorem dX0_addDoor_5 : decode cX0_addDoor 5 = .ok (.getfield 31, 3) := by decide +kernel
theorem dX0_addDoor_8 : decode cX0_addDoor 8 = .ok (.iload_n 1, 1) := by decide +kernel
theorem dX0_addDoor_9 : decode cX0_addDoor 9 = .ok (.iastore, 1) := by decide +kernel
theorem dX0_addDoor_10 : decode cX0_addDoor 10 = .ok (.aload_n 0, 1) := by decide +kernel
theorem dX0_addDoor_11 : decode cX0_addDoor 11 = .ok (.getfield 15, 3) := by decide +kernel
theorem dX0_addDoor_14 : decode cX0_addDoor 14 = .ok (.aload_n 0, 1) := by decide +kernel
theorem dX0_addDoor_15 : decode cX0_addDoor 15 = .ok (.getfield 31, 3) := by decide +kernel
theorem dX0_addDoor_18 : decode cX0_addDoor 18 = .ok (.iload_n 2, 1) := by decide +kernel
theorem dX0_addDoor_19 : decode cX0_addDoor 19 = .ok (.iastore, 1) := by decide +kernel
theorem dX0_addDoor_20 : decode cX0_addDoor 20 = .ok (.aload_n 0, 1) := by decide +kernel
theorem dX0_addDoor_21 : decode cX0_addDoor 21 = .ok (.getfield 18, 3) := by decide +kernel
theorem dX0_addDoor_24 : decode cX0_addDoor 24 = .ok (.aload_n 0, 1) := by decide +kernel
theorem dX0_addDoor_25 : decode cX0_addDoor 25 = .ok (.getfield 31, 3) := by decide +kernel
theorem dX0_addDoor_28 : decode cX0_addDoor 28 = .ok (.iload_n 1, 1) := by decide +kernel
theorem dX0_addDoor_29 : decode cX0_addDoor 29 = .ok (.iconst 1, 1) := by decide +kernel
theorem dX0_addDoor_30 : decode cX0_addDoor 30 = .ok (.if_icmp .ne 7, 3) := by decide +kernel
theorem dX0_addDoor_33 : decode cX0_addDoor 33 = .ok (.iload_n 2, 1) := by decide +kernel
theorem dX0_addDoor_34 : decode cX0_addDoor 34 = .ok (.goto 4, 3) := by decide +kernel
theorem dX0_addDoor_37 : decode cX0_addDoor 37 = .ok (.iload_n 3, 1) := by decide +kernel
theorem dX0_addDoor_38 : decode cX0_addDoor 38 = .ok (.iastore, 1) := by decide +kernel
theorem dX0_addDoor_39 : decode cX0_addDoor 39 = .ok (.aload_n 0, 1) := by decide +kernel
theorem dX0_addDoor_40 : decode cX0_addDoor 40 = .ok (.dup, 1) := by decide +kernel
theorem dX0_addDoor_41 : decode cX0_addDoor 41 = .ok (.getfield 31, 3) := by decide +kernel
theorem dX0_addDoor_44 : decode cX0_addDoor 44 = .ok (.iconst 1, 1) := by decide +kernel
theorem dX0_addDoor_45 : decode cX0_addDoor 45 = .ok (.iadd, 1) := by decide +kernel
theorem dX0_addDoor_46 : decode cX0_addDoor 46 = .ok (.putfield 31, 3) := by decide +kernel
theorem dX0_addDoor_49 : decode cX0_addDoor 49 = .ok (.aload_n 0, 1) := by decide +kernel
theorem dX0_addDoor_50 : decode cX0_addDoor 50 = .ok (.getfield 31, 3) := by decide +kernel
theorem dX0_addDoor_53 : decode cX0_addDoor 53 = .ok (.iconst 1, 1) := by decide +kernel
theorem dX0_addDoor_54 : decode cX0_addDoor 54 = .ok (.isub, 1) := by decide +kernel
theorem dX0_addDoor_55 : decode cX0_addDoor 55 = .ok (.ireturn, 1) := by decide +kernel
theorem dX0_addOne_0 : decode cX0_addOne 0 = .ok (.aload_n 0, 1) := by decide +kernel
theorem dX0_addOne_1 : decode cX0_addOne 1 = .ok (.getfield 21, 3) := by decide +kernel
theorem dX0_addOne_4 : decode cX0_addOne 4 = .ok (.aload_n 0, 1) := by decide +kernel
theorem dX0_addOne_5 : decode cX0_addOne 5 = .ok (.getfield 34, 3) := by decide +kernel
theorem dX0_addOne_8 : decode cX0_addOne 8 = .ok (.iload_n 1, 1) := by decide +kernel
theorem dX0_addOne_9 : decode cX0_addOne 9 = .ok (.iastore, 1) := by decide +kernel
theorem dX0_addOne_10 : decode cX0_addOne 10 = .ok (.aload_n 0, 1) := by decide +kernel
theorem dX0_addOne_11 : decode cX0_addOne 11 = .ok (.dup, 1) := by decide +kernel
theorem dX0_addOne_12 : decode cX0_addOne 12 = .ok (.getfield 34, 3) := by decide +kernel
theorem dX0_addOne_15 : decode cX0_addOne 15 = .ok (.iconst 1, 1) := by decide +kernel
theorem dX0_addOne_16 : decode cX0_addOne 16 = .ok (.iadd, 1) := by decide +kernel
theorem dX0_addOne_17 : decode cX0_addOne 17 = .ok (.putfield 34, 3) := by decide +kernel
theorem dX0_addOne_20 : decode cX0_addOne 20 = .ok (.aload_n 0, 1) := by decide +kernel
theorem dX0_addOne_21 : decode cX0_addOne 21 = .ok (.getfield 34, 3) := by decide +kernel
theorem dX0_addOne_24 : decode cX0_addOne 24 = .ok (.iconst 1, 1) := by decide +kernel
theorem dX0_addOne_25 : decode cX0_addOne 25 = .ok (.isub, 1) := by decide +kernel
theorem dX0_addOne_26 : decode cX0_addOne 26 = .ok (.ireturn, 1) := by decide +kernel
theorem dX0_isOpen_0 : decode cX0_isOpen 0 = .ok (.aload_n 0, 1) := by decide +kernel
theorem dX0_isOpen_1 : decode cX0_isOpen 1 = .ok (.getfield 37, 3) := by decide +kernel
theorem dX0_isOpen_4 : decode cX0_isOpen 4 = .ok (.iload_n 1, 1) := by decide +kernel
theorem dX0_isOpen_5 : decode cX0_isOpen 5 = .ok (.ishr, 1) := by decide +kernel
theorem dX0_isOpen_6 : decode cX0_isOpen 6 = .ok (.iconst 1, 1) := by decide +kernel
theorem dX0_isOpen_7 : decode cX0_isOpen 7 = .ok (.iand, 1) := by decide +kernel
theorem dX0_isOpen_8 : decode cX0_isOpen 8 = .ok (.ifCond .eq 7, 3) := by decide +kernel
theorem dX0_isOpen_11 : decode cX0_isOpen 11 = .ok (.iconst 1, 1) := by decide +kernel
theorem dX0_isOpen_12 : decode cX0_isOpen 12 = .ok (.goto 4, 3) := by decide +kernel
theorem dX0_isOpen_15 : decode cX0_isOpen 15 = .ok (.iconst 0, 1) := by decide +kernel
theorem dX0_isOpen_16 : decode cX0_isOpen 16 = .ok (.ireturn, 1) := by decide +kernel
theorem dX0_weightOf_0 : decode cX0_weightOf 0 = .ok (.getstatic 46, 3) := by decide +kernel
theorem dX0_weightOf_3 : decode cX0_weightOf 3 = .ok (.aload_n 0, 1) := by decide +kernel
theorem dX0_weightOf_4 : decode cX0_weightOf 4 = .ok (.getfield 9, 3) := by decide +kernel
theorem dX0_weightOf_7 : decode cX0_weightOf 7 = .ok (.iload_n 1, 1) := by decide +kernel
theorem dX0_weightOf_8 : decode cX0_weightOf 8 = .ok (.iaload, 1) := by decide +kernel
theorem dX0_weightOf_9 : decode cX0_weightOf 9 = .ok (.iaload, 1) := by decide +kernel
theorem dX0_weightOf_10 : decode cX0_weightOf 10 = .ok (.ireturn, 1) := by decide +kernel
theorem dX0_isAt_0 : decode cX0_isAt 0 = .ok (.aload_n 0, 1) := by decide +kernel
theorem dX0_isAt_1 : decode cX0_isAt 1 = .ok (.getfield 15, 3) := by decide +kernel
theorem dX0_isAt_4 : decode cX0_isAt 4 = .ok (.iload_n 1, 1) := by decide +kernel
theorem dX0_isAt_5 : decode cX0_isAt 5 = .ok (.iaload, 1) := by decide +kernel
theorem dX0_isAt_6 : decode cX0_isAt 6 = .ok (.iload_n 2, 1) := by decide +kernel
theorem dX0_isAt_7 : decode cX0_isAt 7 = .ok (.if_icmp .eq 13, 3) := by decide +kernel
theorem dX0_isAt_10 : decode cX0_isAt 10 = .ok (.aload_n 0, 1) := by decide +kernel
theorem dX0_isAt_11 : decode cX0_isAt 11 = .ok (.getfield 18, 3) := by decide +kernel
theorem dX0_isAt_14 : decode cX0_isAt 14 = .ok (.iload_n 1, 1) := by decide +kernel
theorem dX0_isAt_15 : decode cX0_isAt 15 = .ok (.iaload, 1) := by decide +kernel
theorem dX0_isAt_16 : decode cX0_isAt 16 = .ok (.iload_n 2, 1) := by decide +kernel
theorem dX0_isAt_17 : decode cX0_isAt 17 = .ok (.if_icmp .ne 7, 3) := by decide +kernel
theorem dX0_isAt_20 : decode cX0_isAt 20 = .ok (.iconst 1, 1) := by decide +kernel
theorem dX0_isAt_21 : decode cX0_isAt 21 = .ok (.goto 4, 3) := by decide +kernel
theorem dX0_isAt_24 : decode cX0_isAt 24 = .ok (.iconst 0, 1) := by decide +kernel
theorem dX0_isAt_25 : decode cX0_isAt 25 = .ok (.ireturn, 1) := by decide +kernel
theorem dX0_doorsAt_0 : decode cX0_doorsAt 0 = .ok (.iconst 0, 1) := by decide +kernel
theorem dX0_doorsAt_1 : decode cX0_doorsAt 1 = .ok (.istore_n 2, 1) := by decide +kernel
theorem dX0_doorsAt_2 : decode cX0_doorsAt 2 = .ok (.iconst 0, 1) := by decide +kernel
theorem dX0_doorsAt_3 : decode cX0_doorsAt 3 = .ok (.istore_n 3, 1) := by decide +kernel
theorem dX0_doorsAt_4 : decode cX0_doorsAt 4 = .ok (.iload_n 3, 1) := by decide +kernel
theorem dX0_doorsAt_5 : decode cX0_doorsAt 5 = .ok (.aload_n 0, 1) := by decide +kernel
theorem dX0_doorsAt_6 : decode cX0_doorsAt 6 = .ok (.getfield 31, 3) := by decide +kernel
theorem dX0_doorsAt_9 : decode cX0_doorsAt 9 = .ok (.if_icmp .ge 24, 3) := by decide +kernel
theorem dX0_doorsAt_12 : decode cX0_doorsAt 12 = .ok (.aload_n 0, 1) := by decide +kernel
theorem dX0_doorsAt_13 : decode cX0_doorsAt 13 = .ok (.iload_n 3, 1) := by decide +kernel
theorem dX0_doorsAt_14 : decode cX0_doorsAt 14 = .ok (.iload_n 1, 1) := by decide +kernel
theorem dX0_doorsAt_15 : decode cX0_doorsAt 15 = .ok (.invokevirtual 49, 3) := by decide +kernel
theorem dX0_doorsAt_18 : decode cX0_doorsAt 18 = .ok (.ifCond .eq 9, 3) := by decide +kernel
theorem dX0_doorsAt_21 : decode cX0_doorsAt 21 = .ok (.iload_n 2, 1) := by decide +kernel
theorem dX0_doorsAt_22 : decode cX0_doorsAt 22 = .ok (.iconst 1, 1) := by decide +kernel
theorem dX0_doorsAt_23 : decode cX0_doorsAt 23 = .ok (.iload_n 3, 1) := by decide +kernel
theorem dX0_doorsAt_24 : decode cX0_doorsAt 24 = .ok (.ishl, 1) := by decide +kernel
theorem dX0_doorsAt_25 : decode cX0_doorsAt 25 = .ok (.ior, 1) := by decide +kernel
theorem dX0_doorsAt_26 : decode cX0_doorsAt 26 = .ok (.istore_n 2, 1) := by decide +kernel
theorem dX0_doorsAt_27 : decode cX0_doorsAt 27 = .ok (.iinc 3 1, 3) := by decide +kernel
theorem dX0_doorsAt_30 : decode cX0_doorsAt 30 = .ok (.goto (-26), 3) := by decide +kernel
theorem dX0_doorsAt_33 : decode cX0_doorsAt 33 = .ok (.iload_n 2, 1) := by decide +kernel
theorem dX0_doorsAt_34 : decode cX0_doorsAt 34 = .ok (.ireturn, 1) := by decide +kernel
theorem dX0_someoneIn_0 : decode cX0_someoneIn 0 = .ok (.iconst 0, 1) := by decide +kernel
theorem dX0_someoneIn_1 : decode cX0_someoneIn 1 = .ok (.istore_n 2, 1) := by decide +kernel
theorem dX0_someoneIn_2 : decode cX0_someoneIn 2 = .ok (.iload_n 2, 1) := by decide +kernel
theorem dX0_someoneIn_3 : decode cX0_someoneIn 3 = .ok (.aload_n 0, 1) := by decide +kernel
theorem dX0_someoneIn_4 : decode cX0_someoneIn 4 = .ok (.getfield 34, 3) := by decide +kernel
theorem dX0_someoneIn_7 : decode cX0_someoneIn 7 = .ok (.if_icmp .ge 21, 3) := by decide +kernel
theorem dX0_someoneIn_10 : decode cX0_someoneIn 10 = .ok (.aload_n 0, 1) := by decide +kernel
theorem dX0_someoneIn_11 : decode cX0_someoneIn 11 = .ok (.getfield 21, 3) := by decide +kernel
theorem dX0_someoneIn_14 : decode cX0_someoneIn 14 = .ok (.iload_n 2, 1) := by decide +kernel
theorem dX0_someoneIn_15 : decode cX0_someoneIn 15 = .ok (.iaload, 1) := by decide +kernel
theorem dX0_someoneIn_16 : decode cX0_someoneIn 16 = .ok (.iload_n 1, 1) := by decide +kernel
theorem dX0_someoneIn_17 : decode cX0_someoneIn 17 = .ok (.if_icmp .ne 5, 3) := by decide +kernel
theorem dX0_someoneIn_20 : decode cX0_someoneIn 20 = .ok (.iconst 1, 1) := by decide +kernel
theorem dX0_someoneIn_21 : decode cX0_someoneIn 21 = .ok (.ireturn, 1) := by decide +kernel
theorem dX0_someoneIn_22 : decode cX0_someoneIn 22 = .ok (.iinc 2 1, 3) := by decide +kernel
theorem dX0_someoneIn_25 : decode cX0_someoneIn 25 = .ok (.goto (-23), 3) := by decide +kernel
theorem dX0_someoneIn_28 : decode cX0_someoneIn 28 = .ok (.iconst 0, 1) := by decide +kernel
theorem dX0_someoneIn_29 : decode cX0_someoneIn 29 = .ok (.ireturn, 1) := by decide +kernel
theorem dX0_shutsFrom_0 : decode cX0_shutsFrom 0 = .ok (.aload_n 0, 1) := by decide +kernel
theorem dX0_shutsFrom_1 : decode cX0_shutsFrom 1 = .ok (.getfield 9, 3) := by decide +kernel
theorem dX0_shutsFrom_4 : decode cX0_shutsFrom 4 = .ok (.iload_n 1, 1) := by decide +kernel
theorem dX0_shutsFrom_5 : decode cX0_shutsFrom 5 = .ok (.iaload, 1) := by decide +kernel
theorem dX0_shutsFrom_6 : decode cX0_shutsFrom 6 = .ok (.iconst 4, 1) := by decide +kernel
theorem dX0_shutsFrom_7 : decode cX0_shutsFrom 7 = .ok (.if_icmp .ne 19, 3) := by decide +kernel
theorem dX0_shutsFrom_10 : decode cX0_shutsFrom 10 = .ok (.aload_n 0, 1) := by decide +kernel
theorem dX0_shutsFrom_11 : decode cX0_shutsFrom 11 = .ok (.getfield 18, 3) := by decide +kernel
theorem dX0_shutsFrom_14 : decode cX0_shutsFrom 14 = .ok (.iload_n 1, 1) := by decide +kernel
theorem dX0_shutsFrom_15 : decode cX0_shutsFrom 15 = .ok (.iaload, 1) := by decide +kernel
theorem dX0_shutsFrom_16 : decode cX0_shutsFrom 16 = .ok (.iload_n 2, 1) := by decide +kernel
theorem dX0_shutsFrom_17 : decode cX0_shutsFrom 17 = .ok (.if_icmp .ne 7, 3) := by decide +kernel
theorem dX0_shutsFrom_20 : decode cX0_shutsFrom 20 = .ok (.iconst 1, 1) := by decide +kernel
theorem dX0_shutsFrom_21 : decode cX0_shutsFrom 21 = .ok (.goto 4, 3) := by decide +kernel
theorem dX0_shutsFrom_24 : decode cX0_shutsFrom 24 = .ok (.iconst 0, 1) := by decide +kernel
theorem dX0_shutsFrom_25 : decode cX0_shutsFrom 25 = .ok (.ireturn, 1) := by decide +kernel
theorem dX0_shutsFrom_26 : decode cX0_shutsFrom 26 = .ok (.aload_n 0, 1) := by decide +kernel
theorem dX0_shutsFrom_27 : decode cX0_shutsFrom 27 = .ok (.getfield 9, 3) := by decide +kernel
theorem dX0_shutsFrom_30 : decode cX0_shutsFrom 30 = .ok (.iload_n 1, 1) := by decide +kernel
theorem dX0_shutsFrom_31 : decode cX0_shutsFrom 31 = .ok (.iaload, 1) := by decide +kernel
theorem dX0_shutsFrom_32 : decode cX0_shutsFrom 32 = .ok (.iconst 5, 1) := by decide +kernel
theorem dX0_shutsFrom_33 : decode cX0_shutsFrom 33 = .ok (.if_icmp .eq 16, 3) := by decide +kernel
theorem dX0_shutsFrom_36 : decode cX0_shutsFrom 36 = .ok (.aload_n 0, 1) := by decide +kernel
theorem dX0_shutsFrom_37 : decode cX0_shutsFrom 37 = .ok (.iload_n 1, 1) := by decide +kernel
theorem dX0_shutsFrom_38 : decode cX0_shutsFrom 38 = .ok (.iload_n 2, 1) := by decide +kernel
theorem dX0_shutsFrom_39 : decode cX0_shutsFrom 39 = .ok (.invokevirtual 49, 3) := by decide +kernel
theorem dX0_shutsFrom_42 : decode cX0_shutsFrom 42 = .ok (.ifCond .eq 7, 3) := by decide +kernel
theorem dX0_shutsFrom_45 : decode cX0_shutsFrom 45 = .ok (.iconst 1, 1) := by decide +kernel
theorem dX0_shutsFrom_46 : decode cX0_shutsFrom 46 = .ok (.goto 4, 3) := by decide +kernel
theorem dX0_shutsFrom_49 : decode cX0_shutsFrom 49 = .ok (.iconst 0, 1) := by decide +kernel
theorem dX0_shutsFrom_50 : decode cX0_shutsFrom 50 = .ok (.ireturn, 1) := by decide +kernel
theorem dX0_opensFrom_0 : decode cX0_opensFrom 0 = .ok (.aload_n 0, 1) := by decide +kernel
theorem dX0_opensFrom_1 : decode cX0_opensFrom 1 = .ok (.getfield 9, 3) := by decide +kernel
theorem dX0_opensFrom_4 : decode cX0_opensFrom 4 = .ok (.iload_n 1, 1) := by decide +kernel
theorem dX0_opensFrom_5 : decode cX0_opensFrom 5 = .ok (.iaload, 1) := by decide +kernel
theorem dX0_opensFrom_6 : decode cX0_opensFrom 6 = .ok (.iconst 3, 1) := by decide +kernel
theorem dX0_opensFrom_7 : decode cX0_opensFrom 7 = .ok (.if_icmp .ne 21, 3) := by decide +kernel
theorem dX0_opensFrom_10 : decode cX0_opensFrom 10 = .ok (.aload_n 0, 1) := by decide +kernel
theorem dX0_opensFrom_11 : decode cX0_opensFrom 11 = .ok (.getfield 15, 3) := by decide +kernel
theorem dX0_opensFrom_14 : decode cX0_opensFrom 14 = .ok (.iload_n 1, 1) := by decide +kernel
theorem dX0_opensFrom_15 : decode cX0_opensFrom 15 = .ok (.iaload, 1) := by decide +kernel
theorem dX0_opensFrom_16 : decode cX0_opensFrom 16 = .ok (.iload_n 2, 1) := by decide +kernel
theorem dX0_opensFrom_17 : decode cX0_opensFrom 17 = .ok (.if_icmp .ne 7, 3) := by decide +kernel
theorem dX0_opensFrom_20 : decode cX0_opensFrom 20 = .ok (.iconst 1, 1) := by decide +kernel
theorem dX0_opensFrom_21 : decode cX0_opensFrom 21 = .ok (.goto 13, 3) := by decide +kernel
theorem dX0_opensFrom_24 : decode cX0_opensFrom 24 = .ok (.iconst 0, 1) := by decide +kernel
theorem dX0_opensFrom_25 : decode cX0_opensFrom 25 = .ok (.goto 9, 3) := by decide +kernel
theorem dX0_opensFrom_28 : decode cX0_opensFrom 28 = .ok (.aload_n 0, 1) := by decide +kernel
theorem dX0_opensFrom_29 : decode cX0_opensFrom 29 = .ok (.iload_n 1, 1) := by decide +kernel
theorem dX0_opensFrom_30 : decode cX0_opensFrom 30 = .ok (.iload_n 2, 1) := by decide +kernel
theorem dX0_opensFrom_31 : decode cX0_opensFrom 31 = .ok (.invokevirtual 49, 3) := by decide +kernel
theorem dX0_opensFrom_34 : decode cX0_opensFrom 34 = .ok (.ireturn, 1) := by decide +kernel
theorem dX0_mayShut_0 : decode cX0_mayShut 0 = .ok (.aload_n 0, 1) := by decide +kernel
theorem dX0_mayShut_1 : decode cX0_mayShut 1 = .ok (.iload_n 2, 1) := by decide +kernel
theorem dX0_mayShut_2 : decode cX0_mayShut 2 = .ok (.invokevirtual 53, 3) := by decide +kernel
theorem dX0_mayShut_5 : decode cX0_mayShut 5 = .ok (.ifCond .eq 21, 3) := by decide +kernel
theorem dX0_mayShut_8 : decode cX0_mayShut 8 = .ok (.aload_n 0, 1) := by decide +kernel
theorem dX0_mayShut_9 : decode cX0_mayShut 9 = .ok (.iload_n 2, 1) := by decide +kernel
theorem dX0_mayShut_10 : decode cX0_mayShut 10 = .ok (.aload_n 0, 1) := by decide +kernel
theorem dX0_mayShut_11 : decode cX0_mayShut 11 = .ok (.getfield 21, 3) := by decide +kernel
theorem dX0_mayShut_14 : decode cX0_mayShut 14 = .ok (.iload_n 1, 1) := by decide +kernel
theorem dX0_mayShut_15 : decode cX0_mayShut 15 = .ok (.iaload, 1) := by decide +kernel
theorem dX0_mayShut_16 : decode cX0_mayShut 16 = .ok (.invokevirtual 57, 3) := by decide +kernel
theorem dX0_mayShut_19 : decode cX0_mayShut 19 = .ok (.ifCond .eq 7, 3) := by decide +kernel
theorem dX0_mayShut_22 : decode cX0_mayShut 22 = .ok (.iconst 1, 1) := by decide +kernel
theorem dX0_mayShut_23 : decode cX0_mayShut 23 = .ok (.goto 4, 3) := by decide +kernel
theorem dX0_mayShut_26 : decode cX0_mayShut 26 = .ok (.iconst 0, 1) := by decide +kernel
theorem dX0_mayShut_27 : decode cX0_mayShut 27 = .ok (.ireturn, 1) := by decide +kernel
theorem dX0_mayWalk_0 : decode cX0_mayWalk 0 = .ok (.aload_n 0, 1) := by decide +kernel
theorem dX0_mayWalk_1 : decode cX0_mayWalk 1 = .ok (.iload_n 2, 1) := by decide +kernel
theorem dX0_mayWalk_2 : decode cX0_mayWalk 2 = .ok (.invokevirtual 53, 3) := by decide +kernel
theorem dX0_mayWalk_5 : decode cX0_mayWalk 5 = .ok (.ifCond .eq 31, 3) := by decide +kernel
theorem dX0_mayWalk_8 : decode cX0_mayWalk 8 = .ok (.aload_n 0, 1) := by decide +kernel
theorem dX0_mayWalk_9 : decode cX0_mayWalk 9 = .ok (.getfield 9, 3) := by decide +kernel
theorem dX0_mayWalk_12 : decode cX0_mayWalk 12 = .ok (.iload_n 2, 1) := by decide +kernel
theorem dX0_mayWalk_13 : decode cX0_mayWalk 13 = .ok (.iaload, 1) := by decide +kernel
theorem dX0_mayWalk_14 : decode cX0_mayWalk 14 = .ok (.iconst 1, 1) := by decide +kernel
theorem dX0_mayWalk_15 : decode cX0_mayWalk 15 = .ok (.if_icmp .eq 21, 3) := by decide +kernel
theorem dX0_mayWalk_18 : decode cX0_mayWalk 18 = .ok (.aload_n 0, 1) := by decide +kernel
theorem dX0_mayWalk_19 : decode cX0_mayWalk 19 = .ok (.iload_n 2, 1) := by decide +kernel
theorem dX0_mayWalk_20 : decode cX0_mayWalk 20 = .ok (.aload_n 0, 1) := by decide +kernel
theorem dX0_mayWalk_21 : decode cX0_mayWalk 21 = .ok (.getfield 21, 3) := by decide +kernel
theorem dX0_mayWalk_24 : decode cX0_mayWalk 24 = .ok (.iload_n 1, 1) := by decide +kernel
theorem dX0_mayWalk_25 : decode cX0_mayWalk 25 = .ok (.iaload, 1) := by decide +kernel
theorem dX0_mayWalk_26 : decode cX0_mayWalk 26 = .ok (.invokevirtual 49, 3) := by decide +kernel
theorem dX0_mayWalk_29 : decode cX0_mayWalk 29 = .ok (.ifCond .eq 7, 3) := by decide +kernel
theorem dX0_mayWalk_32 : decode cX0_mayWalk 32 = .ok (.iconst 1, 1) := by decide +kernel
theorem dX0_mayWalk_33 : decode cX0_mayWalk 33 = .ok (.goto 4, 3) := by decide +kernel
theorem dX0_mayWalk_36 : decode cX0_mayWalk 36 = .ok (.iconst 0, 1) := by decide +kernel
theorem dX0_mayWalk_37 : decode cX0_mayWalk 37 = .ok (.ireturn, 1) := by decide +kernel
theorem dX0_standsBeforeShut_0 : decode cX0_standsBeforeShut 0 = .ok (.aload_n 0, 1) := by decide +kernel
theorem dX0_standsBeforeShut_1 : decode cX0_standsBeforeShut 1 = .ok (.iload_n 2, 1) := by decide +kernel
theorem dX0_standsBeforeShut_2 : decode cX0_standsBeforeShut 2 = .ok (.invokevirtual 53, 3) := by decide +kernel
theorem dX0_standsBeforeShut_5 : decode cX0_standsBeforeShut 5 = .ok (.ifCond .ne 21, 3) := by decide +kernel
theorem dX0_standsBeforeShut_8 : decode cX0_standsBeforeShut 8 = .ok (.aload_n 0, 1) := by decide +kernel
theorem dX0_standsBeforeShut_9 : decode cX0_standsBeforeShut 9 = .ok (.iload_n 2, 1) := by decide +kernel
theorem dX0_standsBeforeShut_10 : decode cX0_standsBeforeShut 10 = .ok (.aload_n 0, 1) := by decide +kernel
theorem dX0_standsBeforeShut_11 : decode cX0_standsBeforeShut 11 = .ok (.getfield 21, 3) := by decide +kernel
theorem dX0_standsBeforeShut_14 : decode cX0_standsBeforeShut 14 = .ok (.iload_n 1, 1) := by decide +kernel
theorem dX0_standsBeforeShut_15 : decode cX0_standsBeforeShut 15 = .ok (.iaload, 1) := by decide +kernel
theorem dX0_standsBeforeShut_16 : decode cX0_standsBeforeShut 16 = .ok (.invokevirtual 60, 3) := by decide +kernel
theorem dX0_standsBeforeShut_19 : decode cX0_standsBeforeShut 19 = .ok (.ifCond .eq 7, 3) := by decide +kernel
theorem dX0_standsBeforeShut_22 : decode cX0_standsBeforeShut 22 = .ok (.iconst 1, 1) := by decide +kernel
theorem dX0_standsBeforeShut_23 : decode cX0_standsBeforeShut 23 = .ok (.goto 4, 3) := by decide +kernel
theorem dX0_standsBeforeShut_26 : decode cX0_standsBeforeShut 26 = .ok (.iconst 0, 1) := by decide +kernel
theorem dX0_standsBeforeShut_27 : decode cX0_standsBeforeShut 27 = .ok (.ireturn, 1) := by decide +kernel
theorem dX0_shuttable_0 : decode cX0_shuttable 0 = .ok (.iconst 0, 1) := by decide +kernel
theorem dX0_shuttable_1 : decode cX0_shuttable 1 = .ok (.istore_n 1, 1) := by decide +kernel
theorem dX0_shuttable_2 : decode cX0_shuttable 2 = .ok (.iconst 0, 1) := by decide +kernel
theorem dX0_shuttable_3 : decode cX0_shuttable 3 = .ok (.istore_n 2, 1) := by decide +kernel
theorem dX0_shuttable_4 : decode cX0_shuttable 4 = .ok (.iload_n 2, 1) := by decide +kernel
theorem dX0_shuttable_5 : decode cX0_shuttable 5 = .ok (.aload_n 0, 1) := by decide +kernel
theorem dX0_shuttable_6 : decode cX0_shuttable 6 = .ok (.getfield 34, 3) := by decide +kernel
theorem dX0_shuttable_9 : decode cX0_shuttable 9 = .ok (.if_icmp .ge 53, 3) := by decide +kernel
theorem dX0_shuttable_12 : decode cX0_shuttable 12 = .ok (.iconst 0, 1) := by decide +kernel
theorem dX0_shuttable_13 : decode cX0_shuttable 13 = .ok (.istore_n 3, 1) := by decide +kernel
theorem dX0_shuttable_14 : decode cX0_shuttable 14 = .ok (.iload_n 3, 1) := by decide +kernel
theorem dX0_shuttable_15 : decode cX0_shuttable 15 = .ok (.aload_n 0, 1) := by decide +kernel
theorem dX0_shuttable_16 : decode cX0_shuttable 16 = .ok (.getfield 31, 3) := by decide +kernel
theorem dX0_shuttable_19 : decode cX0_shuttable 19 = .ok (.if_icmp .ge 37, 3) := by decide +kernel
theorem dX0_shuttable_22 : decode cX0_shuttable 22 = .ok (.aload_n 0, 1) := by decide +kernel
theorem dX0_shuttable_23 : decode cX0_shuttable 23 = .ok (.iload_n 3, 1) := by decide +kernel
theorem dX0_shuttable_24 : decode cX0_shuttable 24 = .ok (.invokevirtual 53, 3) := by decide +kernel
theorem dX0_shuttable_27 : decode cX0_shuttable 27 = .ok (.ifCond .eq 23, 3) := by decide +kernel
theorem dX0_shuttable_30 : decode cX0_shuttable 30 = .ok (.aload_n 0, 1) := by decide +kernel
theorem dX0_shuttable_31 : decode cX0_shuttable 31 = .ok (.iload_n 3, 1) := by decide +kernel
theorem dX0_shuttable_32 : decode cX0_shuttable 32 = .ok (.aload_n 0, 1) := by decide +kernel
theorem dX0_shuttable_33 : decode cX0_shuttable 33 = .ok (.getfield 21, 3) := by decide +kernel
theorem dX0_shuttable_36 : decode cX0_shuttable 36 = .ok (.iload_n 2, 1) := by decide +kernel
theorem dX0_shuttable_37 : decode cX0_shuttable 37 = .ok (.iaload, 1) := by decide +kernel
theorem dX0_shuttable_38 : decode cX0_shuttable 38 = .ok (.invokevirtual 57, 3) := by decide +kernel
theorem dX0_shuttable_41 : decode cX0_shuttable 41 = .ok (.ifCond .eq 9, 3) := by decide +kernel
theorem dX0_shuttable_44 : decode cX0_shuttable 44 = .ok (.iload_n 1, 1) := by decide +kernel
theorem dX0_shuttable_45 : decode cX0_shuttable 45 = .ok (.iconst 1, 1) := by decide +kernel
theorem dX0_shuttable_46 : decode cX0_shuttable 46 = .ok (.iload_n 3, 1) := by decide +kernel
theorem dX0_shuttable_47 : decode cX0_shuttable 47 = .ok (.ishl, 1) := by decide +kernel
theorem dX0_shuttable_48 : decode cX0_shuttable 48 = .ok (.ior, 1) := by decide +kernel
theorem dX0_shuttable_49 : decode cX0_shuttable 49 = .ok (.istore_n 1, 1) := by decide +kernel
theorem dX0_shuttable_50 : decode cX0_shuttable 50 = .ok (.iinc 3 1, 3) := by decide +kernel
theorem dX0_shuttable_53 : decode cX0_shuttable 53 = .ok (.goto (-39), 3) := by decide +kernel
theorem dX0_shuttable_56 : decode cX0_shuttable 56 = .ok (.iinc 2 1, 3) := by decide +kernel
theorem dX0_shuttable_59 : decode cX0_shuttable 59 = .ok (.goto (-55), 3) := by decide +kernel
theorem dX0_shuttable_62 : decode cX0_shuttable 62 = .ok (.iload_n 1, 1) := by decide +kernel
theorem dX0_shuttable_63 : decode cX0_shuttable 63 = .ok (.ireturn, 1) := by decide +kernel
theorem dX0_weigh_0 : decode cX0_weigh 0 = .ok (.iconst 0, 1) := by decide +kernel
theorem dX0_weigh_1 : decode cX0_weigh 1 = .ok (.istore_n 2, 1) := by decide +kernel
theorem dX0_weigh_2 : decode cX0_weigh 2 = .ok (.iconst 0, 1) := by decide +kernel
theorem dX0_weigh_3 : decode cX0_weigh 3 = .ok (.istore_n 3, 1) := by decide +kernel
theorem dX0_weigh_4 : decode cX0_weigh 4 = .ok (.iload_n 3, 1) := by decide +kernel
theorem dX0_weigh_5 : decode cX0_weigh 5 = .ok (.aload_n 0, 1) := by decide +kernel
theorem dX0_weigh_6 : decode cX0_weigh 6 = .ok (.getfield 31, 3) := by decide +kernel
theorem dX0_weigh_9 : decode cX0_weigh 9 = .ok (.if_icmp .ge 25, 3) := by decide +kernel
theorem dX0_weigh_12 : decode cX0_weigh 12 = .ok (.iload_n 1, 1) := by decide +kernel
theorem dX0_weigh_13 : decode cX0_weigh 13 = .ok (.iload_n 3, 1) := by decide +kernel
theorem dX0_weigh_14 : decode cX0_weigh 14 = .ok (.ishr, 1) := by decide +kernel
theorem dX0_weigh_15 : decode cX0_weigh 15 = .ok (.iconst 1, 1) := by decide +kernel
theorem dX0_weigh_16 : decode cX0_weigh 16 = .ok (.iand, 1) := by decide +kernel
theorem dX0_weigh_17 : decode cX0_weigh 17 = .ok (.ifCond .eq 11, 3) := by decide +kernel
theorem dX0_weigh_20 : decode cX0_weigh 20 = .ok (.iload_n 2, 1) := by decide +kernel
theorem dX0_weigh_21 : decode cX0_weigh 21 = .ok (.aload_n 0, 1) := by decide +kernel
theorem dX0_weigh_22 : decode cX0_weigh 22 = .ok (.iload_n 3, 1) := by decide +kernel
theorem dX0_weigh_23 : decode cX0_weigh 23 = .ok (.invokevirtual 63, 3) := by decide +kernel
theorem dX0_weigh_26 : decode cX0_weigh 26 = .ok (.iadd, 1) := by decide +kernel
theorem dX0_weigh_27 : decode cX0_weigh 27 = .ok (.istore_n 2, 1) := by decide +kernel
theorem dX0_weigh_28 : decode cX0_weigh 28 = .ok (.iinc 3 1, 3) := by decide +kernel
theorem dX0_weigh_31 : decode cX0_weigh 31 = .ok (.goto (-27), 3) := by decide +kernel
theorem dX0_weigh_34 : decode cX0_weigh 34 = .ok (.iload_n 2, 1) := by decide +kernel
theorem dX0_weigh_35 : decode cX0_weigh 35 = .ok (.ireturn, 1) := by decide +kernel
theorem dX0_isEnoughAndNoneInVain_0 : decode cX0_isEnoughAndNoneInVain 0 = .ok (.aload_n 0, 1) := by decide +kernel
theorem dX0_isEnoughAndNoneInVain_1 : decode cX0_isEnoughAndNoneInVain 1 = .ok (.iload_n 1, 1) := by decide +kernel
theorem dX0_isEnoughAndNoneInVain_2 : decode cX0_isEnoughAndNoneInVain 2 = .ok (.invokevirtual 67, 3) := by decide +kernel
theorem dX0_isEnoughAndNoneInVain_5 : decode cX0_isEnoughAndNoneInVain 5 = .ok (.istore_n 2, 1) := by decide +kernel
theorem dX0_isEnoughAndNoneInVain_6 : decode cX0_isEnoughAndNoneInVain 6 = .ok (.iload_n 2, 1) := by decide +kernel
theorem dX0_isEnoughAndNoneInVain_7 : decode cX0_isEnoughAndNoneInVain 7 = .ok (.aload_n 0, 1) := by decide +kernel
theorem dX0_isEnoughAndNoneInVain_8 : decode cX0_isEnoughAndNoneInVain 8 = .ok (.getfield 24, 3) := by decide +kernel
theorem dX0_isEnoughAndNoneInVain_11 : decode cX0_isEnoughAndNoneInVain 11 = .ok (.if_icmp .ge 5, 3) := by decide +kernel
theorem dX0_isEnoughAndNoneInVain_14 : decode cX0_isEnoughAndNoneInVain 14 = .ok (.iconst 0, 1) := by decide +kernel
theorem dX0_isEnoughAndNoneInVain_15 : decode cX0_isEnoughAndNoneInVain 15 = .ok (.ireturn, 1) := by decide +kernel
theorem dX0_isEnoughAndNoneInVain_16 : decode cX0_isEnoughAndNoneInVain 16 = .ok (.iconst 0, 1) := by decide +kernel
theorem dX0_isEnoughAndNoneInVain_17 : decode cX0_isEnoughAndNoneInVain 17 = .ok (.istore_n 3, 1) := by decide +kernel
theorem dX0_isEnoughAndNoneInVain_18 : decode cX0_isEnoughAndNoneInVain 18 = .ok (.iload_n 3, 1) := by decide +kernel
theorem dX0_isEnoughAndNoneInVain_19 : decode cX0_isEnoughAndNoneInVain 19 = .ok (.aload_n 0, 1) := by decide +kernel
theorem dX0_isEnoughAndNoneInVain_20 : decode cX0_isEnoughAndNoneInVain 20 = .ok (.getfield 31, 3) := by decide +kernel
theorem dX0_isEnoughAndNoneInVain_23 : decode cX0_isEnoughAndNoneInVain 23 = .ok (.if_icmp .ge 33, 3) := by decide +kernel
theorem dX0_isEnoughAndNoneInVain_26 : decode cX0_isEnoughAndNoneInVain 26 = .ok (.iload_n 1, 1) := by decide +kernel
theorem dX0_isEnoughAndNoneInVain_27 : decode cX0_isEnoughAndNoneInVain 27 = .ok (.iload_n 3, 1) := by decide +kernel
theorem dX0_isEnoughAndNoneInVain_28 : decode cX0_isEnoughAndNoneInVain 28 = .ok (.ishr, 1) := by decide +kernel
theorem dX0_isEnoughAndNoneInVain_29 : decode cX0_isEnoughAndNoneInVain 29 = .ok (.iconst 1, 1) := by decide +kernel
theorem dX0_isEnoughAndNoneInVain_30 : decode cX0_isEnoughAndNoneInVain 30 = .ok (.iand, 1) := by decide +kernel
theorem dX0_isEnoughAndNoneInVain_31 : decode cX0_isEnoughAndNoneInVain 31 = .ok (.ifCond .eq 19, 3) := by decide +kernel
theorem dX0_isEnoughAndNoneInVain_34 : decode cX0_isEnoughAndNoneInVain 34 = .ok (.iload_n 2, 1) := by decide +kernel
theorem dX0_isEnoughAndNoneInVain_35 : decode cX0_isEnoughAndNoneInVain 35 = .ok (.aload_n 0, 1) := by decide +kernel
theorem dX0_isEnoughAndNoneInVain_36 : decode cX0_isEnoughAndNoneInVain 36 = .ok (.iload_n 3, 1) := by decide +kernel
theorem dX0_isEnoughAndNoneInVain_37 : decode cX0_isEnoughAndNoneInVain 37 = .ok (.invokevirtual 63, 3) := by decide +kernel
theorem dX0_isEnoughAndNoneInVain_40 : decode cX0_isEnoughAndNoneInVain 40 = .ok (.isub, 1) := by decide +kernel
theorem dX0_isEnoughAndNoneInVain_41 : decode cX0_isEnoughAndNoneInVain 41 = .ok (.aload_n 0, 1) := by decide +kernel
theorem dX0_isEnoughAndNoneInVain_42 : decode cX0_isEnoughAndNoneInVain 42 = .ok (.getfield 24, 3) := by decide +kernel
theorem dX0_isEnoughAndNoneInVain_45 : decode cX0_isEnoughAndNoneInVain 45 = .ok (.if_icmp .lt 5, 3) := by decide +kernel
theorem dX0_isEnoughAndNoneInVain_48 : decode cX0_isEnoughAndNoneInVain 48 = .ok (.iconst 0, 1) := by decide +kernel
theorem dX0_isEnoughAndNoneInVain_49 : decode cX0_isEnoughAndNoneInVain 49 = .ok (.ireturn, 1) := by decide +kernel
theorem dX0_isEnoughAndNoneInVain_50 : decode cX0_isEnoughAndNoneInVain 50 = .ok (.iinc 3 1, 3) := by decide +kernel
theorem dX0_isEnoughAndNoneInVain_53 : decode cX0_isEnoughAndNoneInVain 53 = .ok (.goto (-35), 3) := by decide +kernel
theorem dX0_isEnoughAndNoneInVain_56 : decode cX0_isEnoughAndNoneInVain 56 = .ok (.iconst 1, 1) := by decide +kernel
theorem dX0_isEnoughAndNoneInVain_57 : decode cX0_isEnoughAndNoneInVain 57 = .ok (.ireturn, 1) := by decide +kernel
def f_X0_init (h : xH) (a0 : Nat) : Option ((xH) × Nat × Nat) :=
  x_add 1 14 <|
  (x_put (h ++ [.inl (.int, 14, .inl (fun _ => 0))]) a0 0 0 (.ref (h.length + 16))).bind fun h3 =>
  x_add 1 14 <|
  (x_put (h3 ++ [.inl (.int, 14, .inl (fun _ => 0))]) a0 0 1 (.ref (h3.length + 16))).bind fun h6 =>
  x_add 1 14 <|
  (x_put (h6 ++ [.inl (.int, 14, .inl (fun _ => 0))]) a0 0 2 (.ref (h6.length + 16))).bind fun h9 =>
  x_add 1 4 <|
  (x_put (h9 ++ [.inl (.int, 4, .inl (fun _ => 0))]) a0 0 3 (.ref (h9.length + 16))).bind fun h12 =>
  (x_put h12 a0 0 7 (.int (2 : Int32))).bind fun h13 =>
  (x_put h13 a0 0 9 (.int (1 : Int32))).bind fun h14 =>
  some (h14, 0, 0)
set_option maxRecDepth 100000 in
set_option maxHeartbeats 4000000 in
theorem c_X0_init {h : xH} {a0 : Nat} {hz : xH} {c9 s9 : Nat} (hE : f_X0_init h a0 = some (hz, c9, s9)) : Ctr M_X0_init [.ref a0] h none hz c9 s9 := by
  refine ctr_of (by decide) (fun _ _ => Nat.le_of_ble_eq_true rfl) (fun S => ?_)
  show Y S M_X0_init h none hz c9 s9 0 [(0, .ref a0)] [] h 0 0
  unfold f_X0_init at hE
  refine y_aload_n dX0_init_0 0 rfl ?_
  refine y_objInit (x_wt (tb 29 (by decide +kernel)) rfl) (x_wt (tb 22 (by decide +kernel)) rfl) (x_wt (tb 23 (by decide +kernel)) rfl) (by decide) (Nat.le_of_ble_eq_true rfl) dX0_init_1 ?_
  refine y_aload_n dX0_init_4 0 rfl ?_
  refine y_bipush (v := (14 : Int32)) dX0_init_5 (by decide) ?_
  obtain ⟨c1, s2, hN, ecc1, ess2⟩ := x_add.spec hE
  clear hE; have hE := hN; clear hN
  refine y_newI (N := 14) (x_wt (tb 92 (by decide +kernel)) rfl) (by decide) (by decide) (by decide) ⟨by omega, by omega⟩ dX0_init_7 ?_
  obtain ⟨h3, eh3, hE⟩ := Option.bind_eq_some_iff.mp hE
  refine y_putR fp_X0_9 (fun q => by first | rfl | cases q) (fun _ => rfl) (fun _ => rfl) eh3 dX0_init_9 ?_
  refine y_aload_n dX0_init_12 0 rfl ?_
  refine y_bipush (v := (14 : Int32)) dX0_init_13 (by decide) ?_
  obtain ⟨c4, s5, hN, ecc4, ess5⟩ := x_add.spec hE
  clear hE; have hE := hN; clear hN
  refine y_newI (N := 14) (x_wt (tb 92 (by decide +kernel)) rfl) (by decide) (by decide) (by decide) ⟨by omega, by omega⟩ dX0_init_15 ?_
  obtain ⟨h6, eh6, hE⟩ := Option.bind_eq_some_iff.mp hE
  refine y_putR fp_X0_15 (fun q => by first | rfl | cases q) (fun _ => rfl) (fun _ => rfl) eh6 dX0_init_17 ?_
  refine y_aload_n dX0_init_20 0 rfl ?_
  refine y_bipush (v := (14 : Int32)) dX0_init_21 (by decide) ?_
  obtain ⟨c7, s8, hN, ecc7, ess8⟩ := x_add.spec hE
  clear hE; have hE := hN; clear hN
  refine y_newI (N := 14) (x_wt (tb 92 (by decide +kernel)) rfl) (by decide) (by decide) (by decide) ⟨by omega, by omega⟩ dX0_init_23 ?_
  obtain ⟨h9, eh9, hE⟩ := Option.bind_eq_some_iff.mp hE
  refine y_putR fp_X0_18 (fun q => by first | rfl | cases q) (fun _ => rfl) (fun _ => rfl) eh9 dX0_init_25 ?_
  refine y_aload_n dX0_init_28 0 rfl ?_
  refine y_iconst (v := (4 : Int32)) dX0_init_29 (by decide) ?_
  obtain ⟨c10, s11, hN, ecc10, ess11⟩ := x_add.spec hE
  clear hE; have hE := hN; clear hN
  refine y_newI (N := 4) (x_wt (tb 92 (by decide +kernel)) rfl) (by decide) (by decide) (by decide) ⟨by omega, by omega⟩ dX0_init_30 ?_
  obtain ⟨h12, eh12, hE⟩ := Option.bind_eq_some_iff.mp hE
  refine y_putR fp_X0_21 (fun q => by first | rfl | cases q) (fun _ => rfl) (fun _ => rfl) eh12 dX0_init_32 ?_
  refine y_aload_n dX0_init_35 0 rfl ?_
  refine y_iconst (v := (2 : Int32)) dX0_init_36 (by decide) ?_
  obtain ⟨h13, eh13, hE⟩ := Option.bind_eq_some_iff.mp hE
  refine y_putI fp_X0_24 eh13 dX0_init_37 ?_
  refine y_aload_n dX0_init_40 0 rfl ?_
  refine y_iconst (v := (1 : Int32)) dX0_init_41 (by decide) ?_
  obtain ⟨h14, eh14, hE⟩ := Option.bind_eq_some_iff.mp hE
  refine y_putI fp_X0_28 eh14 dX0_init_42 ?_
  obtain ⟨rfl, rfl, rfl⟩ := x_inj3 hE
  exact y_ret dX0_init_45 (by omega) (by omega) rfl
def f_X0_become_L2 (v0 : Nat) (v1 : Nat) : Nat → Int32 → xH → Option (xH)
  | 0, _, _ => none
  | k + 1, v2, h =>
    (x_gI h v1 0 4).bind fun x1 =>
    if x1 ≤ v2 then
      some h
    else
      (x_gR h v0 0 0).bind fun a2 =>
      (x_gR h v1 0 0).bind fun a3 =>
      (x_ld h a3 v2).bind fun x4 =>
      (x_st h a2 v2 x4).bind fun h5 =>
      (x_gR h5 v0 0 1).bind fun a6 =>
      (x_gR h5 v1 0 1).bind fun a7 =>
      (x_ld h5 a7 v2).bind fun x8 =>
      (x_st h5 a6 v2 x8).bind fun h9 =>
      (x_gR h9 v0 0 2).bind fun a10 =>
      (x_gR h9 v1 0 2).bind fun a11 =>
      (x_ld h9 a11 v2).bind fun x12 =>
      (x_st h9 a10 v2 x12).bind fun h13 =>
      (some (v2 + (1 : Int32))).bind fun x14 =>
      f_X0_become_L2 v0 v1 k x14 h13
set_option maxRecDepth 100000 in
set_option maxHeartbeats 4000000 in
theorem l_X0_become_2 {S : Nat × (Nat → Int32)} {rv : Option Value} {h0 h1 : xH} {mc ms : Nat} {cells slots : Nat} (hm : cells ≤ mc ∧ slots ≤ ms) (v0 : Nat) (v1 : Nat) : ∀ (k : Nat) (v2 : Int32) (h : xH) (res : xH), f_X0_become_L2 v0 v1 k v2 h = some res → (∀ r9, res = r9 → Y S M_X0_become h0 rv h1 mc ms 52 [(0, .ref v0), (1, .ref v1)] [] r9 cells slots) → Y S M_X0_become h0 rv h1 mc ms 2 [(0, .ref v0), (1, .ref v1), (2, .int v2)] [] h cells slots := by
  intro k
  induction k with
  | zero =>
    intro _ _ _ hE
    cases hE
  | succ k ih =>
    intro v2 h res hE K
    unfold f_X0_become_L2 at hE
    refine y_iload_n dX0_become_2 2 rfl ?_
    refine y_aload_n dX0_become_3 1 rfl ?_
    obtain ⟨x1, ex1, hE⟩ := Option.bind_eq_some_iff.mp hE
    refine y_getI fl_X0_31 ex1 dX0_become_4 ?_
    refine y_icmp_ge (tgt := 52) dX0_become_7 (by decide) (fun hc15 => ?_) (fun hc15 => ?_)
    · rw [if_pos hc15] at hE
      obtain rfl := Option.some.inj hE
      exact y_pick [0, 1] rfl (K _ rfl)
    · rw [if_neg hc15] at hE
      refine y_aload_n dX0_become_10 0 rfl ?_
      obtain ⟨a2, ea2, hE⟩ := Option.bind_eq_some_iff.mp hE
      refine y_getR fl_X0_9 ea2 dX0_become_11 ?_
      refine y_iload_n dX0_become_14 2 rfl ?_
      refine y_aload_n dX0_become_15 1 rfl ?_
      obtain ⟨a3, ea3, hE⟩ := Option.bind_eq_some_iff.mp hE
      refine y_getR fl_X0_9 ea3 dX0_become_16 ?_
      refine y_iload_n dX0_become_19 2 rfl ?_
      obtain ⟨x4, ex4, hE⟩ := Option.bind_eq_some_iff.mp hE
      refine y_iald ex4 dX0_become_20 ?_
      obtain ⟨h5, eh5, hE⟩ := Option.bind_eq_some_iff.mp hE
      refine y_iast eh5 dX0_become_21 ?_
      refine y_aload_n dX0_become_22 0 rfl ?_
      obtain ⟨a6, ea6, hE⟩ := Option.bind_eq_some_iff.mp hE
      refine y_getR fl_X0_15 ea6 dX0_become_23 ?_
      refine y_iload_n dX0_become_26 2 rfl ?_
      refine y_aload_n dX0_become_27 1 rfl ?_
      obtain ⟨a7, ea7, hE⟩ := Option.bind_eq_some_iff.mp hE
      refine y_getR fl_X0_15 ea7 dX0_become_28 ?_
      refine y_iload_n dX0_become_31 2 rfl ?_
      obtain ⟨x8, ex8, hE⟩ := Option.bind_eq_some_iff.mp hE
      refine y_iald ex8 dX0_become_32 ?_
      obtain ⟨h9, eh9, hE⟩ := Option.bind_eq_some_iff.mp hE
      refine y_iast eh9 dX0_become_33 ?_
      refine y_aload_n dX0_become_34 0 rfl ?_
      obtain ⟨a10, ea10, hE⟩ := Option.bind_eq_some_iff.mp hE
      refine y_getR fl_X0_18 ea10 dX0_become_35 ?_
      refine y_iload_n dX0_become_38 2 rfl ?_
      refine y_aload_n dX0_become_39 1 rfl ?_
      obtain ⟨a11, ea11, hE⟩ := Option.bind_eq_some_iff.mp hE
      refine y_getR fl_X0_18 ea11 dX0_become_40 ?_
      refine y_iload_n dX0_become_43 2 rfl ?_
      obtain ⟨x12, ex12, hE⟩ := Option.bind_eq_some_iff.mp hE
      refine y_iald ex12 dX0_become_44 ?_
      obtain ⟨h13, eh13, hE⟩ := Option.bind_eq_some_iff.mp hE
      refine y_iast eh13 dX0_become_45 ?_
      obtain ⟨x14, ex14, hE⟩ := Option.bind_eq_some_iff.mp hE
      refine y_iinc (ls' := [(2, .int x14), (0, .ref v0), (1, .ref v1)]) dX0_become_46 2 rfl (Option.some.inj ex14) (by decide) rfl ?_
      refine y_goto (tgt := 2) dX0_become_49 (by decide) ?_
      refine y_pick [1, 2, 0] rfl ?_
      exact ih _ _ _ hE K
def f_X0_become_L54 (v0 : Nat) (v1 : Nat) : Nat → Int32 → xH → Option (xH)
  | 0, _, _ => none
  | k + 1, v2, h =>
    (x_gI h v1 0 6).bind fun x17 =>
    if x17 ≤ v2 then
      some h
    else
      (x_gR h v0 0 3).bind fun a18 =>
      (x_gR h v1 0 3).bind fun a19 =>
      (x_ld h a19 v2).bind fun x20 =>
      (x_st h a18 v2 x20).bind fun h21 =>
      (some (v2 + (1 : Int32))).bind fun x22 =>
      f_X0_become_L54 v0 v1 k x22 h21
set_option maxRecDepth 100000 in
set_option maxHeartbeats 4000000 in
theorem l_X0_become_54 {S : Nat × (Nat → Int32)} {rv : Option Value} {h0 h1 : xH} {mc ms : Nat} {cells slots : Nat} (hm : cells ≤ mc ∧ slots ≤ ms) (v0 : Nat) (v1 : Nat) : ∀ (k : Nat) (v2 : Int32) (h : xH) (res : xH), f_X0_become_L54 v0 v1 k v2 h = some res → (∀ r9, res = r9 → Y S M_X0_become h0 rv h1 mc ms 80 [(0, .ref v0), (1, .ref v1)] [] r9 cells slots) → Y S M_X0_become h0 rv h1 mc ms 54 [(0, .ref v0), (1, .ref v1), (2, .int v2)] [] h cells slots := by
  intro k
  induction k with
  | zero =>
    intro _ _ _ hE
    cases hE
  | succ k ih =>
    intro v2 h res hE K
    unfold f_X0_become_L54 at hE
    refine y_iload_n dX0_become_54 2 rfl ?_
    refine y_aload_n dX0_become_55 1 rfl ?_
    obtain ⟨x17, ex17, hE⟩ := Option.bind_eq_some_iff.mp hE
    refine y_getI fl_X0_34 ex17 dX0_become_56 ?_
    refine y_icmp_ge (tgt := 80) dX0_become_59 (by decide) (fun hc23 => ?_) (fun hc23 => ?_)
    · rw [if_pos hc23] at hE
      obtain rfl := Option.some.inj hE
      exact y_pick [0, 1] rfl (K _ rfl)
    · rw [if_neg hc23] at hE
      refine y_aload_n dX0_become_62 0 rfl ?_
      obtain ⟨a18, ea18, hE⟩ := Option.bind_eq_some_iff.mp hE
      refine y_getR fl_X0_21 ea18 dX0_become_63 ?_
      refine y_iload_n dX0_become_66 2 rfl ?_
      refine y_aload_n dX0_become_67 1 rfl ?_
      obtain ⟨a19, ea19, hE⟩ := Option.bind_eq_some_iff.mp hE
      refine y_getR fl_X0_21 ea19 dX0_become_68 ?_
      refine y_iload_n dX0_become_71 2 rfl ?_
      obtain ⟨x20, ex20, hE⟩ := Option.bind_eq_some_iff.mp hE
      refine y_iald ex20 dX0_become_72 ?_
      obtain ⟨h21, eh21, hE⟩ := Option.bind_eq_some_iff.mp hE
      refine y_iast eh21 dX0_become_73 ?_
      obtain ⟨x22, ex22, hE⟩ := Option.bind_eq_some_iff.mp hE
      refine y_iinc (ls' := [(2, .int x22), (0, .ref v0), (1, .ref v1)]) dX0_become_74 2 rfl (Option.some.inj ex22) (by decide) rfl ?_
      refine y_goto (tgt := 54) dX0_become_77 (by decide) ?_
      refine y_pick [1, 2, 0] rfl ?_
      exact ih _ _ _ hE K
def f_X0_become (n : Nat) (h : xH) (a0 : Nat) (o1 : Nat) : Option (xH) :=
  (f_X0_become_L2 a0 o1 n (0 : Int32) h).bind fun q16 =>
  (f_X0_become_L54 a0 o1 n (0 : Int32) q16).bind fun q24 =>
  (x_gI q24 o1 0 4).bind fun x25 =>
  (x_put q24 a0 0 4 (.int x25)).bind fun h26 =>
  (x_gI h26 o1 0 5).bind fun x27 =>
  (x_put h26 a0 0 5 (.int x27)).bind fun h28 =>
  (x_gI h28 o1 0 6).bind fun x29 =>
  (x_put h28 a0 0 6 (.int x29)).bind fun h30 =>
  (x_gI h30 o1 0 7).bind fun x31 =>
  (x_put h30 a0 0 7 (.int x31)).bind fun h32 =>
  (x_gI h32 o1 0 8).bind fun x33 =>
  (x_put h32 a0 0 8 (.int x33)).bind fun h34 =>
  (x_gI h34 o1 0 9).bind fun x35 =>
  (x_put h34 a0 0 9 (.int x35)).bind fun h36 =>
  (x_gI h36 o1 0 10).bind fun x37 =>
  (x_put h36 a0 0 10 (.int x37)).bind fun h38 =>
  some h38
set_option maxRecDepth 100000 in
set_option maxHeartbeats 4000000 in
theorem c_X0_become {n : Nat} {h : xH} {a0 : Nat} {o1 : Nat} {hz : xH} (hE : f_X0_become n h a0 o1 = some hz) : Ctr M_X0_become [.ref a0, .ref o1] h none hz 0 0 := by
  refine ctr_of (by decide) (fun _ _ => Nat.le_of_ble_eq_true rfl) (fun S => ?_)
  show Y S M_X0_become h none hz 0 0 0 [(0, .ref a0), (1, .ref o1)] [] h 0 0
  unfold f_X0_become at hE
  refine y_iconst (v := (0 : Int32)) dX0_become_0 (by decide) ?_
  refine y_istore_n (ls' := [(2, .int (0 : Int32)), (0, .ref a0), (1, .ref o1)]) dX0_become_1 (by decide) rfl rfl ?_
  obtain ⟨q16, eq16, hE⟩ := Option.bind_eq_some_iff.mp hE
  refine y_pick [1, 2, 0] rfl ?_
  refine l_X0_become_2 (S := S) ⟨Nat.le_refl _, Nat.le_refl _⟩ a0 o1 n (0 : Int32) h _ eq16 (fun r8 hr8 => ?_)
  subst hr8
  refine y_iconst (v := (0 : Int32)) dX0_become_52 (by decide) ?_
  refine y_istore_n (ls' := [(2, .int (0 : Int32)), (0, .ref a0), (1, .ref o1)]) dX0_become_53 (by decide) rfl rfl ?_
  obtain ⟨q24, eq24, hE⟩ := Option.bind_eq_some_iff.mp hE
  refine y_pick [1, 2, 0] rfl ?_
  refine l_X0_become_54 (S := S) ⟨Nat.le_refl _, Nat.le_refl _⟩ a0 o1 n (0 : Int32) q16 _ eq24 (fun r8 hr8 => ?_)
  subst hr8
  refine y_aload_n dX0_become_80 0 rfl ?_
  refine y_aload_n dX0_become_81 1 rfl ?_
  obtain ⟨x25, ex25, hE⟩ := Option.bind_eq_some_iff.mp hE
  refine y_getI fl_X0_31 ex25 dX0_become_82 ?_
  obtain ⟨h26, eh26, hE⟩ := Option.bind_eq_some_iff.mp hE
  refine y_putI fp_X0_31 eh26 dX0_become_85 ?_
  refine y_aload_n dX0_become_88 0 rfl ?_
  refine y_aload_n dX0_become_89 1 rfl ?_
  obtain ⟨x27, ex27, hE⟩ := Option.bind_eq_some_iff.mp hE
  refine y_getI fl_X0_37 ex27 dX0_become_90 ?_
  obtain ⟨h28, eh28, hE⟩ := Option.bind_eq_some_iff.mp hE
  refine y_putI fp_X0_37 eh28 dX0_become_93 ?_
  refine y_aload_n dX0_become_96 0 rfl ?_
  refine y_aload_n dX0_become_97 1 rfl ?_
  obtain ⟨x29, ex29, hE⟩ := Option.bind_eq_some_iff.mp hE
  refine y_getI fl_X0_34 ex29 dX0_become_98 ?_
  obtain ⟨h30, eh30, hE⟩ := Option.bind_eq_some_iff.mp hE
  refine y_putI fp_X0_34 eh30 dX0_become_101 ?_
  refine y_aload_n dX0_become_104 0 rfl ?_
  refine y_aload_n dX0_become_105 1 rfl ?_
  obtain ⟨x31, ex31, hE⟩ := Option.bind_eq_some_iff.mp hE
  refine y_getI fl_X0_24 ex31 dX0_become_106 ?_
  obtain ⟨h32, eh32, hE⟩ := Option.bind_eq_some_iff.mp hE
  refine y_putI fp_X0_24 eh32 dX0_become_109 ?_
  refine y_aload_n dX0_become_112 0 rfl ?_
  refine y_aload_n dX0_become_113 1 rfl ?_
  obtain ⟨x33, ex33, hE⟩ := Option.bind_eq_some_iff.mp hE
  refine y_getI fl_X0_40 ex33 dX0_become_114 ?_
  obtain ⟨h34, eh34, hE⟩ := Option.bind_eq_some_iff.mp hE
  refine y_putI fp_X0_40 eh34 dX0_become_117 ?_
  refine y_aload_n dX0_become_120 0 rfl ?_
  refine y_aload_n dX0_become_121 1 rfl ?_
  obtain ⟨x35, ex35, hE⟩ := Option.bind_eq_some_iff.mp hE
  refine y_getI fl_X0_28 ex35 dX0_become_122 ?_
  obtain ⟨h36, eh36, hE⟩ := Option.bind_eq_some_iff.mp hE
  refine y_putI fp_X0_28 eh36 dX0_become_125 ?_
  refine y_aload_n dX0_become_128 0 rfl ?_
  refine y_aload_n dX0_become_129 1 rfl ?_
  obtain ⟨x37, ex37, hE⟩ := Option.bind_eq_some_iff.mp hE
  refine y_getI fl_X0_43 ex37 dX0_become_130 ?_
  obtain ⟨h38, eh38, hE⟩ := Option.bind_eq_some_iff.mp hE
  refine y_putI fp_X0_43 eh38 dX0_become_133 ?_
  obtain rfl := Option.some.inj hE
  exact y_ret dX0_become_136 (Nat.le_refl _) (Nat.le_refl _) rfl
def f_X0_hasDoor (h : xH) (a0 : Nat) (p1 : Int32) : Option (Int32) :=
  if p1 < 0 then
    some (0 : Int32)
  else
    (x_gI h a0 0 4).bind fun x1 =>
    if x1 ≤ p1 then
      some (0 : Int32)
    else
      some (1 : Int32)
set_option maxRecDepth 100000 in
set_option maxHeartbeats 4000000 in
theorem c_X0_hasDoor {h : xH} {a0 : Nat} {p1 : Int32} {r9 : Int32} (hE : f_X0_hasDoor h a0 p1 = some r9) : Ctr M_X0_hasDoor [.ref a0, .int p1] h (some (.int r9)) h 0 0 := by
  refine ctr_of (by decide) (fun _ _ => Nat.le_of_ble_eq_true rfl) (fun S => ?_)
  show Y S M_X0_hasDoor h (some (.int r9)) h 0 0 0 [(0, .ref a0), (1, .int p1)] [] h 0 0
  unfold f_X0_hasDoor at hE
  refine y_iload_n dX0_hasDoor_0 1 rfl ?_
  refine y_if_lt (tgt := 16) dX0_hasDoor_1 (by decide) (fun hc3 => ?_) (fun hc3 => ?_)
  · rw [if_pos hc3] at hE
    refine y_iconst (v := (0 : Int32)) dX0_hasDoor_16 (by decide) ?_
    obtain rfl := Option.some.inj hE
    exact y_ret dX0_hasDoor_17 (Nat.le_refl _) (Nat.le_refl _) ⟨_, rfl, rfl⟩
  · rw [if_neg hc3] at hE
    refine y_iload_n dX0_hasDoor_4 1 rfl ?_
    refine y_aload_n dX0_hasDoor_5 0 rfl ?_
    obtain ⟨x1, ex1, hE⟩ := Option.bind_eq_some_iff.mp hE
    refine y_getI fl_X0_31 ex1 dX0_hasDoor_6 ?_
    refine y_icmp_ge (tgt := 16) dX0_hasDoor_9 (by decide) (fun hc2 => ?_) (fun hc2 => ?_)
    · rw [if_pos hc2] at hE
      refine y_iconst (v := (0 : Int32)) dX0_hasDoor_16 (by decide) ?_
      obtain rfl := Option.some.inj hE
      exact y_ret dX0_hasDoor_17 (Nat.le_refl _) (Nat.le_refl _) ⟨_, rfl, rfl⟩
    · rw [if_neg hc2] at hE
      refine y_iconst (v := (1 : Int32)) dX0_hasDoor_12 (by decide) ?_
      refine y_goto (tgt := 17) dX0_hasDoor_13 (by decide) ?_
      obtain rfl := Option.some.inj hE
      exact y_ret dX0_hasDoor_17 (Nat.le_refl _) (Nat.le_refl _) ⟨_, rfl, rfl⟩
def f_X0_hasDoors (h : xH) (a0 : Nat) (p1 : Int32) : Option (Int32) :=
  (x_gI h a0 0 4).bind fun x1 =>
  if (i_shr p1 x1) = 0 then
    some (1 : Int32)
  else
    some (0 : Int32)
set_option maxRecDepth 100000 in
set_option maxHeartbeats 4000000 in
theorem c_X0_hasDoors {h : xH} {a0 : Nat} {p1 : Int32} {r9 : Int32} (hE : f_X0_hasDoors h a0 p1 = some r9) : Ctr M_X0_hasDoors [.ref a0, .int p1] h (some (.int r9)) h 0 0 := by
  refine ctr_of (by decide) (fun _ _ => Nat.le_of_ble_eq_true rfl) (fun S => ?_)
  show Y S M_X0_hasDoors h (some (.int r9)) h 0 0 0 [(0, .ref a0), (1, .int p1)] [] h 0 0
  unfold f_X0_hasDoors at hE
  refine y_iload_n dX0_hasDoors_0 1 rfl ?_
  refine y_aload_n dX0_hasDoors_1 0 rfl ?_
  obtain ⟨x1, ex1, hE⟩ := Option.bind_eq_some_iff.mp hE
  refine y_getI fl_X0_31 ex1 dX0_hasDoors_2 ?_
  refine y_ishr dX0_hasDoors_5 ?_
  refine y_if_ne (tgt := 13) dX0_hasDoors_6 (by decide) (fun hc2 => ?_) (fun hc2 => ?_)
  · rw [if_pos hc2] at hE
    refine y_iconst (v := (1 : Int32)) dX0_hasDoors_9 (by decide) ?_
    refine y_goto (tgt := 14) dX0_hasDoors_10 (by decide) ?_
    obtain rfl := Option.some.inj hE
    exact y_ret dX0_hasDoors_14 (Nat.le_refl _) (Nat.le_refl _) ⟨_, rfl, rfl⟩
  · rw [if_neg hc2] at hE
    refine y_iconst (v := (0 : Int32)) dX0_hasDoors_13 (by decide) ?_
    obtain rfl := Option.some.inj hE
    exact y_ret dX0_hasDoors_14 (Nat.le_refl _) (Nat.le_refl _) ⟨_, rfl, rfl⟩
def f_X0_hasOne (h : xH) (a0 : Nat) (p1 : Int32) : Option (Int32) :=
  if p1 < 0 then
    some (0 : Int32)
  else
    (x_gI h a0 0 6).bind fun x1 =>
    if x1 ≤ p1 then
      some (0 : Int32)
    else
      some (1 : Int32)
set_option maxRecDepth 100000 in
set_option maxHeartbeats 4000000 in
theorem c_X0_hasOne {h : xH} {a0 : Nat} {p1 : Int32} {r9 : Int32} (hE : f_X0_hasOne h a0 p1 = some r9) : Ctr M_X0_hasOne [.ref a0, .int p1] h (some (.int r9)) h 0 0 := by
  refine ctr_of (by decide) (fun _ _ => Nat.le_of_ble_eq_true rfl) (fun S => ?_)
  show Y S M_X0_hasOne h (some (.int r9)) h 0 0 0 [(0, .ref a0), (1, .int p1)] [] h 0 0
  unfold f_X0_hasOne at hE
  refine y_iload_n dX0_hasOne_0 1 rfl ?_
  refine y_if_lt (tgt := 16) dX0_hasOne_1 (by decide) (fun hc3 => ?_) (fun hc3 => ?_)
  · rw [if_pos hc3] at hE
    refine y_iconst (v := (0 : Int32)) dX0_hasOne_16 (by decide) ?_
    obtain rfl := Option.some.inj hE
    exact y_ret dX0_hasOne_17 (Nat.le_refl _) (Nat.le_refl _) ⟨_, rfl, rfl⟩
  · rw [if_neg hc3] at hE
    refine y_iload_n dX0_hasOne_4 1 rfl ?_
    refine y_aload_n dX0_hasOne_5 0 rfl ?_
    obtain ⟨x1, ex1, hE⟩ := Option.bind_eq_some_iff.mp hE
    refine y_getI fl_X0_34 ex1 dX0_hasOne_6 ?_
    refine y_icmp_ge (tgt := 16) dX0_hasOne_9 (by decide) (fun hc2 => ?_) (fun hc2 => ?_)
    · rw [if_pos hc2] at hE
      refine y_iconst (v := (0 : Int32)) dX0_hasOne_16 (by decide) ?_
      obtain rfl := Option.some.inj hE
      exact y_ret dX0_hasOne_17 (Nat.le_refl _) (Nat.le_refl _) ⟨_, rfl, rfl⟩
    · rw [if_neg hc2] at hE
      refine y_iconst (v := (1 : Int32)) dX0_hasOne_12 (by decide) ?_
      refine y_goto (tgt := 17) dX0_hasOne_13 (by decide) ?_
      obtain rfl := Option.some.inj hE
      exact y_ret dX0_hasOne_17 (Nat.le_refl _) (Nat.le_refl _) ⟨_, rfl, rfl⟩
def f_X0_addDoor (h : xH) (a0 : Nat) (p1 : Int32) (p2 : Int32) (p3 : Int32) : Option (Int32 × xH) :=
  (x_gR h a0 0 0).bind fun a1 =>
  (x_gI h a0 0 4).bind fun x2 =>
  (x_st h a1 x2 p1).bind fun h3 =>
  (x_gR h3 a0 0 1).bind fun a4 =>
  (x_gI h3 a0 0 4).bind fun x5 =>
  (x_st h3 a4 x5 p2).bind fun h6 =>
  (x_gR h6 a0 0 2).bind fun a7 =>
  (x_gI h6 a0 0 4).bind fun x8 =>
  (
    if p1 = (1 : Int32) then
      some p2
    else
      some p3
  ).bind fun q9 =>
  (x_st h6 a7 x8 q9).bind fun h11 =>
  (x_gI h11 a0 0 4).bind fun x12 =>
  (x_put h11 a0 0 4 (.int (x12 + (1 : Int32)))).bind fun h13 =>
  (x_gI h13 a0 0 4).bind fun x14 =>
  some ((x14 - (1 : Int32)), h13)
set_option maxRecDepth 100000 in
set_option maxHeartbeats 4000000 in
theorem c_X0_addDoor {h : xH} {a0 : Nat} {p1 : Int32} {p2 : Int32} {p3 : Int32} {r9 : Int32} {hz : xH} (hE : f_X0_addDoor h a0 p1 p2 p3 = some (r9, hz)) : Ctr M_X0_addDoor [.ref a0, .int p1, .int p2, .int p3] h (some (.int r9)) hz 0 0 := by
  refine ctr_of (by decide) (fun _ _ => Nat.le_of_ble_eq_true rfl) (fun S => ?_)
  show Y S M_X0_addDoor h (some (.int r9)) hz 0 0 0 [(0, .ref a0), (1, .int p1), (2, .int p2), (3, .int p3)] [] h 0 0
  unfold f_X0_addDoor at hE
  refine y_aload_n dX0_addDoor_0 0 rfl ?_
  obtain ⟨a1, ea1, hE⟩ := Option.bind_eq_some_iff.mp hE
  refine y_getR fl_X0_9 ea1 dX0_addDoor_1 ?_
  refine y_aload_n dX0_addDoor_4 0 rfl ?_
  obtain ⟨x2, ex2, hE⟩ := Option.bind_eq_some_iff.mp hE
  refine y_getI fl_X0_31 ex2 dX0_addDoor_5 ?_
  refine y_iload_n dX0_addDoor_8 1 rfl ?_
  obtain ⟨h3, eh3, hE⟩ := Option.bind_eq_some_iff.mp hE
  refine y_iast eh3 dX0_addDoor_9 ?_
  refine y_aload_n dX0_addDoor_10 0 rfl ?_
  obtain ⟨a4, ea4, hE⟩ := Option.bind_eq_some_iff.mp hE
  refine y_getR fl_X0_15 ea4 dX0_addDoor_11 ?_
  refine y_aload_n dX0_addDoor_14 0 rfl ?_
  obtain ⟨x5, ex5, hE⟩ := Option.bind_eq_some_iff.mp hE
  refine y_getI fl_X0_31 ex5 dX0_addDoor_15 ?_
  refine y_iload_n dX0_addDoor_18 2 rfl ?_
  obtain ⟨h6, eh6, hE⟩ := Option.bind_eq_some_iff.mp hE
  refine y_iast eh6 dX0_addDoor_19 ?_
  refine y_aload_n dX0_addDoor_20 0 rfl ?_
  obtain ⟨a7, ea7, hE⟩ := Option.bind_eq_some_iff.mp hE
  refine y_getR fl_X0_18 ea7 dX0_addDoor_21 ?_
  refine y_aload_n dX0_addDoor_24 0 rfl ?_
  obtain ⟨x8, ex8, hE⟩ := Option.bind_eq_some_iff.mp hE
  refine y_getI fl_X0_31 ex8 dX0_addDoor_25 ?_
  refine y_iload_n dX0_addDoor_28 1 rfl ?_
  refine y_iconst (v := (1 : Int32)) dX0_addDoor_29 (by decide) ?_
  obtain ⟨q9, eJ, hE⟩ := Option.bind_eq_some_iff.mp hE
  have hJ : Y S M_X0_addDoor h (some (.int r9)) hz 0 0 38 [(0, .ref a0)] [.int q9, .int x8, .ref a7] h6 0 0 := by
    obtain ⟨h11, eh11, hE⟩ := Option.bind_eq_some_iff.mp hE
    refine y_iast eh11 dX0_addDoor_38 ?_
    refine y_aload_n dX0_addDoor_39 0 rfl ?_
    refine y_dup dX0_addDoor_40 rfl ?_
    obtain ⟨x12, ex12, hE⟩ := Option.bind_eq_some_iff.mp hE
    refine y_getI fl_X0_31 ex12 dX0_addDoor_41 ?_
    refine y_iconst (v := (1 : Int32)) dX0_addDoor_44 (by decide) ?_
    refine y_iadd dX0_addDoor_45 ?_
    obtain ⟨h13, eh13, hE⟩ := Option.bind_eq_some_iff.mp hE
    refine y_putI fp_X0_31 eh13 dX0_addDoor_46 ?_
    refine y_aload_n dX0_addDoor_49 0 rfl ?_
    obtain ⟨x14, ex14, hE⟩ := Option.bind_eq_some_iff.mp hE
    refine y_getI fl_X0_31 ex14 dX0_addDoor_50 ?_
    refine y_iconst (v := (1 : Int32)) dX0_addDoor_53 (by decide) ?_
    refine y_isub dX0_addDoor_54 ?_
    obtain ⟨rfl, rfl⟩ := x_inj2 hE
    exact y_ret dX0_addDoor_55 (Nat.le_refl _) (Nat.le_refl _) ⟨_, rfl, rfl⟩
  clear hE
  have hE := eJ
  clear eJ
  refine y_icmp_ne (tgt := 37) dX0_addDoor_30 (by decide) (fun hc10 => ?_) (fun hc10 => ?_)
  · rw [if_pos hc10] at hE
    refine y_iload_n dX0_addDoor_33 2 rfl ?_
    refine y_goto (tgt := 38) dX0_addDoor_34 (by decide) ?_
    obtain rfl := Option.some.inj hE
    exact y_pick [0] rfl hJ
  · rw [if_neg hc10] at hE
    refine y_iload_n dX0_addDoor_37 3 rfl ?_
    obtain rfl := Option.some.inj hE
    exact y_pick [0] rfl hJ
def f_X0_addOne (h : xH) (a0 : Nat) (p1 : Int32) : Option (Int32 × xH) :=
  (x_gR h a0 0 3).bind fun a1 =>
  (x_gI h a0 0 6).bind fun x2 =>
  (x_st h a1 x2 p1).bind fun h3 =>
  (x_gI h3 a0 0 6).bind fun x4 =>
  (x_put h3 a0 0 6 (.int (x4 + (1 : Int32)))).bind fun h5 =>
  (x_gI h5 a0 0 6).bind fun x6 =>
  some ((x6 - (1 : Int32)), h5)
set_option maxRecDepth 100000 in
set_option maxHeartbeats 4000000 in
theorem c_X0_addOne {h : xH} {a0 : Nat} {p1 : Int32} {r9 : Int32} {hz : xH} (hE : f_X0_addOne h a0 p1 = some (r9, hz)) : Ctr M_X0_addOne [.ref a0, .int p1] h (some (.int r9)) hz 0 0 := by
  refine ctr_of (by decide) (fun _ _ => Nat.le_of_ble_eq_true rfl) (fun S => ?_)
  show Y S M_X0_addOne h (some (.int r9)) hz 0 0 0 [(0, .ref a0), (1, .int p1)] [] h 0 0
  unfold f_X0_addOne at hE
  refine y_aload_n dX0_addOne_0 0 rfl ?_
  obtain ⟨a1, ea1, hE⟩ := Option.bind_eq_some_iff.mp hE
  refine y_getR fl_X0_21 ea1 dX0_addOne_1 ?_
  refine y_aload_n dX0_addOne_4 0 rfl ?_
  obtain ⟨x2, ex2, hE⟩ := Option.bind_eq_some_iff.mp hE
  refine y_getI fl_X0_34 ex2 dX0_addOne_5 ?_
  refine y_iload_n dX0_addOne_8 1 rfl ?_
  obtain ⟨h3, eh3, hE⟩ := Option.bind_eq_some_iff.mp hE
  refine y_iast eh3 dX0_addOne_9 ?_
  refine y_aload_n dX0_addOne_10 0 rfl ?_
  refine y_dup dX0_addOne_11 rfl ?_
  obtain ⟨x4, ex4, hE⟩ := Option.bind_eq_some_iff.mp hE
  refine y_getI fl_X0_34 ex4 dX0_addOne_12 ?_
  refine y_iconst (v := (1 : Int32)) dX0_addOne_15 (by decide) ?_
  refine y_iadd dX0_addOne_16 ?_
  obtain ⟨h5, eh5, hE⟩ := Option.bind_eq_some_iff.mp hE
  refine y_putI fp_X0_34 eh5 dX0_addOne_17 ?_
  refine y_aload_n dX0_addOne_20 0 rfl ?_
  obtain ⟨x6, ex6, hE⟩ := Option.bind_eq_some_iff.mp hE
  refine y_getI fl_X0_34 ex6 dX0_addOne_21 ?_
  refine y_iconst (v := (1 : Int32)) dX0_addOne_24 (by decide) ?_
  refine y_isub dX0_addOne_25 ?_
  obtain ⟨rfl, rfl⟩ := x_inj2 hE
  exact y_ret dX0_addOne_26 (Nat.le_refl _) (Nat.le_refl _) ⟨_, rfl, rfl⟩
def f_X0_isOpen (h : xH) (a0 : Nat) (p1 : Int32) : Option (Int32) :=
  (x_gI h a0 0 5).bind fun x1 =>
  if ((i_shr x1 p1) &&& (1 : Int32)) = 0 then
    some (0 : Int32)
  else
    some (1 : Int32)
set_option maxRecDepth 100000 in
set_option maxHeartbeats 4000000 in
theorem c_X0_isOpen {h : xH} {a0 : Nat} {p1 : Int32} {r9 : Int32} (hE : f_X0_isOpen h a0 p1 = some r9) : Ctr M_X0_isOpen [.ref a0, .int p1] h (some (.int r9)) h 0 0 := by
  refine ctr_of (by decide) (fun _ _ => Nat.le_of_ble_eq_true rfl) (fun S => ?_)
  show Y S M_X0_isOpen h (some (.int r9)) h 0 0 0 [(0, .ref a0), (1, .int p1)] [] h 0 0
  unfold f_X0_isOpen at hE
  refine y_aload_n dX0_isOpen_0 0 rfl ?_
  obtain ⟨x1, ex1, hE⟩ := Option.bind_eq_some_iff.mp hE
  refine y_getI fl_X0_37 ex1 dX0_isOpen_1 ?_
  refine y_iload_n dX0_isOpen_4 1 rfl ?_
  refine y_ishr dX0_isOpen_5 ?_
  refine y_iconst (v := (1 : Int32)) dX0_isOpen_6 (by decide) ?_
  refine y_iand dX0_isOpen_7 ?_
  refine y_if_eq (tgt := 15) dX0_isOpen_8 (by decide) (fun hc2 => ?_) (fun hc2 => ?_)
  · rw [if_pos hc2] at hE
    refine y_iconst (v := (0 : Int32)) dX0_isOpen_15 (by decide) ?_
    obtain rfl := Option.some.inj hE
    exact y_ret dX0_isOpen_16 (Nat.le_refl _) (Nat.le_refl _) ⟨_, rfl, rfl⟩
  · rw [if_neg hc2] at hE
    refine y_iconst (v := (1 : Int32)) dX0_isOpen_11 (by decide) ?_
    refine y_goto (tgt := 16) dX0_isOpen_12 (by decide) ?_
    obtain rfl := Option.some.inj hE
    exact y_ret dX0_isOpen_16 (Nat.le_refl _) (Nat.le_refl _) ⟨_, rfl, rfl⟩
def f_X0_weightOf (h : xH) (a0 : Nat) (p1 : Int32) : Option (Int32) :=
  (x_gR h a0 0 0).bind fun a1 =>
  (x_ld h a1 p1).bind fun x2 =>
  (x_tabW x2).bind fun x3 =>
  some x3
set_option maxRecDepth 100000 in
set_option maxHeartbeats 4000000 in
theorem c_X0_weightOf {h : xH} {a0 : Nat} {p1 : Int32} {r9 : Int32} (hE : f_X0_weightOf h a0 p1 = some r9) : Ctr M_X0_weightOf [.ref a0, .int p1] h (some (.int r9)) h 0 0 := by
  refine ctr_of (by decide) (fun _ _ => Nat.le_of_ble_eq_true rfl) (fun S => ?_)
  show Y S M_X0_weightOf h (some (.int r9)) h 0 0 0 [(0, .ref a0), (1, .int p1)] [] h 0 0
  unfold f_X0_weightOf at hE
  refine y_gets (n := "WEIGHTS") (d := "[I") 1 (by decide) (fun _ _ _ _ q => q.2.2.1.1) (Or.inr ⟨"WhoOpensOne", tbn 406 (by decide +kernel) rfl⟩) dX0_weightOf_0 ?_
  refine y_aload_n dX0_weightOf_3 0 rfl ?_
  obtain ⟨a1, ea1, hE⟩ := Option.bind_eq_some_iff.mp hE
  refine y_getR fl_X0_9 ea1 dX0_weightOf_4 ?_
  refine y_iload_n dX0_weightOf_7 1 rfl ?_
  obtain ⟨x2, ex2, hE⟩ := Option.bind_eq_some_iff.mp hE
  refine y_iald ex2 dX0_weightOf_8 ?_
  obtain ⟨x3, ex3, hE⟩ := Option.bind_eq_some_iff.mp hE
  refine y_tW' ex3 dX0_weightOf_9 ?_
  obtain rfl := Option.some.inj hE
  exact y_ret dX0_weightOf_10 (Nat.le_refl _) (Nat.le_refl _) ⟨_, rfl, rfl⟩
def f_X0_isAt (h : xH) (a0 : Nat) (p1 : Int32) (p2 : Int32) : Option (Int32) :=
  (x_gR h a0 0 1).bind fun a1 =>
  (x_ld h a1 p1).bind fun x2 =>
  if x2 = p2 then
    some (1 : Int32)
  else
    (x_gR h a0 0 2).bind fun a3 =>
    (x_ld h a3 p1).bind fun x4 =>
    if x4 = p2 then
      some (1 : Int32)
    else
      some (0 : Int32)
set_option maxRecDepth 100000 in
set_option maxHeartbeats 4000000 in
theorem c_X0_isAt {h : xH} {a0 : Nat} {p1 : Int32} {p2 : Int32} {r9 : Int32} (hE : f_X0_isAt h a0 p1 p2 = some r9) : Ctr M_X0_isAt [.ref a0, .int p1, .int p2] h (some (.int r9)) h 0 0 := by
  refine ctr_of (by decide) (fun _ _ => Nat.le_of_ble_eq_true rfl) (fun S => ?_)
  show Y S M_X0_isAt h (some (.int r9)) h 0 0 0 [(0, .ref a0), (1, .int p1), (2, .int p2)] [] h 0 0
  unfold f_X0_isAt at hE
  refine y_aload_n dX0_isAt_0 0 rfl ?_
  obtain ⟨a1, ea1, hE⟩ := Option.bind_eq_some_iff.mp hE
  refine y_getR fl_X0_15 ea1 dX0_isAt_1 ?_
  refine y_iload_n dX0_isAt_4 1 rfl ?_
  obtain ⟨x2, ex2, hE⟩ := Option.bind_eq_some_iff.mp hE
  refine y_iald ex2 dX0_isAt_5 ?_
  refine y_iload_n dX0_isAt_6 2 rfl ?_
  refine y_icmp_eq (tgt := 20) dX0_isAt_7 (by decide) (fun hc6 => ?_) (fun hc6 => ?_)
  · rw [if_pos hc6] at hE
    refine y_iconst (v := (1 : Int32)) dX0_isAt_20 (by decide) ?_
    refine y_goto (tgt := 25) dX0_isAt_21 (by decide) ?_
    obtain rfl := Option.some.inj hE
    exact y_ret dX0_isAt_25 (Nat.le_refl _) (Nat.le_refl _) ⟨_, rfl, rfl⟩
  · rw [if_neg hc6] at hE
    refine y_aload_n dX0_isAt_10 0 rfl ?_
    obtain ⟨a3, ea3, hE⟩ := Option.bind_eq_some_iff.mp hE
    refine y_getR fl_X0_18 ea3 dX0_isAt_11 ?_
    refine y_iload_n dX0_isAt_14 1 rfl ?_
    obtain ⟨x4, ex4, hE⟩ := Option.bind_eq_some_iff.mp hE
    refine y_iald ex4 dX0_isAt_15 ?_
    refine y_iload_n dX0_isAt_16 2 rfl ?_
    refine y_icmp_ne (tgt := 24) dX0_isAt_17 (by decide) (fun hc5 => ?_) (fun hc5 => ?_)
    · rw [if_pos hc5] at hE
      refine y_iconst (v := (1 : Int32)) dX0_isAt_20 (by decide) ?_
      refine y_goto (tgt := 25) dX0_isAt_21 (by decide) ?_
      obtain rfl := Option.some.inj hE
      exact y_ret dX0_isAt_25 (Nat.le_refl _) (Nat.le_refl _) ⟨_, rfl, rfl⟩
    · rw [if_neg hc5] at hE
      refine y_iconst (v := (0 : Int32)) dX0_isAt_24 (by decide) ?_
      obtain rfl := Option.some.inj hE
      exact y_ret dX0_isAt_25 (Nat.le_refl _) (Nat.le_refl _) ⟨_, rfl, rfl⟩
def f_X0_doorsAt_L4 (h : xH) (v0 : Nat) (v1 : Int32) : Nat → Int32 → Int32 → Option (Int32)
  | 0, _, _ => none
  | k + 1, v2, v3 =>
    (x_gI h v0 0 4).bind fun x1 =>
    if x1 ≤ v3 then
      some v2
    else
      (x_ob h v0 0).bind fun u2 =>
      (f_X0_isAt h v0 v3 v1).bind fun q3 =>
      if q3 = 0 then
        (some (v3 + (1 : Int32))).bind fun x4 =>
        f_X0_doorsAt_L4 h v0 v1 k v2 x4
      else
        (some (v2 ||| (i_shl (1 : Int32) v3))).bind fun x5 =>
        (some (v3 + (1 : Int32))).bind fun x6 =>
        f_X0_doorsAt_L4 h v0 v1 k x5 x6
set_option maxRecDepth 100000 in
set_option maxHeartbeats 4000000 in
theorem l_X0_doorsAt_4 {S : Nat × (Nat → Int32)} {rv : Option Value} {h0 h1 : xH} {mc ms : Nat} {cells slots : Nat} (hm : cells ≤ mc ∧ slots ≤ ms) (h : xH) (v0 : Nat) (v1 : Int32) : ∀ (k : Nat) (v2 : Int32) (v3 : Int32) (res : Int32), f_X0_doorsAt_L4 h v0 v1 k v2 v3 = some res → (∀ r9, res = r9 → Y S M_X0_doorsAt h0 rv h1 mc ms 33 [(2, .int r9)] [] h cells slots) → Y S M_X0_doorsAt h0 rv h1 mc ms 4 [(0, .ref v0), (1, .int v1), (2, .int v2), (3, .int v3)] [] h cells slots := by
  intro k
  induction k with
  | zero =>
    intro _ _ _ hE
    cases hE
  | succ k ih =>
    intro v2 v3 res hE K
    unfold f_X0_doorsAt_L4 at hE
    refine y_iload_n dX0_doorsAt_4 3 rfl ?_
    refine y_aload_n dX0_doorsAt_5 0 rfl ?_
    obtain ⟨x1, ex1, hE⟩ := Option.bind_eq_some_iff.mp hE
    refine y_getI fl_X0_31 ex1 dX0_doorsAt_6 ?_
    refine y_icmp_ge (tgt := 33) dX0_doorsAt_9 (by decide) (fun hc8 => ?_) (fun hc8 => ?_)
    · rw [if_pos hc8] at hE
      obtain rfl := Option.some.inj hE
      exact y_pick [2] rfl (K _ rfl)
    · rw [if_neg hc8] at hE
      refine y_aload_n dX0_doorsAt_12 0 rfl ?_
      refine y_iload_n dX0_doorsAt_13 3 rfl ?_
      refine y_iload_n dX0_doorsAt_14 1 rfl ?_
      obtain ⟨u2, eu2, hE⟩ := Option.bind_eq_some_iff.mp hE
      obtain ⟨q3, eq3, hE⟩ := Option.bind_eq_some_iff.mp hE
      refine y_cVi0 (st := []) (as := [.int v3, .int v1]) (c_X0_isAt eq3) lk_X0_49 in_X0_isAt se_X0_isAt rfl eu2 ⟨Nat.le_of_ble_eq_true rfl, Nat.le_of_ble_eq_true rfl⟩ (Nat.le_of_ble_eq_true rfl) dX0_doorsAt_15 hm rfl ?_
      refine y_if_eq (tgt := 27) dX0_doorsAt_18 (by decide) (fun hc7 => ?_) (fun hc7 => ?_)
      · rw [if_pos hc7] at hE
        obtain ⟨x4, ex4, hE⟩ := Option.bind_eq_some_iff.mp hE
        refine y_iinc (ls' := [(3, .int x4), (0, .ref v0), (1, .int v1), (2, .int v2)]) dX0_doorsAt_27 3 rfl (Option.some.inj ex4) (by decide) rfl ?_
        refine y_goto (tgt := 4) dX0_doorsAt_30 (by decide) ?_
        refine y_pick [1, 2, 3, 0] rfl ?_
        exact ih _ _ _ hE K
      · rw [if_neg hc7] at hE
        refine y_iload_n dX0_doorsAt_21 2 rfl ?_
        refine y_iconst (v := (1 : Int32)) dX0_doorsAt_22 (by decide) ?_
        refine y_iload_n dX0_doorsAt_23 3 rfl ?_
        refine y_ishl dX0_doorsAt_24 ?_
        refine y_ior dX0_doorsAt_25 ?_
        obtain ⟨x5, ex5, hE⟩ := Option.bind_eq_some_iff.mp hE
        refine y_istore_n (ls' := [(2, .int x5), (0, .ref v0), (1, .int v1), (3, .int v3)]) dX0_doorsAt_26 (by decide) (Option.some.inj ex5) rfl ?_
        obtain ⟨x6, ex6, hE⟩ := Option.bind_eq_some_iff.mp hE
        refine y_iinc (ls' := [(3, .int x6), (2, .int x5), (0, .ref v0), (1, .int v1)]) dX0_doorsAt_27 3 rfl (Option.some.inj ex6) (by decide) rfl ?_
        refine y_goto (tgt := 4) dX0_doorsAt_30 (by decide) ?_
        refine y_pick [2, 3, 1, 0] rfl ?_
        exact ih _ _ _ hE K
def f_X0_doorsAt (n : Nat) (h : xH) (a0 : Nat) (p1 : Int32) : Option (Int32) :=
  (f_X0_doorsAt_L4 h a0 p1 n (0 : Int32) (0 : Int32)).bind fun q9 =>
  some q9
set_option maxRecDepth 100000 in
set_option maxHeartbeats 4000000 in
theorem c_X0_doorsAt {n : Nat} {h : xH} {a0 : Nat} {p1 : Int32} {r9 : Int32} (hE : f_X0_doorsAt n h a0 p1 = some r9) : Ctr M_X0_doorsAt [.ref a0, .int p1] h (some (.int r9)) h 0 0 := by
  refine ctr_of (by decide) (fun _ _ => Nat.le_of_ble_eq_true rfl) (fun S => ?_)
  show Y S M_X0_doorsAt h (some (.int r9)) h 0 0 0 [(0, .ref a0), (1, .int p1)] [] h 0 0
  unfold f_X0_doorsAt at hE
  refine y_iconst (v := (0 : Int32)) dX0_doorsAt_0 (by decide) ?_
  refine y_istore_n (ls' := [(2, .int (0 : Int32)), (0, .ref a0), (1, .int p1)]) dX0_doorsAt_1 (by decide) rfl rfl ?_
  refine y_iconst (v := (0 : Int32)) dX0_doorsAt_2 (by decide) ?_
  refine y_istore_n (ls' := [(3, .int (0 : Int32)), (2, .int (0 : Int32)), (0, .ref a0), (1, .int p1)]) dX0_doorsAt_3 (by decide) rfl rfl ?_
  obtain ⟨q9, eq9, hE⟩ := Option.bind_eq_some_iff.mp hE
  refine y_pick [2, 3, 1, 0] rfl ?_
  refine l_X0_doorsAt_4 (S := S) ⟨Nat.le_refl _, Nat.le_refl _⟩ h a0 p1 n (0 : Int32) (0 : Int32) _ eq9 (fun r8 hr8 => ?_)
  subst hr8
  refine y_iload_n dX0_doorsAt_33 0 rfl ?_
  obtain rfl := Option.some.inj hE
  exact y_ret dX0_doorsAt_34 (Nat.le_refl _) (Nat.le_refl _) ⟨_, rfl, rfl⟩
def f_X0_someoneIn_L2 (h : xH) (v0 : Nat) (v1 : Int32) : Nat → Int32 → Option (Sum (Int32) (Unit))
  | 0, _ => none
  | k + 1, v2 =>
    (x_gI h v0 0 6).bind fun x1 =>
    if x1 ≤ v2 then
      some (.inr ())
    else
      (x_gR h v0 0 3).bind fun a2 =>
      (x_ld h a2 v2).bind fun x3 =>
      if x3 = v1 then
        some (.inl (1 : Int32))
      else
        (some (v2 + (1 : Int32))).bind fun x4 =>
        f_X0_someoneIn_L2 h v0 v1 k x4
set_option maxRecDepth 100000 in
set_option maxHeartbeats 4000000 in
theorem l_X0_someoneIn_2 {S : Nat × (Nat → Int32)} {rv : Option Value} {h0 h1 : xH} {mc ms : Nat} {cells slots : Nat} (hm : cells ≤ mc ∧ slots ≤ ms) (h : xH) (v0 : Nat) (v1 : Int32) : ∀ (k : Nat) (v2 : Int32) (res : Sum (Int32) (Unit)), f_X0_someoneIn_L2 h v0 v1 k v2 = some res → (∀ r9, res = .inl r9 → rv = some (.int r9) ∧ h1 = h) → (∀ r9, res = .inr r9 → Y S M_X0_someoneIn h0 rv h1 mc ms 28 [] [] h cells slots) → Y S M_X0_someoneIn h0 rv h1 mc ms 2 [(0, .ref v0), (1, .int v1), (2, .int v2)] [] h cells slots := by
  intro k
  induction k with
  | zero =>
    intro _ _ hE
    cases hE
  | succ k ih =>
    intro v2 res hE KR K
    unfold f_X0_someoneIn_L2 at hE
    refine y_iload_n dX0_someoneIn_2 2 rfl ?_
    refine y_aload_n dX0_someoneIn_3 0 rfl ?_
    obtain ⟨x1, ex1, hE⟩ := Option.bind_eq_some_iff.mp hE
    refine y_getI fl_X0_34 ex1 dX0_someoneIn_4 ?_
    refine y_icmp_ge (tgt := 28) dX0_someoneIn_7 (by decide) (fun hc6 => ?_) (fun hc6 => ?_)
    · rw [if_pos hc6] at hE
      obtain rfl := Option.some.inj hE
      exact y_pick [] rfl (K _ rfl)
    · rw [if_neg hc6] at hE
      refine y_aload_n dX0_someoneIn_10 0 rfl ?_
      obtain ⟨a2, ea2, hE⟩ := Option.bind_eq_some_iff.mp hE
      refine y_getR fl_X0_21 ea2 dX0_someoneIn_11 ?_
      refine y_iload_n dX0_someoneIn_14 2 rfl ?_
      obtain ⟨x3, ex3, hE⟩ := Option.bind_eq_some_iff.mp hE
      refine y_iald ex3 dX0_someoneIn_15 ?_
      refine y_iload_n dX0_someoneIn_16 1 rfl ?_
      refine y_icmp_ne (tgt := 22) dX0_someoneIn_17 (by decide) (fun hc5 => ?_) (fun hc5 => ?_)
      · rw [if_pos hc5] at hE
        refine y_iconst (v := (1 : Int32)) dX0_someoneIn_20 (by decide) ?_
        obtain rfl := Option.some.inj hE
        obtain ⟨rfl, rfl⟩ := KR _ rfl
        exact y_ret dX0_someoneIn_21 hm.1 hm.2 ⟨_, rfl, rfl⟩
      · rw [if_neg hc5] at hE
        obtain ⟨x4, ex4, hE⟩ := Option.bind_eq_some_iff.mp hE
        refine y_iinc (ls' := [(2, .int x4), (0, .ref v0), (1, .int v1)]) dX0_someoneIn_22 2 rfl (Option.some.inj ex4) (by decide) rfl ?_
        refine y_goto (tgt := 2) dX0_someoneIn_25 (by decide) ?_
        refine y_pick [1, 2, 0] rfl ?_
        exact ih _ _ hE KR K
def f_X0_someoneIn (n : Nat) (h : xH) (a0 : Nat) (p1 : Int32) : Option (Int32) :=
  (f_X0_someoneIn_L2 h a0 p1 n (0 : Int32)).bind fun q7 =>
  match q7 with
  | .inl r8 => some r8
  | .inr e9 =>
    some (0 : Int32)
set_option maxRecDepth 100000 in
set_option maxHeartbeats 4000000 in
theorem c_X0_someoneIn {n : Nat} {h : xH} {a0 : Nat} {p1 : Int32} {r9 : Int32} (hE : f_X0_someoneIn n h a0 p1 = some r9) : Ctr M_X0_someoneIn [.ref a0, .int p1] h (some (.int r9)) h 0 0 := by
  refine ctr_of (by decide) (fun _ _ => Nat.le_of_ble_eq_true rfl) (fun S => ?_)
  show Y S M_X0_someoneIn h (some (.int r9)) h 0 0 0 [(0, .ref a0), (1, .int p1)] [] h 0 0
  unfold f_X0_someoneIn at hE
  refine y_iconst (v := (0 : Int32)) dX0_someoneIn_0 (by decide) ?_
  refine y_istore_n (ls' := [(2, .int (0 : Int32)), (0, .ref a0), (1, .int p1)]) dX0_someoneIn_1 (by decide) rfl rfl ?_
  obtain ⟨q7, eq7, hE⟩ := Option.bind_eq_some_iff.mp hE
  refine y_pick [1, 2, 0] rfl ?_
  cases q7 with
  | inl r8 =>
    dsimp only at hE
    cases hE
    exact l_X0_someoneIn_2 (S := S) ⟨Nat.le_refl _, Nat.le_refl _⟩ h a0 p1 n (0 : Int32) _ eq7 (fun r8 hr8 => by cases hr8; exact ⟨rfl, rfl⟩) (fun r8 hr8 => by cases hr8)
  | inr e9 =>
    dsimp only at hE
    refine l_X0_someoneIn_2 (S := S) ⟨Nat.le_refl _, Nat.le_refl _⟩ h a0 p1 n (0 : Int32) _ eq7 (fun r8 hr8 => by cases hr8) (fun r8 hr8 => ?_)
    cases hr8
    refine y_iconst (v := (0 : Int32)) dX0_someoneIn_28 (by decide) ?_
    obtain rfl := Option.some.inj hE
    exact y_ret dX0_someoneIn_29 (Nat.le_refl _) (Nat.le_refl _) ⟨_, rfl, rfl⟩
def f_X0_shutsFrom (h : xH) (a0 : Nat) (p1 : Int32) (p2 : Int32) : Option (Int32) :=
  (x_gR h a0 0 0).bind fun a1 =>
  (x_ld h a1 p1).bind fun x2 =>
  if x2 = (4 : Int32) then
    (x_gR h a0 0 2).bind fun a3 =>
    (x_ld h a3 p1).bind fun x4 =>
    if x4 = p2 then
      some (1 : Int32)
    else
      some (0 : Int32)
  else
    (x_gR h a0 0 0).bind fun a6 =>
    (x_ld h a6 p1).bind fun x7 =>
    if x7 = (5 : Int32) then
      some (0 : Int32)
    else
      (x_ob h a0 0).bind fun u8 =>
      (f_X0_isAt h a0 p1 p2).bind fun q9 =>
      if q9 = 0 then
        some (0 : Int32)
      else
        some (1 : Int32)
set_option maxRecDepth 100000 in
set_option maxHeartbeats 4000000 in
theorem c_X0_shutsFrom {h : xH} {a0 : Nat} {p1 : Int32} {p2 : Int32} {r9 : Int32} (hE : f_X0_shutsFrom h a0 p1 p2 = some r9) : Ctr M_X0_shutsFrom [.ref a0, .int p1, .int p2] h (some (.int r9)) h 0 0 := by
  refine ctr_of (by decide) (fun _ _ => Nat.le_of_ble_eq_true rfl) (fun S => ?_)
  show Y S M_X0_shutsFrom h (some (.int r9)) h 0 0 0 [(0, .ref a0), (1, .int p1), (2, .int p2)] [] h 0 0
  unfold f_X0_shutsFrom at hE
  refine y_aload_n dX0_shutsFrom_0 0 rfl ?_
  obtain ⟨a1, ea1, hE⟩ := Option.bind_eq_some_iff.mp hE
  refine y_getR fl_X0_9 ea1 dX0_shutsFrom_1 ?_
  refine y_iload_n dX0_shutsFrom_4 1 rfl ?_
  obtain ⟨x2, ex2, hE⟩ := Option.bind_eq_some_iff.mp hE
  refine y_iald ex2 dX0_shutsFrom_5 ?_
  refine y_iconst (v := (4 : Int32)) dX0_shutsFrom_6 (by decide) ?_
  refine y_icmp_ne (tgt := 26) dX0_shutsFrom_7 (by decide) (fun hc12 => ?_) (fun hc12 => ?_)
  · rw [if_pos hc12] at hE
    refine y_aload_n dX0_shutsFrom_10 0 rfl ?_
    obtain ⟨a3, ea3, hE⟩ := Option.bind_eq_some_iff.mp hE
    refine y_getR fl_X0_18 ea3 dX0_shutsFrom_11 ?_
    refine y_iload_n dX0_shutsFrom_14 1 rfl ?_
    obtain ⟨x4, ex4, hE⟩ := Option.bind_eq_some_iff.mp hE
    refine y_iald ex4 dX0_shutsFrom_15 ?_
    refine y_iload_n dX0_shutsFrom_16 2 rfl ?_
    refine y_icmp_ne (tgt := 24) dX0_shutsFrom_17 (by decide) (fun hc5 => ?_) (fun hc5 => ?_)
    · rw [if_pos hc5] at hE
      refine y_iconst (v := (1 : Int32)) dX0_shutsFrom_20 (by decide) ?_
      refine y_goto (tgt := 25) dX0_shutsFrom_21 (by decide) ?_
      obtain rfl := Option.some.inj hE
      exact y_ret dX0_shutsFrom_25 (Nat.le_refl _) (Nat.le_refl _) ⟨_, rfl, rfl⟩
    · rw [if_neg hc5] at hE
      refine y_iconst (v := (0 : Int32)) dX0_shutsFrom_24 (by decide) ?_
      obtain rfl := Option.some.inj hE
      exact y_ret dX0_shutsFrom_25 (Nat.le_refl _) (Nat.le_refl _) ⟨_, rfl, rfl⟩
  · rw [if_neg hc12] at hE
    refine y_aload_n dX0_shutsFrom_26 0 rfl ?_
    obtain ⟨a6, ea6, hE⟩ := Option.bind_eq_some_iff.mp hE
    refine y_getR fl_X0_9 ea6 dX0_shutsFrom_27 ?_
    refine y_iload_n dX0_shutsFrom_30 1 rfl ?_
    obtain ⟨x7, ex7, hE⟩ := Option.bind_eq_some_iff.mp hE
    refine y_iald ex7 dX0_shutsFrom_31 ?_
    refine y_iconst (v := (5 : Int32)) dX0_shutsFrom_32 (by decide) ?_
    refine y_icmp_eq (tgt := 49) dX0_shutsFrom_33 (by decide) (fun hc11 => ?_) (fun hc11 => ?_)
    · rw [if_pos hc11] at hE
      refine y_iconst (v := (0 : Int32)) dX0_shutsFrom_49 (by decide) ?_
      obtain rfl := Option.some.inj hE
      exact y_ret dX0_shutsFrom_50 (Nat.le_refl _) (Nat.le_refl _) ⟨_, rfl, rfl⟩
    · rw [if_neg hc11] at hE
      refine y_aload_n dX0_shutsFrom_36 0 rfl ?_
      refine y_iload_n dX0_shutsFrom_37 1 rfl ?_
      refine y_iload_n dX0_shutsFrom_38 2 rfl ?_
      obtain ⟨u8, eu8, hE⟩ := Option.bind_eq_some_iff.mp hE
      obtain ⟨q9, eq9, hE⟩ := Option.bind_eq_some_iff.mp hE
      refine y_cVi0 (st := []) (as := [.int p1, .int p2]) (c_X0_isAt eq9) lk_X0_49 in_X0_isAt se_X0_isAt rfl eu8 ⟨Nat.le_of_ble_eq_true rfl, Nat.le_of_ble_eq_true rfl⟩ (Nat.le_of_ble_eq_true rfl) dX0_shutsFrom_39 ⟨Nat.le_refl _, Nat.le_refl _⟩ rfl ?_
      refine y_if_eq (tgt := 49) dX0_shutsFrom_42 (by decide) (fun hc10 => ?_) (fun hc10 => ?_)
      · rw [if_pos hc10] at hE
        refine y_iconst (v := (0 : Int32)) dX0_shutsFrom_49 (by decide) ?_
        obtain rfl := Option.some.inj hE
        exact y_ret dX0_shutsFrom_50 (Nat.le_refl _) (Nat.le_refl _) ⟨_, rfl, rfl⟩
      · rw [if_neg hc10] at hE
        refine y_iconst (v := (1 : Int32)) dX0_shutsFrom_45 (by decide) ?_
        refine y_goto (tgt := 50) dX0_shutsFrom_46 (by decide) ?_
        obtain rfl := Option.some.inj hE
        exact y_ret dX0_shutsFrom_50 (Nat.le_refl _) (Nat.le_refl _) ⟨_, rfl, rfl⟩
def f_X0_opensFrom (h : xH) (a0 : Nat) (p1 : Int32) (p2 : Int32) : Option (Int32) :=
  (x_gR h a0 0 0).bind fun a1 =>
  (x_ld h a1 p1).bind fun x2 =>
  if x2 = (3 : Int32) then
    (x_gR h a0 0 1).bind fun a3 =>
    (x_ld h a3 p1).bind fun x4 =>
    if x4 = p2 then
      some (1 : Int32)
    else
      some (0 : Int32)
  else
    (x_ob h a0 0).bind fun u6 =>
    (f_X0_isAt h a0 p1 p2).bind fun q7 =>
    (x_bool q7).bind fun x8 =>
    some x8
set_option maxRecDepth 100000 in
set_option maxHeartbeats 4000000 in
theorem c_X0_opensFrom {h : xH} {a0 : Nat} {p1 : Int32} {p2 : Int32} {r9 : Int32} (hE : f_X0_opensFrom h a0 p1 p2 = some r9) : Ctr M_X0_opensFrom [.ref a0, .int p1, .int p2] h (some (.int r9)) h 0 0 := by
  refine ctr_of (by decide) (fun _ _ => Nat.le_of_ble_eq_true rfl) (fun S => ?_)
  show Y S M_X0_opensFrom h (some (.int r9)) h 0 0 0 [(0, .ref a0), (1, .int p1), (2, .int p2)] [] h 0 0
  unfold f_X0_opensFrom at hE
  refine y_aload_n dX0_opensFrom_0 0 rfl ?_
  obtain ⟨a1, ea1, hE⟩ := Option.bind_eq_some_iff.mp hE
  refine y_getR fl_X0_9 ea1 dX0_opensFrom_1 ?_
  refine y_iload_n dX0_opensFrom_4 1 rfl ?_
  obtain ⟨x2, ex2, hE⟩ := Option.bind_eq_some_iff.mp hE
  refine y_iald ex2 dX0_opensFrom_5 ?_
  refine y_iconst (v := (3 : Int32)) dX0_opensFrom_6 (by decide) ?_
  refine y_icmp_ne (tgt := 28) dX0_opensFrom_7 (by decide) (fun hc9 => ?_) (fun hc9 => ?_)
  · rw [if_pos hc9] at hE
    refine y_aload_n dX0_opensFrom_10 0 rfl ?_
    obtain ⟨a3, ea3, hE⟩ := Option.bind_eq_some_iff.mp hE
    refine y_getR fl_X0_15 ea3 dX0_opensFrom_11 ?_
    refine y_iload_n dX0_opensFrom_14 1 rfl ?_
    obtain ⟨x4, ex4, hE⟩ := Option.bind_eq_some_iff.mp hE
    refine y_iald ex4 dX0_opensFrom_15 ?_
    refine y_iload_n dX0_opensFrom_16 2 rfl ?_
    refine y_icmp_ne (tgt := 24) dX0_opensFrom_17 (by decide) (fun hc5 => ?_) (fun hc5 => ?_)
    · rw [if_pos hc5] at hE
      refine y_iconst (v := (1 : Int32)) dX0_opensFrom_20 (by decide) ?_
      refine y_goto (tgt := 34) dX0_opensFrom_21 (by decide) ?_
      obtain rfl := Option.some.inj hE
      exact y_ret dX0_opensFrom_34 (Nat.le_refl _) (Nat.le_refl _) ⟨_, rfl, rfl⟩
    · rw [if_neg hc5] at hE
      refine y_iconst (v := (0 : Int32)) dX0_opensFrom_24 (by decide) ?_
      refine y_goto (tgt := 34) dX0_opensFrom_25 (by decide) ?_
      obtain rfl := Option.some.inj hE
      exact y_ret dX0_opensFrom_34 (Nat.le_refl _) (Nat.le_refl _) ⟨_, rfl, rfl⟩
  · rw [if_neg hc9] at hE
    refine y_aload_n dX0_opensFrom_28 0 rfl ?_
    refine y_iload_n dX0_opensFrom_29 1 rfl ?_
    refine y_iload_n dX0_opensFrom_30 2 rfl ?_
    obtain ⟨u6, eu6, hE⟩ := Option.bind_eq_some_iff.mp hE
    obtain ⟨q7, eq7, hE⟩ := Option.bind_eq_some_iff.mp hE
    refine y_cVi0 (st := []) (as := [.int p1, .int p2]) (c_X0_isAt eq7) lk_X0_49 in_X0_isAt se_X0_isAt rfl eu6 ⟨Nat.le_of_ble_eq_true rfl, Nat.le_of_ble_eq_true rfl⟩ (Nat.le_of_ble_eq_true rfl) dX0_opensFrom_31 ⟨Nat.le_refl _, Nat.le_refl _⟩ rfl ?_
    obtain ⟨x8, ex8, hE⟩ := Option.bind_eq_some_iff.mp hE
    obtain ⟨e9, hnb⟩ := x_bool.spec ex8
    rw [e9]
    obtain rfl := Option.some.inj hE
    exact y_ret dX0_opensFrom_34 (Nat.le_refl _) (Nat.le_refl _) ⟨_, rfl, hnb⟩
def f_X0_mayShut (h : xH) (a0 : Nat) (p1 : Int32) (p2 : Int32) : Option (Int32) :=
  (x_ob h a0 0).bind fun u1 =>
  (f_X0_isOpen h a0 p2).bind fun q2 =>
  if q2 = 0 then
    some (0 : Int32)
  else
    (x_gR h a0 0 3).bind fun a3 =>
    (x_ld h a3 p1).bind fun x4 =>
    (x_ob h a0 0).bind fun u5 =>
    (f_X0_shutsFrom h a0 p2 x4).bind fun q6 =>
    if q6 = 0 then
      some (0 : Int32)
    else
      some (1 : Int32)
set_option maxRecDepth 100000 in
set_option maxHeartbeats 4000000 in
theorem c_X0_mayShut {h : xH} {a0 : Nat} {p1 : Int32} {p2 : Int32} {r9 : Int32} (hE : f_X0_mayShut h a0 p1 p2 = some r9) : Ctr M_X0_mayShut [.ref a0, .int p1, .int p2] h (some (.int r9)) h 0 0 := by
  refine ctr_of (by decide) (fun _ _ => Nat.le_of_ble_eq_true rfl) (fun S => ?_)
  show Y S M_X0_mayShut h (some (.int r9)) h 0 0 0 [(0, .ref a0), (1, .int p1), (2, .int p2)] [] h 0 0
  unfold f_X0_mayShut at hE
  refine y_aload_n dX0_mayShut_0 0 rfl ?_
  refine y_iload_n dX0_mayShut_1 2 rfl ?_
  obtain ⟨u1, eu1, hE⟩ := Option.bind_eq_some_iff.mp hE
  obtain ⟨q2, eq2, hE⟩ := Option.bind_eq_some_iff.mp hE
  refine y_cVi0 (st := []) (as := [.int p2]) (c_X0_isOpen eq2) lk_X0_53 in_X0_isOpen se_X0_isOpen rfl eu1 ⟨Nat.le_of_ble_eq_true rfl, Nat.le_of_ble_eq_true rfl⟩ (Nat.le_of_ble_eq_true rfl) dX0_mayShut_2 ⟨Nat.le_refl _, Nat.le_refl _⟩ rfl ?_
  refine y_if_eq (tgt := 26) dX0_mayShut_5 (by decide) (fun hc8 => ?_) (fun hc8 => ?_)
  · rw [if_pos hc8] at hE
    refine y_iconst (v := (0 : Int32)) dX0_mayShut_26 (by decide) ?_
    obtain rfl := Option.some.inj hE
    exact y_ret dX0_mayShut_27 (Nat.le_refl _) (Nat.le_refl _) ⟨_, rfl, rfl⟩
  · rw [if_neg hc8] at hE
    refine y_aload_n dX0_mayShut_8 0 rfl ?_
    refine y_iload_n dX0_mayShut_9 2 rfl ?_
    refine y_aload_n dX0_mayShut_10 0 rfl ?_
    obtain ⟨a3, ea3, hE⟩ := Option.bind_eq_some_iff.mp hE
    refine y_getR fl_X0_21 ea3 dX0_mayShut_11 ?_
    refine y_iload_n dX0_mayShut_14 1 rfl ?_
    obtain ⟨x4, ex4, hE⟩ := Option.bind_eq_some_iff.mp hE
    refine y_iald ex4 dX0_mayShut_15 ?_
    obtain ⟨u5, eu5, hE⟩ := Option.bind_eq_some_iff.mp hE
    obtain ⟨q6, eq6, hE⟩ := Option.bind_eq_some_iff.mp hE
    refine y_cVi0 (st := []) (as := [.int p2, .int x4]) (c_X0_shutsFrom eq6) lk_X0_57 in_X0_shutsFrom se_X0_shutsFrom rfl eu5 ⟨Nat.le_of_ble_eq_true rfl, Nat.le_of_ble_eq_true rfl⟩ (Nat.le_of_ble_eq_true rfl) dX0_mayShut_16 ⟨Nat.le_refl _, Nat.le_refl _⟩ rfl ?_
    refine y_if_eq (tgt := 26) dX0_mayShut_19 (by decide) (fun hc7 => ?_) (fun hc7 => ?_)
    · rw [if_pos hc7] at hE
      refine y_iconst (v := (0 : Int32)) dX0_mayShut_26 (by decide) ?_
      obtain rfl := Option.some.inj hE
      exact y_ret dX0_mayShut_27 (Nat.le_refl _) (Nat.le_refl _) ⟨_, rfl, rfl⟩
    · rw [if_neg hc7] at hE
      refine y_iconst (v := (1 : Int32)) dX0_mayShut_22 (by decide) ?_
      refine y_goto (tgt := 27) dX0_mayShut_23 (by decide) ?_
      obtain rfl := Option.some.inj hE
      exact y_ret dX0_mayShut_27 (Nat.le_refl _) (Nat.le_refl _) ⟨_, rfl, rfl⟩
def f_X0_mayWalk (h : xH) (a0 : Nat) (p1 : Int32) (p2 : Int32) : Option (Int32) :=
  (x_ob h a0 0).bind fun u1 =>
  (f_X0_isOpen h a0 p2).bind fun q2 =>
  if q2 = 0 then
    some (0 : Int32)
  else
    (x_gR h a0 0 0).bind fun a3 =>
    (x_ld h a3 p2).bind fun x4 =>
    if x4 = (1 : Int32) then
      some (0 : Int32)
    else
      (x_gR h a0 0 3).bind fun a5 =>
      (x_ld h a5 p1).bind fun x6 =>
      (x_ob h a0 0).bind fun u7 =>
      (f_X0_isAt h a0 p2 x6).bind fun q8 =>
      if q8 = 0 then
        some (0 : Int32)
      else
        some (1 : Int32)
set_option maxRecDepth 100000 in
set_option maxHeartbeats 4000000 in
theorem c_X0_mayWalk {h : xH} {a0 : Nat} {p1 : Int32} {p2 : Int32} {r9 : Int32} (hE : f_X0_mayWalk h a0 p1 p2 = some r9) : Ctr M_X0_mayWalk [.ref a0, .int p1, .int p2] h (some (.int r9)) h 0 0 := by
  refine ctr_of (by decide) (fun _ _ => Nat.le_of_ble_eq_true rfl) (fun S => ?_)
  show Y S M_X0_mayWalk h (some (.int r9)) h 0 0 0 [(0, .ref a0), (1, .int p1), (2, .int p2)] [] h 0 0
  unfold f_X0_mayWalk at hE
  refine y_aload_n dX0_mayWalk_0 0 rfl ?_
  refine y_iload_n dX0_mayWalk_1 2 rfl ?_
  obtain ⟨u1, eu1, hE⟩ := Option.bind_eq_some_iff.mp hE
  obtain ⟨q2, eq2, hE⟩ := Option.bind_eq_some_iff.mp hE
  refine y_cVi0 (st := []) (as := [.int p2]) (c_X0_isOpen eq2) lk_X0_53 in_X0_isOpen se_X0_isOpen rfl eu1 ⟨Nat.le_of_ble_eq_true rfl, Nat.le_of_ble_eq_true rfl⟩ (Nat.le_of_ble_eq_true rfl) dX0_mayWalk_2 ⟨Nat.le_refl _, Nat.le_refl _⟩ rfl ?_
  refine y_if_eq (tgt := 36) dX0_mayWalk_5 (by decide) (fun hc11 => ?_) (fun hc11 => ?_)
  · rw [if_pos hc11] at hE
    refine y_iconst (v := (0 : Int32)) dX0_mayWalk_36 (by decide) ?_
    obtain rfl := Option.some.inj hE
    exact y_ret dX0_mayWalk_37 (Nat.le_refl _) (Nat.le_refl _) ⟨_, rfl, rfl⟩
  · rw [if_neg hc11] at hE
    refine y_aload_n dX0_mayWalk_8 0 rfl ?_
    obtain ⟨a3, ea3, hE⟩ := Option.bind_eq_some_iff.mp hE
    refine y_getR fl_X0_9 ea3 dX0_mayWalk_9 ?_
    refine y_iload_n dX0_mayWalk_12 2 rfl ?_
    obtain ⟨x4, ex4, hE⟩ := Option.bind_eq_some_iff.mp hE
    refine y_iald ex4 dX0_mayWalk_13 ?_
    refine y_iconst (v := (1 : Int32)) dX0_mayWalk_14 (by decide) ?_
    refine y_icmp_eq (tgt := 36) dX0_mayWalk_15 (by decide) (fun hc10 => ?_) (fun hc10 => ?_)
    · rw [if_pos hc10] at hE
      refine y_iconst (v := (0 : Int32)) dX0_mayWalk_36 (by decide) ?_
      obtain rfl := Option.some.inj hE
      exact y_ret dX0_mayWalk_37 (Nat.le_refl _) (Nat.le_refl _) ⟨_, rfl, rfl⟩
    · rw [if_neg hc10] at hE
      refine y_aload_n dX0_mayWalk_18 0 rfl ?_
      refine y_iload_n dX0_mayWalk_19 2 rfl ?_
      refine y_aload_n dX0_mayWalk_20 0 rfl ?_
      obtain ⟨a5, ea5, hE⟩ := Option.bind_eq_some_iff.mp hE
      refine y_getR fl_X0_21 ea5 dX0_mayWalk_21 ?_
      refine y_iload_n dX0_mayWalk_24 1 rfl ?_
      obtain ⟨x6, ex6, hE⟩ := Option.bind_eq_some_iff.mp hE
      refine y_iald ex6 dX0_mayWalk_25 ?_
      obtain ⟨u7, eu7, hE⟩ := Option.bind_eq_some_iff.mp hE
      obtain ⟨q8, eq8, hE⟩ := Option.bind_eq_some_iff.mp hE
      refine y_cVi0 (st := []) (as := [.int p2, .int x6]) (c_X0_isAt eq8) lk_X0_49 in_X0_isAt se_X0_isAt rfl eu7 ⟨Nat.le_of_ble_eq_true rfl, Nat.le_of_ble_eq_true rfl⟩ (Nat.le_of_ble_eq_true rfl) dX0_mayWalk_26 ⟨Nat.le_refl _, Nat.le_refl _⟩ rfl ?_
      refine y_if_eq (tgt := 36) dX0_mayWalk_29 (by decide) (fun hc9 => ?_) (fun hc9 => ?_)
      · rw [if_pos hc9] at hE
        refine y_iconst (v := (0 : Int32)) dX0_mayWalk_36 (by decide) ?_
        obtain rfl := Option.some.inj hE
        exact y_ret dX0_mayWalk_37 (Nat.le_refl _) (Nat.le_refl _) ⟨_, rfl, rfl⟩
      · rw [if_neg hc9] at hE
        refine y_iconst (v := (1 : Int32)) dX0_mayWalk_32 (by decide) ?_
        refine y_goto (tgt := 37) dX0_mayWalk_33 (by decide) ?_
        obtain rfl := Option.some.inj hE
        exact y_ret dX0_mayWalk_37 (Nat.le_refl _) (Nat.le_refl _) ⟨_, rfl, rfl⟩
def f_X0_standsBeforeShut (h : xH) (a0 : Nat) (p1 : Int32) (p2 : Int32) : Option (Int32) :=
  (x_ob h a0 0).bind fun u1 =>
  (f_X0_isOpen h a0 p2).bind fun q2 =>
  if q2 = 0 then
    (x_gR h a0 0 3).bind fun a3 =>
    (x_ld h a3 p1).bind fun x4 =>
    (x_ob h a0 0).bind fun u5 =>
    (f_X0_opensFrom h a0 p2 x4).bind fun q6 =>
    if q6 = 0 then
      some (0 : Int32)
    else
      some (1 : Int32)
  else
    some (0 : Int32)
set_option maxRecDepth 100000 in
set_option maxHeartbeats 4000000 in
theorem c_X0_standsBeforeShut {h : xH} {a0 : Nat} {p1 : Int32} {p2 : Int32} {r9 : Int32} (hE : f_X0_standsBeforeShut h a0 p1 p2 = some r9) : Ctr M_X0_standsBeforeShut [.ref a0, .int p1, .int p2] h (some (.int r9)) h 0 0 := by
  refine ctr_of (by decide) (fun _ _ => Nat.le_of_ble_eq_true rfl) (fun S => ?_)
  show Y S M_X0_standsBeforeShut h (some (.int r9)) h 0 0 0 [(0, .ref a0), (1, .int p1), (2, .int p2)] [] h 0 0
  unfold f_X0_standsBeforeShut at hE
  refine y_aload_n dX0_standsBeforeShut_0 0 rfl ?_
  refine y_iload_n dX0_standsBeforeShut_1 2 rfl ?_
  obtain ⟨u1, eu1, hE⟩ := Option.bind_eq_some_iff.mp hE
  obtain ⟨q2, eq2, hE⟩ := Option.bind_eq_some_iff.mp hE
  refine y_cVi0 (st := []) (as := [.int p2]) (c_X0_isOpen eq2) lk_X0_53 in_X0_isOpen se_X0_isOpen rfl eu1 ⟨Nat.le_of_ble_eq_true rfl, Nat.le_of_ble_eq_true rfl⟩ (Nat.le_of_ble_eq_true rfl) dX0_standsBeforeShut_2 ⟨Nat.le_refl _, Nat.le_refl _⟩ rfl ?_
  refine y_if_ne (tgt := 26) dX0_standsBeforeShut_5 (by decide) (fun hc8 => ?_) (fun hc8 => ?_)
  · rw [if_pos hc8] at hE
    refine y_aload_n dX0_standsBeforeShut_8 0 rfl ?_
    refine y_iload_n dX0_standsBeforeShut_9 2 rfl ?_
    refine y_aload_n dX0_standsBeforeShut_10 0 rfl ?_
    obtain ⟨a3, ea3, hE⟩ := Option.bind_eq_some_iff.mp hE
    refine y_getR fl_X0_21 ea3 dX0_standsBeforeShut_11 ?_
    refine y_iload_n dX0_standsBeforeShut_14 1 rfl ?_
    obtain ⟨x4, ex4, hE⟩ := Option.bind_eq_some_iff.mp hE
    refine y_iald ex4 dX0_standsBeforeShut_15 ?_
    obtain ⟨u5, eu5, hE⟩ := Option.bind_eq_some_iff.mp hE
    obtain ⟨q6, eq6, hE⟩ := Option.bind_eq_some_iff.mp hE
    refine y_cVi0 (st := []) (as := [.int p2, .int x4]) (c_X0_opensFrom eq6) lk_X0_60 in_X0_opensFrom se_X0_opensFrom rfl eu5 ⟨Nat.le_of_ble_eq_true rfl, Nat.le_of_ble_eq_true rfl⟩ (Nat.le_of_ble_eq_true rfl) dX0_standsBeforeShut_16 ⟨Nat.le_refl _, Nat.le_refl _⟩ rfl ?_
    refine y_if_eq (tgt := 26) dX0_standsBeforeShut_19 (by decide) (fun hc7 => ?_) (fun hc7 => ?_)
    · rw [if_pos hc7] at hE
      refine y_iconst (v := (0 : Int32)) dX0_standsBeforeShut_26 (by decide) ?_
      obtain rfl := Option.some.inj hE
      exact y_ret dX0_standsBeforeShut_27 (Nat.le_refl _) (Nat.le_refl _) ⟨_, rfl, rfl⟩
    · rw [if_neg hc7] at hE
      refine y_iconst (v := (1 : Int32)) dX0_standsBeforeShut_22 (by decide) ?_
      refine y_goto (tgt := 27) dX0_standsBeforeShut_23 (by decide) ?_
      obtain rfl := Option.some.inj hE
      exact y_ret dX0_standsBeforeShut_27 (Nat.le_refl _) (Nat.le_refl _) ⟨_, rfl, rfl⟩
  · rw [if_neg hc8] at hE
    refine y_iconst (v := (0 : Int32)) dX0_standsBeforeShut_26 (by decide) ?_
    obtain rfl := Option.some.inj hE
    exact y_ret dX0_standsBeforeShut_27 (Nat.le_refl _) (Nat.le_refl _) ⟨_, rfl, rfl⟩
def f_X0_shuttable_L14 (h : xH) (v0 : Nat) (v2 : Int32) : Nat → Int32 → Int32 → Option (Int32)
  | 0, _, _ => none
  | k + 1, v1, v3 =>
    (x_gI h v0 0 4).bind fun x2 =>
    if x2 ≤ v3 then
      some v1
    else
      (x_ob h v0 0).bind fun u3 =>
      (f_X0_isOpen h v0 v3).bind fun q4 =>
      if q4 = 0 then
        (some (v3 + (1 : Int32))).bind fun x5 =>
        f_X0_shuttable_L14 h v0 v2 k v1 x5
      else
        (x_gR h v0 0 3).bind fun a6 =>
        (x_ld h a6 v2).bind fun x7 =>
        (x_ob h v0 0).bind fun u8 =>
        (f_X0_shutsFrom h v0 v3 x7).bind fun q9 =>
        if q9 = 0 then
          (some (v3 + (1 : Int32))).bind fun x10 =>
          f_X0_shuttable_L14 h v0 v2 k v1 x10
        else
          (some (v1 ||| (i_shl (1 : Int32) v3))).bind fun x11 =>
          (some (v3 + (1 : Int32))).bind fun x12 =>
          f_X0_shuttable_L14 h v0 v2 k x11 x12
set_option maxRecDepth 100000 in
set_option maxHeartbeats 4000000 in
theorem l_X0_shuttable_14 {S : Nat × (Nat → Int32)} {rv : Option Value} {h0 h1 : xH} {mc ms : Nat} {cells slots : Nat} (hm : cells ≤ mc ∧ slots ≤ ms) (h : xH) (v0 : Nat) (v2 : Int32) : ∀ (k : Nat) (v1 : Int32) (v3 : Int32) (res : Int32), f_X0_shuttable_L14 h v0 v2 k v1 v3 = some res → (∀ r9, res = r9 → Y S M_X0_shuttable h0 rv h1 mc ms 56 [(0, .ref v0), (1, .int r9), (2, .int v2)] [] h cells slots) → Y S M_X0_shuttable h0 rv h1 mc ms 14 [(0, .ref v0), (1, .int v1), (2, .int v2), (3, .int v3)] [] h cells slots := by
  intro k
  induction k with
  | zero =>
    intro _ _ _ hE
    cases hE
  | succ k ih =>
    intro v1 v3 res hE K
    unfold f_X0_shuttable_L14 at hE
    refine y_iload_n dX0_shuttable_14 3 rfl ?_
    refine y_aload_n dX0_shuttable_15 0 rfl ?_
    obtain ⟨x2, ex2, hE⟩ := Option.bind_eq_some_iff.mp hE
    refine y_getI fl_X0_31 ex2 dX0_shuttable_16 ?_
    refine y_icmp_ge (tgt := 56) dX0_shuttable_19 (by decide) (fun hc15 => ?_) (fun hc15 => ?_)
    · rw [if_pos hc15] at hE
      obtain rfl := Option.some.inj hE
      exact y_pick [0, 1, 2] rfl (K _ rfl)
    · rw [if_neg hc15] at hE
      refine y_aload_n dX0_shuttable_22 0 rfl ?_
      refine y_iload_n dX0_shuttable_23 3 rfl ?_
      obtain ⟨u3, eu3, hE⟩ := Option.bind_eq_some_iff.mp hE
      obtain ⟨q4, eq4, hE⟩ := Option.bind_eq_some_iff.mp hE
      refine y_cVi0 (st := []) (as := [.int v3]) (c_X0_isOpen eq4) lk_X0_53 in_X0_isOpen se_X0_isOpen rfl eu3 ⟨Nat.le_of_ble_eq_true rfl, Nat.le_of_ble_eq_true rfl⟩ (Nat.le_of_ble_eq_true rfl) dX0_shuttable_24 hm rfl ?_
      refine y_if_eq (tgt := 50) dX0_shuttable_27 (by decide) (fun hc14 => ?_) (fun hc14 => ?_)
      · rw [if_pos hc14] at hE
        obtain ⟨x5, ex5, hE⟩ := Option.bind_eq_some_iff.mp hE
        refine y_iinc (ls' := [(3, .int x5), (0, .ref v0), (1, .int v1), (2, .int v2)]) dX0_shuttable_50 3 rfl (Option.some.inj ex5) (by decide) rfl ?_
        refine y_goto (tgt := 14) dX0_shuttable_53 (by decide) ?_
        refine y_pick [1, 2, 3, 0] rfl ?_
        exact ih _ _ _ hE K
      · rw [if_neg hc14] at hE
        refine y_aload_n dX0_shuttable_30 0 rfl ?_
        refine y_iload_n dX0_shuttable_31 3 rfl ?_
        refine y_aload_n dX0_shuttable_32 0 rfl ?_
        obtain ⟨a6, ea6, hE⟩ := Option.bind_eq_some_iff.mp hE
        refine y_getR fl_X0_21 ea6 dX0_shuttable_33 ?_
        refine y_iload_n dX0_shuttable_36 2 rfl ?_
        obtain ⟨x7, ex7, hE⟩ := Option.bind_eq_some_iff.mp hE
        refine y_iald ex7 dX0_shuttable_37 ?_
        obtain ⟨u8, eu8, hE⟩ := Option.bind_eq_some_iff.mp hE
        obtain ⟨q9, eq9, hE⟩ := Option.bind_eq_some_iff.mp hE
        refine y_cVi0 (st := []) (as := [.int v3, .int x7]) (c_X0_shutsFrom eq9) lk_X0_57 in_X0_shutsFrom se_X0_shutsFrom rfl eu8 ⟨Nat.le_of_ble_eq_true rfl, Nat.le_of_ble_eq_true rfl⟩ (Nat.le_of_ble_eq_true rfl) dX0_shuttable_38 hm rfl ?_
        refine y_if_eq (tgt := 50) dX0_shuttable_41 (by decide) (fun hc13 => ?_) (fun hc13 => ?_)
        · rw [if_pos hc13] at hE
          obtain ⟨x10, ex10, hE⟩ := Option.bind_eq_some_iff.mp hE
          refine y_iinc (ls' := [(3, .int x10), (0, .ref v0), (1, .int v1), (2, .int v2)]) dX0_shuttable_50 3 rfl (Option.some.inj ex10) (by decide) rfl ?_
          refine y_goto (tgt := 14) dX0_shuttable_53 (by decide) ?_
          refine y_pick [1, 2, 3, 0] rfl ?_
          exact ih _ _ _ hE K
        · rw [if_neg hc13] at hE
          refine y_iload_n dX0_shuttable_44 1 rfl ?_
          refine y_iconst (v := (1 : Int32)) dX0_shuttable_45 (by decide) ?_
          refine y_iload_n dX0_shuttable_46 3 rfl ?_
          refine y_ishl dX0_shuttable_47 ?_
          refine y_ior dX0_shuttable_48 ?_
          obtain ⟨x11, ex11, hE⟩ := Option.bind_eq_some_iff.mp hE
          refine y_istore_n (ls' := [(1, .int x11), (0, .ref v0), (2, .int v2), (3, .int v3)]) dX0_shuttable_49 (by decide) (Option.some.inj ex11) rfl ?_
          obtain ⟨x12, ex12, hE⟩ := Option.bind_eq_some_iff.mp hE
          refine y_iinc (ls' := [(3, .int x12), (1, .int x11), (0, .ref v0), (2, .int v2)]) dX0_shuttable_50 3 rfl (Option.some.inj ex12) (by decide) rfl ?_
          refine y_goto (tgt := 14) dX0_shuttable_53 (by decide) ?_
          refine y_pick [2, 1, 3, 0] rfl ?_
          exact ih _ _ _ hE K
def f_X0_shuttable_L4 (n : Nat) (h : xH) (v0 : Nat) : Nat → Int32 → Int32 → Option (Int32)
  | 0, _, _ => none
  | k + 1, v1, v2 =>
    (x_gI h v0 0 6).bind fun x1 =>
    if x1 ≤ v2 then
      some v1
    else
      (f_X0_shuttable_L14 h v0 v2 n v1 (0 : Int32)).bind fun q16 =>
      (some (v2 + (1 : Int32))).bind fun x17 =>
      f_X0_shuttable_L4 n h v0 k q16 x17
set_option maxRecDepth 100000 in
set_option maxHeartbeats 4000000 in
theorem l_X0_shuttable_4 {S : Nat × (Nat → Int32)} {rv : Option Value} {h0 h1 : xH} {mc ms : Nat} {cells slots : Nat} (hm : cells ≤ mc ∧ slots ≤ ms) (n : Nat) (h : xH) (v0 : Nat) : ∀ (k : Nat) (v1 : Int32) (v2 : Int32) (res : Int32), f_X0_shuttable_L4 n h v0 k v1 v2 = some res → (∀ r9, res = r9 → Y S M_X0_shuttable h0 rv h1 mc ms 62 [(1, .int r9)] [] h cells slots) → Y S M_X0_shuttable h0 rv h1 mc ms 4 [(0, .ref v0), (1, .int v1), (2, .int v2)] [] h cells slots := by
  intro k
  induction k with
  | zero =>
    intro _ _ _ hE
    cases hE
  | succ k ih =>
    intro v1 v2 res hE K
    unfold f_X0_shuttable_L4 at hE
    refine y_iload_n dX0_shuttable_4 2 rfl ?_
    refine y_aload_n dX0_shuttable_5 0 rfl ?_
    obtain ⟨x1, ex1, hE⟩ := Option.bind_eq_some_iff.mp hE
    refine y_getI fl_X0_34 ex1 dX0_shuttable_6 ?_
    refine y_icmp_ge (tgt := 62) dX0_shuttable_9 (by decide) (fun hc18 => ?_) (fun hc18 => ?_)
    · rw [if_pos hc18] at hE
      obtain rfl := Option.some.inj hE
      exact y_pick [1] rfl (K _ rfl)
    · rw [if_neg hc18] at hE
      refine y_iconst (v := (0 : Int32)) dX0_shuttable_12 (by decide) ?_
      refine y_istore_n (ls' := [(3, .int (0 : Int32)), (0, .ref v0), (1, .int v1), (2, .int v2)]) dX0_shuttable_13 (by decide) rfl rfl ?_
      obtain ⟨q16, eq16, hE⟩ := Option.bind_eq_some_iff.mp hE
      refine y_pick [1, 2, 3, 0] rfl ?_
      refine l_X0_shuttable_14 (S := S) hm h v0 v2 n v1 (0 : Int32) _ eq16 (fun r8 hr8 => ?_)
      subst hr8
      obtain ⟨x17, ex17, hE⟩ := Option.bind_eq_some_iff.mp hE
      refine y_iinc (ls' := [(2, .int x17), (0, .ref v0), (1, .int q16)]) dX0_shuttable_56 2 rfl (Option.some.inj ex17) (by decide) rfl ?_
      refine y_goto (tgt := 4) dX0_shuttable_59 (by decide) ?_
      refine y_pick [1, 2, 0] rfl ?_
      exact ih _ _ _ hE K
def f_X0_shuttable (n : Nat) (h : xH) (a0 : Nat) : Option (Int32) :=
  (f_X0_shuttable_L4 n h a0 n (0 : Int32) (0 : Int32)).bind fun q19 =>
  some q19
set_option maxRecDepth 100000 in
set_option maxHeartbeats 4000000 in
theorem c_X0_shuttable {n : Nat} {h : xH} {a0 : Nat} {r9 : Int32} (hE : f_X0_shuttable n h a0 = some r9) : Ctr M_X0_shuttable [.ref a0] h (some (.int r9)) h 0 0 := by
  refine ctr_of (by decide) (fun _ _ => Nat.le_of_ble_eq_true rfl) (fun S => ?_)
  show Y S M_X0_shuttable h (some (.int r9)) h 0 0 0 [(0, .ref a0)] [] h 0 0
  unfold f_X0_shuttable at hE
  refine y_iconst (v := (0 : Int32)) dX0_shuttable_0 (by decide) ?_
  refine y_istore_n (ls' := [(1, .int (0 : Int32)), (0, .ref a0)]) dX0_shuttable_1 (by decide) rfl rfl ?_
  refine y_iconst (v := (0 : Int32)) dX0_shuttable_2 (by decide) ?_
  refine y_istore_n (ls' := [(2, .int (0 : Int32)), (1, .int (0 : Int32)), (0, .ref a0)]) dX0_shuttable_3 (by decide) rfl rfl ?_
  obtain ⟨q19, eq19, hE⟩ := Option.bind_eq_some_iff.mp hE
  refine y_pick [2, 1, 0] rfl ?_
  refine l_X0_shuttable_4 (S := S) ⟨Nat.le_refl _, Nat.le_refl _⟩ n h a0 n (0 : Int32) (0 : Int32) _ eq19 (fun r8 hr8 => ?_)
  subst hr8
  refine y_iload_n dX0_shuttable_62 0 rfl ?_
  obtain rfl := Option.some.inj hE
  exact y_ret dX0_shuttable_63 (Nat.le_refl _) (Nat.le_refl _) ⟨_, rfl, rfl⟩
def f_X0_weigh_L4 (h : xH) (v0 : Nat) (v1 : Int32) : Nat → Int32 → Int32 → Option (Int32)
  | 0, _, _ => none
  | k + 1, v2, v3 =>
    (x_gI h v0 0 4).bind fun x1 =>
    if x1 ≤ v3 then
      some v2
    else
      if ((i_shr v1 v3) &&& (1 : Int32)) = 0 then
        (some (v3 + (1 : Int32))).bind fun x2 =>
        f_X0_weigh_L4 h v0 v1 k v2 x2
      else
        (x_ob h v0 0).bind fun u3 =>
        (f_X0_weightOf h v0 v3).bind fun q4 =>
        (some (v2 + q4)).bind fun x5 =>
        (some (v3 + (1 : Int32))).bind fun x6 =>
        f_X0_weigh_L4 h v0 v1 k x5 x6
set_option maxRecDepth 100000 in
set_option maxHeartbeats 4000000 in
theorem l_X0_weigh_4 {S : Nat × (Nat → Int32)} {rv : Option Value} {h0 h1 : xH} {mc ms : Nat} {cells slots : Nat} (hm : cells ≤ mc ∧ slots ≤ ms) (h : xH) (v0 : Nat) (v1 : Int32) : ∀ (k : Nat) (v2 : Int32) (v3 : Int32) (res : Int32), f_X0_weigh_L4 h v0 v1 k v2 v3 = some res → (∀ r9, res = r9 → Y S M_X0_weigh h0 rv h1 mc ms 34 [(2, .int r9)] [] h cells slots) → Y S M_X0_weigh h0 rv h1 mc ms 4 [(0, .ref v0), (1, .int v1), (2, .int v2), (3, .int v3)] [] h cells slots := by
  intro k
  induction k with
  | zero =>
    intro _ _ _ hE
    cases hE
  | succ k ih =>
    intro v2 v3 res hE K
    unfold f_X0_weigh_L4 at hE
    refine y_iload_n dX0_weigh_4 3 rfl ?_
    refine y_aload_n dX0_weigh_5 0 rfl ?_
    obtain ⟨x1, ex1, hE⟩ := Option.bind_eq_some_iff.mp hE
    refine y_getI fl_X0_31 ex1 dX0_weigh_6 ?_
    refine y_icmp_ge (tgt := 34) dX0_weigh_9 (by decide) (fun hc8 => ?_) (fun hc8 => ?_)
    · rw [if_pos hc8] at hE
      obtain rfl := Option.some.inj hE
      exact y_pick [2] rfl (K _ rfl)
    · rw [if_neg hc8] at hE
      refine y_iload_n dX0_weigh_12 1 rfl ?_
      refine y_iload_n dX0_weigh_13 3 rfl ?_
      refine y_ishr dX0_weigh_14 ?_
      refine y_iconst (v := (1 : Int32)) dX0_weigh_15 (by decide) ?_
      refine y_iand dX0_weigh_16 ?_
      refine y_if_eq (tgt := 28) dX0_weigh_17 (by decide) (fun hc7 => ?_) (fun hc7 => ?_)
      · rw [if_pos hc7] at hE
        obtain ⟨x2, ex2, hE⟩ := Option.bind_eq_some_iff.mp hE
        refine y_iinc (ls' := [(3, .int x2), (0, .ref v0), (1, .int v1), (2, .int v2)]) dX0_weigh_28 3 rfl (Option.some.inj ex2) (by decide) rfl ?_
        refine y_goto (tgt := 4) dX0_weigh_31 (by decide) ?_
        refine y_pick [1, 2, 3, 0] rfl ?_
        exact ih _ _ _ hE K
      · rw [if_neg hc7] at hE
        refine y_iload_n dX0_weigh_20 2 rfl ?_
        refine y_aload_n dX0_weigh_21 0 rfl ?_
        refine y_iload_n dX0_weigh_22 3 rfl ?_
        obtain ⟨u3, eu3, hE⟩ := Option.bind_eq_some_iff.mp hE
        obtain ⟨q4, eq4, hE⟩ := Option.bind_eq_some_iff.mp hE
        refine y_cVi0 (st := [.int v2]) (as := [.int v3]) (c_X0_weightOf eq4) lk_X0_63 in_X0_weightOf se_X0_weightOf rfl eu3 ⟨Nat.le_of_ble_eq_true rfl, Nat.le_of_ble_eq_true rfl⟩ (Nat.le_of_ble_eq_true rfl) dX0_weigh_23 hm rfl ?_
        refine y_iadd dX0_weigh_26 ?_
        obtain ⟨x5, ex5, hE⟩ := Option.bind_eq_some_iff.mp hE
        refine y_istore_n (ls' := [(2, .int x5), (0, .ref v0), (1, .int v1), (3, .int v3)]) dX0_weigh_27 (by decide) (Option.some.inj ex5) rfl ?_
        obtain ⟨x6, ex6, hE⟩ := Option.bind_eq_some_iff.mp hE
        refine y_iinc (ls' := [(3, .int x6), (2, .int x5), (0, .ref v0), (1, .int v1)]) dX0_weigh_28 3 rfl (Option.some.inj ex6) (by decide) rfl ?_
        refine y_goto (tgt := 4) dX0_weigh_31 (by decide) ?_
        refine y_pick [2, 3, 1, 0] rfl ?_
        exact ih _ _ _ hE K
def f_X0_weigh (n : Nat) (h : xH) (a0 : Nat) (p1 : Int32) : Option (Int32) :=
  (f_X0_weigh_L4 h a0 p1 n (0 : Int32) (0 : Int32)).bind fun q9 =>
  some q9
set_option maxRecDepth 100000 in
set_option maxHeartbeats 4000000 in
theorem c_X0_weigh {n : Nat} {h : xH} {a0 : Nat} {p1 : Int32} {r9 : Int32} (hE : f_X0_weigh n h a0 p1 = some r9) : Ctr M_X0_weigh [.ref a0, .int p1] h (some (.int r9)) h 0 0 := by
  refine ctr_of (by decide) (fun _ _ => Nat.le_of_ble_eq_true rfl) (fun S => ?_)
  show Y S M_X0_weigh h (some (.int r9)) h 0 0 0 [(0, .ref a0), (1, .int p1)] [] h 0 0
  unfold f_X0_weigh at hE
  refine y_iconst (v := (0 : Int32)) dX0_weigh_0 (by decide) ?_
  refine y_istore_n (ls' := [(2, .int (0 : Int32)), (0, .ref a0), (1, .int p1)]) dX0_weigh_1 (by decide) rfl rfl ?_
  refine y_iconst (v := (0 : Int32)) dX0_weigh_2 (by decide) ?_
  refine y_istore_n (ls' := [(3, .int (0 : Int32)), (2, .int (0 : Int32)), (0, .ref a0), (1, .int p1)]) dX0_weigh_3 (by decide) rfl rfl ?_
  obtain ⟨q9, eq9, hE⟩ := Option.bind_eq_some_iff.mp hE
  refine y_pick [2, 3, 1, 0] rfl ?_
  refine l_X0_weigh_4 (S := S) ⟨Nat.le_refl _, Nat.le_refl _⟩ h a0 p1 n (0 : Int32) (0 : Int32) _ eq9 (fun r8 hr8 => ?_)
  subst hr8
  refine y_iload_n dX0_weigh_34 0 rfl ?_
  obtain rfl := Option.some.inj hE
  exact y_ret dX0_weigh_35 (Nat.le_refl _) (Nat.le_refl _) ⟨_, rfl, rfl⟩
def f_X0_isEnoughAndNoneInVain_L18 (h : xH) (v0 : Nat) (v1 : Int32) (v2 : Int32) : Nat → Int32 → Option (Sum (Int32) (Unit))
  | 0, _ => none
  | k + 1, v3 =>
    (x_gI h v0 0 4).bind fun x4 =>
    if x4 ≤ v3 then
      some (.inr ())
    else
      if ((i_shr v1 v3) &&& (1 : Int32)) = 0 then
        (some (v3 + (1 : Int32))).bind fun x5 =>
        f_X0_isEnoughAndNoneInVain_L18 h v0 v1 v2 k x5
      else
        (x_ob h v0 0).bind fun u6 =>
        (f_X0_weightOf h v0 v3).bind fun q7 =>
        (x_gI h v0 0 7).bind fun x8 =>
        if (v2 - q7) < x8 then
          (some (v3 + (1 : Int32))).bind fun x9 =>
          f_X0_isEnoughAndNoneInVain_L18 h v0 v1 v2 k x9
        else
          some (.inl (0 : Int32))
set_option maxRecDepth 100000 in
set_option maxHeartbeats 4000000 in
theorem l_X0_isEnoughAndNoneInVain_18 {S : Nat × (Nat → Int32)} {rv : Option Value} {h0 h1 : xH} {mc ms : Nat} {cells slots : Nat} (hm : cells ≤ mc ∧ slots ≤ ms) (h : xH) (v0 : Nat) (v1 : Int32) (v2 : Int32) : ∀ (k : Nat) (v3 : Int32) (res : Sum (Int32) (Unit)), f_X0_isEnoughAndNoneInVain_L18 h v0 v1 v2 k v3 = some res → (∀ r9, res = .inl r9 → rv = some (.int r9) ∧ h1 = h) → (∀ r9, res = .inr r9 → Y S M_X0_isEnoughAndNoneInVain h0 rv h1 mc ms 56 [] [] h cells slots) → Y S M_X0_isEnoughAndNoneInVain h0 rv h1 mc ms 18 [(0, .ref v0), (1, .int v1), (2, .int v2), (3, .int v3)] [] h cells slots := by
  intro k
  induction k with
  | zero =>
    intro _ _ hE
    cases hE
  | succ k ih =>
    intro v3 res hE KR K
    unfold f_X0_isEnoughAndNoneInVain_L18 at hE
    refine y_iload_n dX0_isEnoughAndNoneInVain_18 3 rfl ?_
    refine y_aload_n dX0_isEnoughAndNoneInVain_19 0 rfl ?_
    obtain ⟨x4, ex4, hE⟩ := Option.bind_eq_some_iff.mp hE
    refine y_getI fl_X0_31 ex4 dX0_isEnoughAndNoneInVain_20 ?_
    refine y_icmp_ge (tgt := 56) dX0_isEnoughAndNoneInVain_23 (by decide) (fun hc12 => ?_) (fun hc12 => ?_)
    · rw [if_pos hc12] at hE
      obtain rfl := Option.some.inj hE
      exact y_pick [] rfl (K _ rfl)
    · rw [if_neg hc12] at hE
      refine y_iload_n dX0_isEnoughAndNoneInVain_26 1 rfl ?_
      refine y_iload_n dX0_isEnoughAndNoneInVain_27 3 rfl ?_
      refine y_ishr dX0_isEnoughAndNoneInVain_28 ?_
      refine y_iconst (v := (1 : Int32)) dX0_isEnoughAndNoneInVain_29 (by decide) ?_
      refine y_iand dX0_isEnoughAndNoneInVain_30 ?_
      refine y_if_eq (tgt := 50) dX0_isEnoughAndNoneInVain_31 (by decide) (fun hc11 => ?_) (fun hc11 => ?_)
      · rw [if_pos hc11] at hE
        obtain ⟨x5, ex5, hE⟩ := Option.bind_eq_some_iff.mp hE
        refine y_iinc (ls' := [(3, .int x5), (0, .ref v0), (1, .int v1), (2, .int v2)]) dX0_isEnoughAndNoneInVain_50 3 rfl (Option.some.inj ex5) (by decide) rfl ?_
        refine y_goto (tgt := 18) dX0_isEnoughAndNoneInVain_53 (by decide) ?_
        refine y_pick [1, 2, 3, 0] rfl ?_
        exact ih _ _ hE KR K
      · rw [if_neg hc11] at hE
        refine y_iload_n dX0_isEnoughAndNoneInVain_34 2 rfl ?_
        refine y_aload_n dX0_isEnoughAndNoneInVain_35 0 rfl ?_
        refine y_iload_n dX0_isEnoughAndNoneInVain_36 3 rfl ?_
        obtain ⟨u6, eu6, hE⟩ := Option.bind_eq_some_iff.mp hE
        obtain ⟨q7, eq7, hE⟩ := Option.bind_eq_some_iff.mp hE
        refine y_cVi0 (st := [.int v2]) (as := [.int v3]) (c_X0_weightOf eq7) lk_X0_63 in_X0_weightOf se_X0_weightOf rfl eu6 ⟨Nat.le_of_ble_eq_true rfl, Nat.le_of_ble_eq_true rfl⟩ (Nat.le_of_ble_eq_true rfl) dX0_isEnoughAndNoneInVain_37 hm rfl ?_
        refine y_isub dX0_isEnoughAndNoneInVain_40 ?_
        refine y_aload_n dX0_isEnoughAndNoneInVain_41 0 rfl ?_
        obtain ⟨x8, ex8, hE⟩ := Option.bind_eq_some_iff.mp hE
        refine y_getI fl_X0_24 ex8 dX0_isEnoughAndNoneInVain_42 ?_
        refine y_icmp_lt (tgt := 50) dX0_isEnoughAndNoneInVain_45 (by decide) (fun hc10 => ?_) (fun hc10 => ?_)
        · rw [if_pos hc10] at hE
          obtain ⟨x9, ex9, hE⟩ := Option.bind_eq_some_iff.mp hE
          refine y_iinc (ls' := [(3, .int x9), (0, .ref v0), (1, .int v1), (2, .int v2)]) dX0_isEnoughAndNoneInVain_50 3 rfl (Option.some.inj ex9) (by decide) rfl ?_
          refine y_goto (tgt := 18) dX0_isEnoughAndNoneInVain_53 (by decide) ?_
          refine y_pick [1, 2, 3, 0] rfl ?_
          exact ih _ _ hE KR K
        · rw [if_neg hc10] at hE
          refine y_iconst (v := (0 : Int32)) dX0_isEnoughAndNoneInVain_48 (by decide) ?_
          obtain rfl := Option.some.inj hE
          obtain ⟨rfl, rfl⟩ := KR _ rfl
          exact y_ret dX0_isEnoughAndNoneInVain_49 hm.1 hm.2 ⟨_, rfl, rfl⟩
def f_X0_isEnoughAndNoneInVain (n : Nat) (h : xH) (a0 : Nat) (p1 : Int32) : Option (Int32) :=
  (x_ob h a0 0).bind fun u1 =>
  (f_X0_weigh n h a0 p1).bind fun q2 =>
  (x_gI h a0 0 7).bind fun x3 =>
  if x3 ≤ q2 then
    (f_X0_isEnoughAndNoneInVain_L18 h a0 p1 q2 n (0 : Int32)).bind fun q13 =>
    match q13 with
    | .inl r14 => some r14
    | .inr e15 =>
      some (1 : Int32)
  else
    some (0 : Int32)
set_option maxRecDepth 100000 in
set_option maxHeartbeats 4000000 in
theorem c_X0_isEnoughAndNoneInVain {n : Nat} {h : xH} {a0 : Nat} {p1 : Int32} {r9 : Int32} (hE : f_X0_isEnoughAndNoneInVain n h a0 p1 = some r9) : Ctr M_X0_isEnoughAndNoneInVain [.ref a0, .int p1] h (some (.int r9)) h 0 0 := by
  refine ctr_of (by decide) (fun _ _ => Nat.le_of_ble_eq_true rfl) (fun S => ?_)
  show Y S M_X0_isEnoughAndNoneInVain h (some (.int r9)) h 0 0 0 [(0, .ref a0), (1, .int p1)] [] h 0 0
  unfold f_X0_isEnoughAndNoneInVain at hE
  refine y_aload_n dX0_isEnoughAndNoneInVain_0 0 rfl ?_
  refine y_iload_n dX0_isEnoughAndNoneInVain_1 1 rfl ?_
  obtain ⟨u1, eu1, hE⟩ := Option.bind_eq_some_iff.mp hE
  obtain ⟨q2, eq2, hE⟩ := Option.bind_eq_some_iff.mp hE
  refine y_cVi0 (st := []) (as := [.int p1]) (c_X0_weigh eq2) lk_X0_67 in_X0_weigh se_X0_weigh rfl eu1 ⟨Nat.le_of_ble_eq_true rfl, Nat.le_of_ble_eq_true rfl⟩ (Nat.le_of_ble_eq_true rfl) dX0_isEnoughAndNoneInVain_2 ⟨Nat.le_refl _, Nat.le_refl _⟩ rfl ?_
  refine y_istore_n (ls' := [(2, .int q2), (0, .ref a0), (1, .int p1)]) dX0_isEnoughAndNoneInVain_5 (by decide) rfl rfl ?_
  refine y_iload_n dX0_isEnoughAndNoneInVain_6 0 rfl ?_
  refine y_aload_n dX0_isEnoughAndNoneInVain_7 1 rfl ?_
  obtain ⟨x3, ex3, hE⟩ := Option.bind_eq_some_iff.mp hE
  refine y_getI fl_X0_24 ex3 dX0_isEnoughAndNoneInVain_8 ?_
  refine y_icmp_ge (tgt := 16) dX0_isEnoughAndNoneInVain_11 (by decide) (fun hc16 => ?_) (fun hc16 => ?_)
  · rw [if_pos hc16] at hE
    refine y_iconst (v := (0 : Int32)) dX0_isEnoughAndNoneInVain_16 (by decide) ?_
    refine y_istore_n (ls' := [(3, .int (0 : Int32)), (2, .int q2), (0, .ref a0), (1, .int p1)]) dX0_isEnoughAndNoneInVain_17 (by decide) rfl rfl ?_
    obtain ⟨q13, eq13, hE⟩ := Option.bind_eq_some_iff.mp hE
    refine y_pick [2, 3, 1, 0] rfl ?_
    cases q13 with
    | inl r14 =>
      dsimp only at hE
      cases hE
      exact l_X0_isEnoughAndNoneInVain_18 (S := S) ⟨Nat.le_refl _, Nat.le_refl _⟩ h a0 p1 q2 n (0 : Int32) _ eq13 (fun r8 hr8 => by cases hr8; exact ⟨rfl, rfl⟩) (fun r8 hr8 => by cases hr8)
    | inr e15 =>
      dsimp only at hE
      refine l_X0_isEnoughAndNoneInVain_18 (S := S) ⟨Nat.le_refl _, Nat.le_refl _⟩ h a0 p1 q2 n (0 : Int32) _ eq13 (fun r8 hr8 => by cases hr8) (fun r8 hr8 => ?_)
      cases hr8
      refine y_iconst (v := (1 : Int32)) dX0_isEnoughAndNoneInVain_56 (by decide) ?_
      obtain rfl := Option.some.inj hE
      exact y_ret dX0_isEnoughAndNoneInVain_57 (Nat.le_refl _) (Nat.le_refl _) ⟨_, rfl, rfl⟩
  · rw [if_neg hc16] at hE
    refine y_iconst (v := (0 : Int32)) dX0_isEnoughAndNoneInVain_14 (by decide) ?_
    obtain rfl := Option.some.inj hE
    exact y_ret dX0_isEnoughAndNoneInVain_15 (Nat.le_refl _) (Nat.le_refl _) ⟨_, rfl, rfl⟩
