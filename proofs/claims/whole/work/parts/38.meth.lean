theorem dX7_night_0 : decode cX7_night 0 = .ok (.iconst 0, 1) := by decide +kernel
theorem dX7_night_1 : decode cX7_night 1 = .ok (.istore_n 1, 1) := by decide +kernel
theorem dX7_night_2 : decode cX7_night 2 = .ok (.iconst 0, 1) := by decide +kernel
theorem dX7_night_3 : decode cX7_night 3 = .ok (.istore_n 2, 1) := by decide +kernel
theorem dX7_night_4 : decode cX7_night 4 = .ok (.iload_n 2, 1) := by decide +kernel
theorem dX7_night_5 : decode cX7_night 5 = .ok (.aload_n 0, 1) := by decide +kernel
theorem dX7_night_6 : decode cX7_night 6 = .ok (.getfield 61, 3) := by decide +kernel
theorem dX7_night_9 : decode cX7_night 9 = .ok (.if_icmp .ge 48, 3) := by decide +kernel
theorem dX7_night_12 : decode cX7_night 12 = .ok (.aload_n 0, 1) := by decide +kernel
theorem dX7_night_13 : decode cX7_night 13 = .ok (.getfield 108, 3) := by decide +kernel
theorem dX7_night_16 : decode cX7_night 16 = .ok (.iload_n 2, 1) := by decide +kernel
theorem dX7_night_17 : decode cX7_night 17 = .ok (.invokestatic 116, 3) := by decide +kernel
theorem dX7_night_20 : decode cX7_night 20 = .ok (.ifCond .ne 31, 3) := by decide +kernel
theorem dX7_night_23 : decode cX7_night 23 = .ok (.aload_n 0, 1) := by decide +kernel
theorem dX7_night_24 : decode cX7_night 24 = .ok (.bipush 100, 2) := by decide +kernel
theorem dX7_night_26 : decode cX7_night 26 = .ok (.invokevirtual 364, 3) := by decide +kernel
theorem dX7_night_29 : decode cX7_night 29 = .ok (.aload_n 0, 1) := by decide +kernel
theorem dX7_night_30 : decode cX7_night 30 = .ok (.getfield 113, 3) := by decide +kernel
theorem dX7_night_33 : decode cX7_night 33 = .ok (.if_icmp .ge 18, 3) := by decide +kernel
theorem dX7_night_36 : decode cX7_night 36 = .ok (.aload_n 0, 1) := by decide +kernel
theorem dX7_night_37 : decode cX7_night 37 = .ok (.dup, 1) := by decide +kernel
theorem dX7_night_38 : decode cX7_night 38 = .ok (.getfield 108, 3) := by decide +kernel
theorem dX7_night_41 : decode cX7_night 41 = .ok (.iconst 1, 1) := by decide +kernel
theorem dX7_night_42 : decode cX7_night 42 = .ok (.iload_n 2, 1) := by decide +kernel
theorem dX7_night_43 : decode cX7_night 43 = .ok (.ishl, 1) := by decide +kernel
theorem dX7_night_44 : decode cX7_night 44 = .ok (.ior, 1) := by decide +kernel
theorem dX7_night_45 : decode cX7_night 45 = .ok (.putfield 108, 3) := by decide +kernel
theorem dX7_night_48 : decode cX7_night 48 = .ok (.iinc 1 1, 3) := by decide +kernel
theorem dX7_night_51 : decode cX7_night 51 = .ok (.iinc 2 1, 3) := by decide +kernel
theorem dX7_night_54 : decode cX7_night 54 = .ok (.goto (-50), 3) := by decide +kernel
theorem dX7_night_57 : decode cX7_night 57 = .ok (.iload_n 1, 1) := by decide +kernel
theorem dX7_night_58 : decode cX7_night 58 = .ok (.ireturn, 1) := by decide +kernel
theorem dX7_seed_0 : decode cX7_seed 0 = .ok (.aload_n 0, 1) := by decide +kernel
theorem dX7_seed_1 : decode cX7_seed 1 = .ok (.getfield 49, 3) := by decide +kernel
theorem dX7_seed_4 : decode cX7_seed 4 = .ok (.istore_n 2, 1) := by decide +kernel
theorem dX7_seed_5 : decode cX7_seed 5 = .ok (.aload_n 0, 1) := by decide +kernel
theorem dX7_seed_6 : decode cX7_seed 6 = .ok (.iload_n 1, 1) := by decide +kernel
theorem dX7_seed_7 : decode cX7_seed 7 = .ok (.putfield 49, 3) := by decide +kernel
theorem dX7_seed_10 : decode cX7_seed 10 = .ok (.iload_n 2, 1) := by decide +kernel
theorem dX7_seed_11 : decode cX7_seed 11 = .ok (.ireturn, 1) := by decide +kernel
theorem dX7_image_0 : decode cX7_image 0 = .ok (.aload_n 0, 1) := by decide +kernel
theorem dX7_image_1 : decode cX7_image 1 = .ok (.getfield 367, 3) := by decide +kernel
theorem dX7_image_4 : decode cX7_image 4 = .ok (.ifnonnull 14, 3) := by decide +kernel
theorem dX7_image_7 : decode cX7_image 7 = .ok (.aload_n 0, 1) := by decide +kernel
theorem dX7_image_8 : decode cX7_image 8 = .ok (.new 8, 3) := by decide +kernel
theorem dX7_image_11 : decode cX7_image 11 = .ok (.dup, 1) := by decide +kernel
theorem dX7_image_12 : decode cX7_image 12 = .ok (.invokespecial 343, 3) := by decide +kernel
theorem dX7_image_15 : decode cX7_image 15 = .ok (.putfield 367, 3) := by decide +kernel
theorem dX7_image_18 : decode cX7_image 18 = .ok (.aload_n 0, 1) := by decide +kernel
theorem dX7_image_19 : decode cX7_image 19 = .ok (.getfield 367, 3) := by decide +kernel
theorem dX7_image_22 : decode cX7_image 22 = .ok (.aload_n 0, 1) := by decide +kernel
theorem dX7_image_23 : decode cX7_image 23 = .ok (.invokevirtual 206, 3) := by decide +kernel
theorem dX7_image_26 : decode cX7_image 26 = .ok (.iconst 1, 1) := by decide +kernel
theorem dX7_image_27 : decode cX7_image 27 = .ok (.ireturn, 1) := by decide +kernel
theorem dX7_back_0 : decode cX7_back 0 = .ok (.aload_n 0, 1) := by decide +kernel
theorem dX7_back_1 : decode cX7_back 1 = .ok (.getfield 367, 3) := by decide +kernel
theorem dX7_back_4 : decode cX7_back 4 = .ok (.ifnonnull 10, 3) := by decide +kernel
theorem dX7_back_7 : decode cX7_back 7 = .ok (.aload_n 0, 1) := by decide +kernel
theorem dX7_back_8 : decode cX7_back 8 = .ok (.bipush (-5), 2) := by decide +kernel
theorem dX7_back_10 : decode cX7_back 10 = .ok (.invokevirtual 77, 3) := by decide +kernel
theorem dX7_back_13 : decode cX7_back 13 = .ok (.ireturn, 1) := by decide +kernel
theorem dX7_back_14 : decode cX7_back 14 = .ok (.aload_n 0, 1) := by decide +kernel
theorem dX7_back_15 : decode cX7_back 15 = .ok (.aload_n 0, 1) := by decide +kernel
theorem dX7_back_16 : decode cX7_back 16 = .ok (.getfield 367, 3) := by decide +kernel
theorem dX7_back_19 : decode cX7_back 19 = .ok (.invokevirtual 206, 3) := by decide +kernel
theorem dX7_back_22 : decode cX7_back 22 = .ok (.iconst 0, 1) := by decide +kernel
theorem dX7_back_23 : decode cX7_back 23 = .ok (.istore_n 1, 1) := by decide +kernel
theorem dX7_back_24 : decode cX7_back 24 = .ok (.iload_n 1, 1) := by decide +kernel
theorem dX7_back_25 : decode cX7_back 25 = .ok (.bipush 8, 2) := by decide +kernel
theorem dX7_back_27 : decode cX7_back 27 = .ok (.if_icmp .ge 39, 3) := by decide +kernel
theorem dX7_back_30 : decode cX7_back 30 = .ok (.aload_n 0, 1) := by decide +kernel
theorem dX7_back_31 : decode cX7_back 31 = .ok (.getfield 7, 3) := by decide +kernel
theorem dX7_back_34 : decode cX7_back 34 = .ok (.iload_n 1, 1) := by decide +kernel
theorem dX7_back_35 : decode cX7_back 35 = .ok (.iaload, 1) := by decide +kernel
theorem dX7_back_36 : decode cX7_back 36 = .ok (.iconst 2, 1) := by decide +kernel
theorem dX7_back_37 : decode cX7_back 37 = .ok (.if_icmp .ne 23, 3) := by decide +kernel
theorem dX7_back_40 : decode cX7_back 40 = .ok (.aload_n 0, 1) := by decide +kernel
theorem dX7_back_41 : decode cX7_back 41 = .ok (.getfield 28, 3) := by decide +kernel
theorem dX7_back_44 : decode cX7_back 44 = .ok (.iload_n 1, 1) := by decide +kernel
theorem dX7_back_45 : decode cX7_back 45 = .ok (.iaload, 1) := by decide +kernel
theorem dX7_back_46 : decode cX7_back 46 = .ok (.aload_n 0, 1) := by decide +kernel
theorem dX7_back_47 : decode cX7_back 47 = .ok (.getfield 61, 3) := by decide +kernel
theorem dX7_back_50 : decode cX7_back 50 = .ok (.if_icmp .lt 10, 3) := by decide +kernel
theorem dX7_back_53 : decode cX7_back 53 = .ok (.aload_n 0, 1) := by decide +kernel
theorem dX7_back_54 : decode cX7_back 54 = .ok (.getfield 7, 3) := by decide +kernel
theorem dX7_back_57 : decode cX7_back 57 = .ok (.iload_n 1, 1) := by decide +kernel
theorem dX7_back_58 : decode cX7_back 58 = .ok (.iconst 0, 1) := by decide +kernel
theorem dX7_back_59 : decode cX7_back 59 = .ok (.iastore, 1) := by decide +kernel
theorem dX7_back_60 : decode cX7_back 60 = .ok (.iinc 1 1, 3) := by decide +kernel
theorem dX7_back_63 : decode cX7_back 63 = .ok (.goto (-39), 3) := by decide +kernel
theorem dX7_back_66 : decode cX7_back 66 = .ok (.iconst 1, 1) := by decide +kernel
theorem dX7_back_67 : decode cX7_back 67 = .ok (.ireturn, 1) := by decide +kernel
theorem dX7_status_0 : decode cX7_status 0 = .ok (.iconst 0, 1) := by decide +kernel
theorem dX7_status_1 : decode cX7_status 1 = .ok (.istore_n 2, 1) := by decide +kernel
theorem dX7_status_2 : decode cX7_status 2 = .ok (.iload_n 1, 1) := by decide +kernel
theorem dX7_status_3 : decode cX7_status 3 = .ok (.tableswitch 146 0 8 #[49, 54, 83, 88, 93, 98, 103, 108, 113], 49) := by decide +kernel
theorem dX7_status_52 : decode cX7_status 52 = .ok (.aload_n 0, 1) := by decide +kernel
theorem dX7_status_53 : decode cX7_status 53 = .ok (.getfield 61, 3) := by decide +kernel
theorem dX7_status_56 : decode cX7_status 56 = .ok (.ireturn, 1) := by decide +kernel
theorem dX7_status_57 : decode cX7_status 57 = .ok (.iconst 0, 1) := by decide +kernel
theorem dX7_status_58 : decode cX7_status 58 = .ok (.istore_n 3, 1) := by decide +kernel
theorem dX7_status_59 : decode cX7_status 59 = .ok (.iload_n 3, 1) := by decide +kernel
theorem dX7_status_60 : decode cX7_status 60 = .ok (.aload_n 0, 1) := by decide +kernel
theorem dX7_status_61 : decode cX7_status 61 = .ok (.getfield 61, 3) := by decide +kernel
theorem dX7_status_64 : decode cX7_status 64 = .ok (.if_icmp .ge 20, 3) := by decide +kernel
theorem dX7_status_67 : decode cX7_status 67 = .ok (.iload_n 2, 1) := by decide +kernel
theorem dX7_status_68 : decode cX7_status 68 = .ok (.aload_n 0, 1) := by decide +kernel
theorem dX7_status_69 : decode cX7_status 69 = .ok (.getfield 108, 3) := by decide +kernel
theorem dX7_status_72 : decode cX7_status 72 = .ok (.iload_n 3, 1) := by decide +kernel
theorem dX7_status_73 : decode cX7_status 73 = .ok (.ishr, 1) := by decide +kernel
theorem dX7_status_74 : decode cX7_status 74 = .ok (.iconst 1, 1) := by decide +kernel
theorem dX7_status_75 : decode cX7_status 75 = .ok (.iand, 1) := by decide +kernel
theorem dX7_status_76 : decode cX7_status 76 = .ok (.iadd, 1) := by decide +kernel
theorem dX7_status_77 : decode cX7_status 77 = .ok (.istore_n 2, 1) := by decide +kernel
theorem dX7_status_78 : decode cX7_status 78 = .ok (.iinc 3 1, 3) := by decide +kernel
theorem dX7_status_81 : decode cX7_status 81 = .ok (.goto (-22), 3) := by decide +kernel
theorem dX7_status_84 : decode cX7_status 84 = .ok (.iload_n 2, 1) := by decide +kernel
theorem dX7_status_85 : decode cX7_status 85 = .ok (.ireturn, 1) := by decide +kernel
theorem dX7_status_86 : decode cX7_status 86 = .ok (.aload_n 0, 1) := by decide +kernel
theorem dX7_status_87 : decode cX7_status 87 = .ok (.getfield 68, 3) := by decide +kernel
theorem dX7_status_90 : decode cX7_status 90 = .ok (.ireturn, 1) := by decide +kernel
theorem dX7_status_91 : decode cX7_status 91 = .ok (.aload_n 0, 1) := by decide +kernel
theorem dX7_status_92 : decode cX7_status 92 = .ok (.getfield 45, 3) := by decide +kernel
theorem dX7_status_95 : decode cX7_status 95 = .ok (.ireturn, 1) := by decide +kernel
theorem dX7_status_96 : decode cX7_status 96 = .ok (.aload_n 0, 1) := by decide +kernel
theorem dX7_status_97 : decode cX7_status 97 = .ok (.getfield 113, 3) := by decide +kernel
theorem dX7_status_100 : decode cX7_status 100 = .ok (.ireturn, 1) := by decide +kernel
theorem dX7_status_101 : decode cX7_status 101 = .ok (.aload_n 0, 1) := by decide +kernel
theorem dX7_status_102 : decode cX7_status 102 = .ok (.getfield 246, 3) := by decide +kernel
theorem dX7_status_105 : decode cX7_status 105 = .ok (.ireturn, 1) := by decide +kernel
theorem dX7_status_106 : decode cX7_status 106 = .ok (.aload_n 0, 1) := by decide +kernel
theorem dX7_status_107 : decode cX7_status 107 = .ok (.getfield 123, 3) := by decide +kernel
theorem dX7_status_110 : decode cX7_status 110 = .ok (.ireturn, 1) := by decide +kernel
theorem dX7_status_111 : decode cX7_status 111 = .ok (.aload_n 0, 1) := by decide +kernel
theorem dX7_status_112 : decode cX7_status 112 = .ok (.getfield 49, 3) := by decide +kernel
theorem dX7_status_115 : decode cX7_status 115 = .ok (.ireturn, 1) := by decide +kernel
theorem dX7_status_116 : decode cX7_status 116 = .ok (.iconst 0, 1) := by decide +kernel
theorem dX7_status_117 : decode cX7_status 117 = .ok (.istore_n 3, 1) := by decide +kernel
theorem dX7_status_118 : decode cX7_status 118 = .ok (.iload_n 3, 1) := by decide +kernel
theorem dX7_status_119 : decode cX7_status 119 = .ok (.bipush 8, 2) := by decide +kernel
theorem dX7_status_121 : decode cX7_status 121 = .ok (.if_icmp .ge 26, 3) := by decide +kernel
theorem dX7_status_124 : decode cX7_status 124 = .ok (.iload_n 2, 1) := by decide +kernel
theorem dX7_status_125 : decode cX7_status 125 = .ok (.aload_n 0, 1) := by decide +kernel
theorem dX7_status_126 : decode cX7_status 126 = .ok (.getfield 7, 3) := by decide +kernel
theorem dX7_status_129 : decode cX7_status 129 = .ok (.iload_n 3, 1) := by decide +kernel
theorem dX7_status_130 : decode cX7_status 130 = .ok (.iaload, 1) := by decide +kernel
theorem dX7_status_131 : decode cX7_status 131 = .ok (.ifCond .eq 7, 3) := by decide +kernel
theorem dX7_status_134 : decode cX7_status 134 = .ok (.iconst 1, 1) := by decide +kernel
theorem dX7_status_135 : decode cX7_status 135 = .ok (.goto 4, 3) := by decide +kernel
theorem dX7_status_138 : decode cX7_status 138 = .ok (.iconst 0, 1) := by decide +kernel
theorem dX7_status_139 : decode cX7_status 139 = .ok (.iadd, 1) := by decide +kernel
theorem dX7_status_140 : decode cX7_status 140 = .ok (.istore_n 2, 1) := by decide +kernel
theorem dX7_status_141 : decode cX7_status 141 = .ok (.iinc 3 1, 3) := by decide +kernel
theorem dX7_status_144 : decode cX7_status 144 = .ok (.goto (-26), 3) := by decide +kernel
theorem dX7_status_147 : decode cX7_status 147 = .ok (.iload_n 2, 1) := by decide +kernel
theorem dX7_status_148 : decode cX7_status 148 = .ok (.ireturn, 1) := by decide +kernel
theorem dX7_status_149 : decode cX7_status 149 = .ok (.iload_n 1, 1) := by decide +kernel
theorem dX7_status_150 : decode cX7_status 150 = .ok (.i2l, 1) := by decide +kernel
theorem dX7_status_151 : decode cX7_status 151 = .ok (.ldc2_w 370, 3) := by decide +kernel
theorem dX7_status_154 : decode cX7_status 154 = .ok (.ldc2_w 372, 3) := by decide +kernel
theorem dX7_status_157 : decode cX7_status 157 = .ok (.invokestatic 64, 3) := by decide +kernel
theorem dX7_status_160 : decode cX7_status 160 = .ok (.ifCond .eq 15, 3) := by decide +kernel
theorem dX7_status_163 : decode cX7_status 163 = .ok (.aload_n 0, 1) := by decide +kernel
theorem dX7_status_164 : decode cX7_status 164 = .ok (.getfield 34, 3) := by decide +kernel
theorem dX7_status_167 : decode cX7_status 167 = .ok (.iload_n 1, 1) := by decide +kernel
theorem dX7_status_168 : decode cX7_status 168 = .ok (.bipush 10, 2) := by decide +kernel
theorem dX7_status_170 : decode cX7_status 170 = .ok (.isub, 1) := by decide +kernel
theorem dX7_status_171 : decode cX7_status 171 = .ok (.iaload, 1) := by decide +kernel
theorem dX7_status_172 : decode cX7_status 172 = .ok (.goto 4, 3) := by decide +kernel
theorem dX7_status_175 : decode cX7_status 175 = .ok (.iconst (-1), 1) := by decide +kernel
theorem dX7_status_176 : decode cX7_status 176 = .ok (.ireturn, 1) := by decide +kernel
def f_X7_night_L4 (v0 : Nat) : Nat → Int32 → Int32 → xH → Option (Int32 × xH)
  | 0, _, _, _ => none
  | k + 1, v1, v2, h =>
    (x_gI h v0 7 9).bind fun x1 =>
    if x1 ≤ v2 then
      some (v1, h)
    else
      (x_gI h v0 7 11).bind fun x2 =>
      (f_X7_has h x2 v2).bind fun q3 =>
      if q3 = 0 then
        (x_ob h v0 7).bind fun u4 =>
        (f_X7_draw h v0 (100 : Int32)).bind fun q5 =>
        (x_gI q5.2 v0 7 15).bind fun x6 =>
        if x6 ≤ q5.1 then
          (some (v2 + (1 : Int32))).bind fun x7 =>
          f_X7_night_L4 v0 k v1 x7 q5.2
        else
          (x_gI q5.2 v0 7 11).bind fun x8 =>
          (x_put q5.2 v0 7 11 (.int (x8 ||| (i_shl (1 : Int32) v2)))).bind fun h9 =>
          (some (v1 + (1 : Int32))).bind fun x10 =>
          (some (v2 + (1 : Int32))).bind fun x11 =>
          f_X7_night_L4 v0 k x10 x11 h9
      else
        (some (v2 + (1 : Int32))).bind fun x13 =>
        f_X7_night_L4 v0 k v1 x13 h
set_option maxRecDepth 100000 in
set_option maxHeartbeats 4000000 in
theorem l_X7_night_4 {S : Nat × (Nat → Int32)} {rv : Option Value} {h0 h1 : xH} {mc ms : Nat} {cells slots : Nat} (hm : cells ≤ mc ∧ slots ≤ ms) (v0 : Nat) : ∀ (k : Nat) (v1 : Int32) (v2 : Int32) (h : xH) (res : Int32 × xH), f_X7_night_L4 v0 k v1 v2 h = some res → (∀ r9, res = r9 → Y S M_X7_night h0 rv h1 mc ms 57 [(1, .int r9.1)] [] r9.2 cells slots) → Y S M_X7_night h0 rv h1 mc ms 4 [(0, .ref v0), (1, .int v1), (2, .int v2)] [] h cells slots := by
  intro k
  induction k with
  | zero =>
    intro _ _ _ _ hE
    cases hE
  | succ k ih =>
    intro v1 v2 h res hE K
    unfold f_X7_night_L4 at hE
    refine y_iload_n dX7_night_4 2 rfl ?_
    refine y_aload_n dX7_night_5 0 rfl ?_
    obtain ⟨x1, ex1, hE⟩ := Option.bind_eq_some_iff.mp hE
    refine y_getI fl_X7_61 ex1 dX7_night_6 ?_
    refine y_icmp_ge (tgt := 57) dX7_night_9 (by decide) (fun hc15 => ?_) (fun hc15 => ?_)
    · rw [if_pos hc15] at hE
      obtain rfl := Option.some.inj hE
      exact y_pick [1] rfl (K _ rfl)
    · rw [if_neg hc15] at hE
      refine y_aload_n dX7_night_12 0 rfl ?_
      obtain ⟨x2, ex2, hE⟩ := Option.bind_eq_some_iff.mp hE
      refine y_getI fl_X7_108 ex2 dX7_night_13 ?_
      refine y_iload_n dX7_night_16 2 rfl ?_
      obtain ⟨q3, eq3, hE⟩ := Option.bind_eq_some_iff.mp hE
      refine y_cSi0 (st := []) (as := [.int x2, .int v2]) (c_X7_has eq3) lk_X7_116 st_X7_has ⟨Nat.le_of_ble_eq_true rfl, Nat.le_of_ble_eq_true rfl⟩ (Nat.le_of_ble_eq_true rfl) dX7_night_17 hm rfl ?_
      refine y_if_ne (tgt := 51) dX7_night_20 (by decide) (fun hc14 => ?_) (fun hc14 => ?_)
      · rw [if_pos hc14] at hE
        refine y_aload_n dX7_night_23 0 rfl ?_
        refine y_bipush (v := (100 : Int32)) dX7_night_24 (by decide) ?_
        obtain ⟨u4, eu4, hE⟩ := Option.bind_eq_some_iff.mp hE
        obtain ⟨q5, eq5, hE⟩ := Option.bind_eq_some_iff.mp hE
        refine y_cVi0 (st := []) (as := [.int (100 : Int32)]) (c_X7_draw eq5) lk_X7_364 in_X7_draw se_X7_draw rfl eu4 ⟨Nat.le_of_ble_eq_true rfl, Nat.le_of_ble_eq_true rfl⟩ (Nat.le_of_ble_eq_true rfl) dX7_night_26 hm rfl ?_
        refine y_aload_n dX7_night_29 0 rfl ?_
        obtain ⟨x6, ex6, hE⟩ := Option.bind_eq_some_iff.mp hE
        refine y_getI fl_X7_113 ex6 dX7_night_30 ?_
        refine y_icmp_ge (tgt := 51) dX7_night_33 (by decide) (fun hc12 => ?_) (fun hc12 => ?_)
        · rw [if_pos hc12] at hE
          obtain ⟨x7, ex7, hE⟩ := Option.bind_eq_some_iff.mp hE
          refine y_iinc (ls' := [(2, .int x7), (0, .ref v0), (1, .int v1)]) dX7_night_51 2 rfl (Option.some.inj ex7) (by decide) rfl ?_
          refine y_goto (tgt := 4) dX7_night_54 (by decide) ?_
          refine y_pick [1, 2, 0] rfl ?_
          exact ih _ _ _ _ hE K
        · rw [if_neg hc12] at hE
          refine y_aload_n dX7_night_36 0 rfl ?_
          refine y_dup dX7_night_37 rfl ?_
          obtain ⟨x8, ex8, hE⟩ := Option.bind_eq_some_iff.mp hE
          refine y_getI fl_X7_108 ex8 dX7_night_38 ?_
          refine y_iconst (v := (1 : Int32)) dX7_night_41 (by decide) ?_
          refine y_iload_n dX7_night_42 2 rfl ?_
          refine y_ishl dX7_night_43 ?_
          refine y_ior dX7_night_44 ?_
          obtain ⟨h9, eh9, hE⟩ := Option.bind_eq_some_iff.mp hE
          refine y_putI fp_X7_108 eh9 dX7_night_45 ?_
          obtain ⟨x10, ex10, hE⟩ := Option.bind_eq_some_iff.mp hE
          refine y_iinc (ls' := [(1, .int x10), (0, .ref v0), (2, .int v2)]) dX7_night_48 1 rfl (Option.some.inj ex10) (by decide) rfl ?_
          obtain ⟨x11, ex11, hE⟩ := Option.bind_eq_some_iff.mp hE
          refine y_iinc (ls' := [(2, .int x11), (1, .int x10), (0, .ref v0)]) dX7_night_51 2 rfl (Option.some.inj ex11) (by decide) rfl ?_
          refine y_goto (tgt := 4) dX7_night_54 (by decide) ?_
          refine y_pick [2, 1, 0] rfl ?_
          exact ih _ _ _ _ hE K
      · rw [if_neg hc14] at hE
        obtain ⟨x13, ex13, hE⟩ := Option.bind_eq_some_iff.mp hE
        refine y_iinc (ls' := [(2, .int x13), (0, .ref v0), (1, .int v1)]) dX7_night_51 2 rfl (Option.some.inj ex13) (by decide) rfl ?_
        refine y_goto (tgt := 4) dX7_night_54 (by decide) ?_
        refine y_pick [1, 2, 0] rfl ?_
        exact ih _ _ _ _ hE K
def f_X7_night (n : Nat) (h : xH) (a0 : Nat) : Option (Int32 × xH) :=
  (f_X7_night_L4 a0 n (0 : Int32) (0 : Int32) h).bind fun q16 =>
  some (q16.1, q16.2)
set_option maxRecDepth 100000 in
set_option maxHeartbeats 4000000 in
theorem c_X7_night {n : Nat} {h : xH} {a0 : Nat} {r9 : Int32} {hz : xH} (hE : f_X7_night n h a0 = some (r9, hz)) : Ctr M_X7_night [.ref a0] h (some (.int r9)) hz 0 0 := by
  refine ctr_of (by decide) (fun _ _ => Nat.le_of_ble_eq_true rfl) (fun S => ?_)
  show Y S M_X7_night h (some (.int r9)) hz 0 0 0 [(0, .ref a0)] [] h 0 0
  unfold f_X7_night at hE
  refine y_iconst (v := (0 : Int32)) dX7_night_0 (by decide) ?_
  refine y_istore_n (ls' := [(1, .int (0 : Int32)), (0, .ref a0)]) dX7_night_1 (by decide) rfl rfl ?_
  refine y_iconst (v := (0 : Int32)) dX7_night_2 (by decide) ?_
  refine y_istore_n (ls' := [(2, .int (0 : Int32)), (1, .int (0 : Int32)), (0, .ref a0)]) dX7_night_3 (by decide) rfl rfl ?_
  obtain ⟨q16, eq16, hE⟩ := Option.bind_eq_some_iff.mp hE
  refine y_pick [2, 1, 0] rfl ?_
  refine l_X7_night_4 (S := S) ⟨Nat.le_refl _, Nat.le_refl _⟩ a0 n (0 : Int32) (0 : Int32) h _ eq16 (fun r8 hr8 => ?_)
  subst hr8
  refine y_iload_n dX7_night_57 0 rfl ?_
  obtain ⟨rfl, rfl⟩ := x_inj2 hE
  exact y_ret dX7_night_58 (Nat.le_refl _) (Nat.le_refl _) ⟨_, rfl, rfl⟩
def f_X7_seed (h : xH) (a0 : Nat) (p1 : Int32) : Option (Int32 × xH) :=
  (x_gI h a0 7 17).bind fun x1 =>
  (x_put h a0 7 17 (.int p1)).bind fun h2 =>
  some (x1, h2)
set_option maxRecDepth 100000 in
set_option maxHeartbeats 4000000 in
theorem c_X7_seed {h : xH} {a0 : Nat} {p1 : Int32} {r9 : Int32} {hz : xH} (hE : f_X7_seed h a0 p1 = some (r9, hz)) : Ctr M_X7_seed [.ref a0, .int p1] h (some (.int r9)) hz 0 0 := by
  refine ctr_of (by decide) (fun _ _ => Nat.le_of_ble_eq_true rfl) (fun S => ?_)
  show Y S M_X7_seed h (some (.int r9)) hz 0 0 0 [(0, .ref a0), (1, .int p1)] [] h 0 0
  unfold f_X7_seed at hE
  refine y_aload_n dX7_seed_0 0 rfl ?_
  obtain ⟨x1, ex1, hE⟩ := Option.bind_eq_some_iff.mp hE
  refine y_getI fl_X7_49 ex1 dX7_seed_1 ?_
  refine y_istore_n (ls' := [(2, .int x1), (0, .ref a0), (1, .int p1)]) dX7_seed_4 (by decide) rfl rfl ?_
  refine y_aload_n dX7_seed_5 1 rfl ?_
  refine y_iload_n dX7_seed_6 2 rfl ?_
  obtain ⟨h2, eh2, hE⟩ := Option.bind_eq_some_iff.mp hE
  refine y_putI fp_X7_49 eh2 dX7_seed_7 ?_
  refine y_iload_n dX7_seed_10 0 rfl ?_
  obtain ⟨rfl, rfl⟩ := x_inj2 hE
  exact y_ret dX7_seed_11 (Nat.le_refl _) (Nat.le_refl _) ⟨_, rfl, rfl⟩
def f_X7_image (n : Nat) (h : xH) (a0 : Nat) : Option ((Int32 × xH) × Nat × Nat) :=
  (x_gN h a0 7 18).bind fun b1 =>
  if b1 = false then
    x_add 1 40 <|
    (f_X7_init (h ++ [.inr (7, [.null, .null, .null, .null, .null, .null, .null, .int 0, .null, .int 0, .null, .int 0, .int 0, .null, .int 0, .int 0, .int 0, .int 0, .null, .null, .int 0, .int 0, .int 0, .int 0, .int 0, .null, .int 0, .null, .null, .null, .int 0, .null, .int 0, .int 0, .null, .null, .int 0, .int 0, .int 0, .int 0])]) (h.length + 16)).bind fun q4 =>
    x_add q4.2.1 q4.2.2 <|
    (x_put q4.1 a0 7 18 (.ref (h.length + 16))).bind fun h7 =>
    (x_gR h7 a0 7 18).bind fun a8 =>
    (x_ob h7 a8 7).bind fun u9 =>
    (f_X7_takeFrom n h7 a8 a0).bind fun q10 =>
    some (((1 : Int32), q10), 0, 0)
  else
    (x_gR h a0 7 18).bind fun a11 =>
    (x_ob h a11 7).bind fun u12 =>
    (f_X7_takeFrom n h a11 a0).bind fun q13 =>
    some (((1 : Int32), q13), 0, 0)
set_option maxRecDepth 100000 in
set_option maxHeartbeats 4000000 in
theorem c_X7_image {n : Nat} {h : xH} {a0 : Nat} {r9 : Int32} {hz : xH} {c9 s9 : Nat} (hE : f_X7_image n h a0 = some ((r9, hz), c9, s9)) : Ctr M_X7_image [.ref a0] h (some (.int r9)) hz c9 s9 := by
  refine ctr_of (by decide) (fun _ _ => Nat.le_of_ble_eq_true rfl) (fun S => ?_)
  show Y S M_X7_image h (some (.int r9)) hz c9 s9 0 [(0, .ref a0)] [] h 0 0
  unfold f_X7_image at hE
  refine y_aload_n dX7_image_0 0 rfl ?_
  obtain ⟨b1, eb1, hE⟩ := Option.bind_eq_some_iff.mp hE
  cases b1 with
  | false =>
    rw [if_pos rfl] at hE
    refine y_get fl_X7_367 (x_gN.no eb1) dX7_image_1 ?_
    refine y_nonnullN dX7_image_4 ?_
    refine y_aload_n dX7_image_7 0 rfl ?_
    obtain ⟨c2, s3, hN, ecc2, ess3⟩ := x_add.spec hE
    clear hE; have hE := hN; clear hN
    refine y_new (fs := [.null, .null, .null, .null, .null, .null, .null, .int 0, .null, .int 0, .null, .int 0, .int 0, .null, .int 0, .int 0, .int 0, .int 0, .null, .null, .int 0, .int 0, .int 0, .int 0, .int 0, .null, .int 0, .null, .null, .null, .int 0, .null, .int 0, .int 0, .null, .null, .int 0, .int 0, .int 0, .int 0]) cl_X7 (x_wt (tb 1164 (by decide +kernel)) rfl) (x_wt (tb 917 (by decide +kernel)) rfl) (x_wt (tb 8 (by decide +kernel)) rfl) (by decide) rfl ⟨by omega, by omega⟩ dX7_image_8 ?_
    refine y_dup dX7_image_11 rfl ?_
    obtain ⟨q4, eq4, hE⟩ := Option.bind_eq_some_iff.mp hE
    obtain ⟨c5, s6, hN, ecc5, ess6⟩ := x_add.spec hE
    clear hE; have hE := hN; clear hN
    refine y_cIv1 (st := [.ref (h.length + 16), .ref a0]) (as := []) (c_X7_init (eq4.trans (show some q4 = some (q4.1, q4.2.1, q4.2.2) from rfl))) lk_X7_343 in_X7_init rfl rfl (by omega) ⟨Nat.le_of_ble_eq_true rfl, Nat.le_of_ble_eq_true rfl⟩ (Nat.le_of_ble_eq_true rfl) dX7_image_12 ⟨by omega, by omega⟩ rfl ?_
    obtain ⟨h7, eh7, hE⟩ := Option.bind_eq_some_iff.mp hE
    refine y_putR fp_X7_367 (fun q => by first | rfl | cases q) (fun _ => rfl) (fun _ => rfl) eh7 dX7_image_15 ?_
    refine y_aload_n dX7_image_18 0 rfl ?_
    obtain ⟨a8, ea8, hE⟩ := Option.bind_eq_some_iff.mp hE
    refine y_getR fl_X7_367 ea8 dX7_image_19 ?_
    refine y_aload_n dX7_image_22 0 rfl ?_
    obtain ⟨u9, eu9, hE⟩ := Option.bind_eq_some_iff.mp hE
    obtain ⟨q10, eq10, hE⟩ := Option.bind_eq_some_iff.mp hE
    refine y_cVv0 (st := []) (as := [.ref a0]) (c_X7_takeFrom eq10) lk_X7_206 in_X7_takeFrom se_X7_takeFrom rfl eu9 ⟨Nat.le_of_ble_eq_true rfl, Nat.le_of_ble_eq_true rfl⟩ (Nat.le_of_ble_eq_true rfl) dX7_image_23 ⟨by omega, by omega⟩ rfl ?_
    refine y_iconst (v := (1 : Int32)) dX7_image_26 (by decide) ?_
    obtain ⟨rfl, rfl, rfl, rfl⟩ := x_inj4 hE
    exact y_ret dX7_image_27 (by omega) (by omega) ⟨_, rfl, rfl⟩
  | true =>
    rw [if_neg (by decide)] at hE
    obtain ⟨_, e9⟩ := x_gN.yes eb1
    refine y_get fl_X7_367 e9 dX7_image_1 ?_
    refine y_nonnullR (tgt := 18) dX7_image_4 (by decide) ?_
    refine y_aload_n dX7_image_18 0 rfl ?_
    obtain ⟨a11, ea11, hE⟩ := Option.bind_eq_some_iff.mp hE
    refine y_getR fl_X7_367 ea11 dX7_image_19 ?_
    refine y_aload_n dX7_image_22 0 rfl ?_
    obtain ⟨u12, eu12, hE⟩ := Option.bind_eq_some_iff.mp hE
    obtain ⟨q13, eq13, hE⟩ := Option.bind_eq_some_iff.mp hE
    refine y_cVv0 (st := []) (as := [.ref a0]) (c_X7_takeFrom eq13) lk_X7_206 in_X7_takeFrom se_X7_takeFrom rfl eu12 ⟨Nat.le_of_ble_eq_true rfl, Nat.le_of_ble_eq_true rfl⟩ (Nat.le_of_ble_eq_true rfl) dX7_image_23 ⟨by omega, by omega⟩ rfl ?_
    refine y_iconst (v := (1 : Int32)) dX7_image_26 (by decide) ?_
    obtain ⟨rfl, rfl, rfl, rfl⟩ := x_inj4 hE
    exact y_ret dX7_image_27 (by omega) (by omega) ⟨_, rfl, rfl⟩
def f_X7_back_L24 (v0 : Nat) : Nat → Int32 → xH → Option (xH)
  | 0, _, _ => none
  | k + 1, v1, h =>
    if (8 : Int32) ≤ v1 then
      some h
    else
      (x_gR h v0 7 0).bind fun a7 =>
      (x_ld h a7 v1).bind fun x8 =>
      if x8 = (2 : Int32) then
        (x_gR h v0 7 5).bind fun a9 =>
        (x_ld h a9 v1).bind fun x10 =>
        (x_gI h v0 7 9).bind fun x11 =>
        if x10 < x11 then
          (some (v1 + (1 : Int32))).bind fun x12 =>
          f_X7_back_L24 v0 k x12 h
        else
          (x_gR h v0 7 0).bind fun a13 =>
          (x_st h a13 v1 (0 : Int32)).bind fun h14 =>
          (some (v1 + (1 : Int32))).bind fun x15 =>
          f_X7_back_L24 v0 k x15 h14
      else
        (some (v1 + (1 : Int32))).bind fun x17 =>
        f_X7_back_L24 v0 k x17 h
set_option maxRecDepth 100000 in
set_option maxHeartbeats 4000000 in
theorem l_X7_back_24 {S : Nat × (Nat → Int32)} {rv : Option Value} {h0 h1 : xH} {mc ms : Nat} {cells slots : Nat} (hm : cells ≤ mc ∧ slots ≤ ms) (v0 : Nat) : ∀ (k : Nat) (v1 : Int32) (h : xH) (res : xH), f_X7_back_L24 v0 k v1 h = some res → (∀ r9, res = r9 → Y S M_X7_back h0 rv h1 mc ms 66 [] [] r9 cells slots) → Y S M_X7_back h0 rv h1 mc ms 24 [(0, .ref v0), (1, .int v1)] [] h cells slots := by
  intro k
  induction k with
  | zero =>
    intro _ _ _ hE
    cases hE
  | succ k ih =>
    intro v1 h res hE K
    unfold f_X7_back_L24 at hE
    refine y_iload_n dX7_back_24 1 rfl ?_
    refine y_bipush (v := (8 : Int32)) dX7_back_25 (by decide) ?_
    refine y_icmp_ge (tgt := 66) dX7_back_27 (by decide) (fun hc19 => ?_) (fun hc19 => ?_)
    · rw [if_pos hc19] at hE
      obtain rfl := Option.some.inj hE
      exact y_pick [] rfl (K _ rfl)
    · rw [if_neg hc19] at hE
      refine y_aload_n dX7_back_30 0 rfl ?_
      obtain ⟨a7, ea7, hE⟩ := Option.bind_eq_some_iff.mp hE
      refine y_getR fl_X7_7 ea7 dX7_back_31 ?_
      refine y_iload_n dX7_back_34 1 rfl ?_
      obtain ⟨x8, ex8, hE⟩ := Option.bind_eq_some_iff.mp hE
      refine y_iald ex8 dX7_back_35 ?_
      refine y_iconst (v := (2 : Int32)) dX7_back_36 (by decide) ?_
      refine y_icmp_ne (tgt := 60) dX7_back_37 (by decide) (fun hc18 => ?_) (fun hc18 => ?_)
      · rw [if_pos hc18] at hE
        refine y_aload_n dX7_back_40 0 rfl ?_
        obtain ⟨a9, ea9, hE⟩ := Option.bind_eq_some_iff.mp hE
        refine y_getR fl_X7_28 ea9 dX7_back_41 ?_
        refine y_iload_n dX7_back_44 1 rfl ?_
        obtain ⟨x10, ex10, hE⟩ := Option.bind_eq_some_iff.mp hE
        refine y_iald ex10 dX7_back_45 ?_
        refine y_aload_n dX7_back_46 0 rfl ?_
        obtain ⟨x11, ex11, hE⟩ := Option.bind_eq_some_iff.mp hE
        refine y_getI fl_X7_61 ex11 dX7_back_47 ?_
        refine y_icmp_lt (tgt := 60) dX7_back_50 (by decide) (fun hc16 => ?_) (fun hc16 => ?_)
        · rw [if_pos hc16] at hE
          obtain ⟨x12, ex12, hE⟩ := Option.bind_eq_some_iff.mp hE
          refine y_iinc (ls' := [(1, .int x12), (0, .ref v0)]) dX7_back_60 1 rfl (Option.some.inj ex12) (by decide) rfl ?_
          refine y_goto (tgt := 24) dX7_back_63 (by decide) ?_
          refine y_pick [1, 0] rfl ?_
          exact ih _ _ _ hE K
        · rw [if_neg hc16] at hE
          refine y_aload_n dX7_back_53 0 rfl ?_
          obtain ⟨a13, ea13, hE⟩ := Option.bind_eq_some_iff.mp hE
          refine y_getR fl_X7_7 ea13 dX7_back_54 ?_
          refine y_iload_n dX7_back_57 1 rfl ?_
          refine y_iconst (v := (0 : Int32)) dX7_back_58 (by decide) ?_
          obtain ⟨h14, eh14, hE⟩ := Option.bind_eq_some_iff.mp hE
          refine y_iast eh14 dX7_back_59 ?_
          obtain ⟨x15, ex15, hE⟩ := Option.bind_eq_some_iff.mp hE
          refine y_iinc (ls' := [(1, .int x15), (0, .ref v0)]) dX7_back_60 1 rfl (Option.some.inj ex15) (by decide) rfl ?_
          refine y_goto (tgt := 24) dX7_back_63 (by decide) ?_
          refine y_pick [1, 0] rfl ?_
          exact ih _ _ _ hE K
      · rw [if_neg hc18] at hE
        obtain ⟨x17, ex17, hE⟩ := Option.bind_eq_some_iff.mp hE
        refine y_iinc (ls' := [(1, .int x17), (0, .ref v0)]) dX7_back_60 1 rfl (Option.some.inj ex17) (by decide) rfl ?_
        refine y_goto (tgt := 24) dX7_back_63 (by decide) ?_
        refine y_pick [1, 0] rfl ?_
        exact ih _ _ _ hE K
def f_X7_back (n : Nat) (h : xH) (a0 : Nat) : Option (Int32 × xH) :=
  (x_gN h a0 7 18).bind fun b1 =>
  if b1 = false then
    (x_ob h a0 7).bind fun u2 =>
    (f_X7_refuse h a0 (-5 : Int32)).bind fun q3 =>
    some (q3.1, q3.2)
  else
    (x_gR h a0 7 18).bind fun a4 =>
    (x_ob h a0 7).bind fun u5 =>
    (f_X7_takeFrom n h a0 a4).bind fun q6 =>
    (f_X7_back_L24 a0 n (0 : Int32) q6).bind fun q20 =>
    some ((1 : Int32), q20)
set_option maxRecDepth 100000 in
set_option maxHeartbeats 4000000 in
theorem c_X7_back {n : Nat} {h : xH} {a0 : Nat} {r9 : Int32} {hz : xH} (hE : f_X7_back n h a0 = some (r9, hz)) : Ctr M_X7_back [.ref a0] h (some (.int r9)) hz 0 0 := by
  refine ctr_of (by decide) (fun _ _ => Nat.le_of_ble_eq_true rfl) (fun S => ?_)
  show Y S M_X7_back h (some (.int r9)) hz 0 0 0 [(0, .ref a0)] [] h 0 0
  unfold f_X7_back at hE
  refine y_aload_n dX7_back_0 0 rfl ?_
  obtain ⟨b1, eb1, hE⟩ := Option.bind_eq_some_iff.mp hE
  cases b1 with
  | false =>
    rw [if_pos rfl] at hE
    refine y_get fl_X7_367 (x_gN.no eb1) dX7_back_1 ?_
    refine y_nonnullN dX7_back_4 ?_
    refine y_aload_n dX7_back_7 0 rfl ?_
    refine y_bipush (v := (-5 : Int32)) dX7_back_8 (by decide) ?_
    obtain ⟨u2, eu2, hE⟩ := Option.bind_eq_some_iff.mp hE
    obtain ⟨q3, eq3, hE⟩ := Option.bind_eq_some_iff.mp hE
    refine y_cVi0 (st := []) (as := [.int (-5 : Int32)]) (c_X7_refuse eq3) lk_X7_77 in_X7_refuse se_X7_refuse rfl eu2 ⟨Nat.le_of_ble_eq_true rfl, Nat.le_of_ble_eq_true rfl⟩ (Nat.le_of_ble_eq_true rfl) dX7_back_10 ⟨Nat.le_refl _, Nat.le_refl _⟩ rfl ?_
    obtain ⟨rfl, rfl⟩ := x_inj2 hE
    exact y_ret dX7_back_13 (Nat.le_refl _) (Nat.le_refl _) ⟨_, rfl, rfl⟩
  | true =>
    rw [if_neg (by decide)] at hE
    obtain ⟨_, e9⟩ := x_gN.yes eb1
    refine y_get fl_X7_367 e9 dX7_back_1 ?_
    refine y_nonnullR (tgt := 14) dX7_back_4 (by decide) ?_
    refine y_aload_n dX7_back_14 0 rfl ?_
    refine y_aload_n dX7_back_15 0 rfl ?_
    obtain ⟨a4, ea4, hE⟩ := Option.bind_eq_some_iff.mp hE
    refine y_getR fl_X7_367 ea4 dX7_back_16 ?_
    obtain ⟨u5, eu5, hE⟩ := Option.bind_eq_some_iff.mp hE
    obtain ⟨q6, eq6, hE⟩ := Option.bind_eq_some_iff.mp hE
    refine y_cVv0 (st := []) (as := [.ref a4]) (c_X7_takeFrom eq6) lk_X7_206 in_X7_takeFrom se_X7_takeFrom rfl eu5 ⟨Nat.le_of_ble_eq_true rfl, Nat.le_of_ble_eq_true rfl⟩ (Nat.le_of_ble_eq_true rfl) dX7_back_19 ⟨Nat.le_refl _, Nat.le_refl _⟩ rfl ?_
    refine y_iconst (v := (0 : Int32)) dX7_back_22 (by decide) ?_
    refine y_istore_n (ls' := [(1, .int (0 : Int32)), (0, .ref a0)]) dX7_back_23 (by decide) rfl rfl ?_
    obtain ⟨q20, eq20, hE⟩ := Option.bind_eq_some_iff.mp hE
    refine y_pick [1, 0] rfl ?_
    refine l_X7_back_24 (S := S) ⟨Nat.le_refl _, Nat.le_refl _⟩ a0 n (0 : Int32) q6 _ eq20 (fun r8 hr8 => ?_)
    subst hr8
    refine y_iconst (v := (1 : Int32)) dX7_back_66 (by decide) ?_
    obtain ⟨rfl, rfl⟩ := x_inj2 hE
    exact y_ret dX7_back_67 (Nat.le_refl _) (Nat.le_refl _) ⟨_, rfl, rfl⟩
def f_X7_status_L59 (h : xH) (v0 : Nat) : Nat → Int32 → Int32 → Option (Int32)
  | 0, _, _ => none
  | k + 1, v2, v3 =>
    (x_gI h v0 7 9).bind fun x3 =>
    if x3 ≤ v3 then
      some v2
    else
      (x_gI h v0 7 11).bind fun x4 =>
      (some (v2 + ((i_shr x4 v3) &&& (1 : Int32)))).bind fun x5 =>
      (some (v3 + (1 : Int32))).bind fun x6 =>
      f_X7_status_L59 h v0 k x5 x6
set_option maxRecDepth 100000 in
set_option maxHeartbeats 4000000 in
theorem l_X7_status_59 {S : Nat × (Nat → Int32)} {rv : Option Value} {h0 h1 : xH} {mc ms : Nat} {cells slots : Nat} (hm : cells ≤ mc ∧ slots ≤ ms) (h : xH) (v0 : Nat) : ∀ (k : Nat) (v2 : Int32) (v3 : Int32) (res : Int32), f_X7_status_L59 h v0 k v2 v3 = some res → (∀ r9, res = r9 → Y S M_X7_status h0 rv h1 mc ms 84 [(2, .int r9)] [] h cells slots) → Y S M_X7_status h0 rv h1 mc ms 59 [(0, .ref v0), (2, .int v2), (3, .int v3)] [] h cells slots := by
  intro k
  induction k with
  | zero =>
    intro _ _ _ hE
    cases hE
  | succ k ih =>
    intro v2 v3 res hE K
    unfold f_X7_status_L59 at hE
    refine y_iload_n dX7_status_59 2 rfl ?_
    refine y_aload_n dX7_status_60 0 rfl ?_
    obtain ⟨x3, ex3, hE⟩ := Option.bind_eq_some_iff.mp hE
    refine y_getI fl_X7_61 ex3 dX7_status_61 ?_
    refine y_icmp_ge (tgt := 84) dX7_status_64 (by decide) (fun hc7 => ?_) (fun hc7 => ?_)
    · rw [if_pos hc7] at hE
      obtain rfl := Option.some.inj hE
      exact y_pick [1] rfl (K _ rfl)
    · rw [if_neg hc7] at hE
      refine y_iload_n dX7_status_67 1 rfl ?_
      refine y_aload_n dX7_status_68 0 rfl ?_
      obtain ⟨x4, ex4, hE⟩ := Option.bind_eq_some_iff.mp hE
      refine y_getI fl_X7_108 ex4 dX7_status_69 ?_
      refine y_iload_n dX7_status_72 2 rfl ?_
      refine y_ishr dX7_status_73 ?_
      refine y_iconst (v := (1 : Int32)) dX7_status_74 (by decide) ?_
      refine y_iand dX7_status_75 ?_
      refine y_iadd dX7_status_76 ?_
      obtain ⟨x5, ex5, hE⟩ := Option.bind_eq_some_iff.mp hE
      refine y_istore_n (ls' := [(2, .int x5), (0, .ref v0), (3, .int v3)]) dX7_status_77 (by decide) (Option.some.inj ex5) rfl ?_
      obtain ⟨x6, ex6, hE⟩ := Option.bind_eq_some_iff.mp hE
      refine y_iinc (ls' := [(3, .int x6), (2, .int x5), (0, .ref v0)]) dX7_status_78 2 rfl (Option.some.inj ex6) (by decide) rfl ?_
      refine y_goto (tgt := 59) dX7_status_81 (by decide) ?_
      refine y_pick [2, 1, 0] rfl ?_
      exact ih _ _ _ hE K
def f_X7_status_L118 (h : xH) (v0 : Nat) : Nat → Int32 → Int32 → Option (Int32)
  | 0, _, _ => none
  | k + 1, v2, v3 =>
    if (8 : Int32) ≤ v3 then
      some v2
    else
      (x_gR h v0 7 0).bind fun a22 =>
      (x_ld h a22 v3).bind fun x23 =>
      if x23 = 0 then
        (some (v2 + (0 : Int32))).bind fun x24 =>
        (some (v3 + (1 : Int32))).bind fun x25 =>
        f_X7_status_L118 h v0 k x24 x25
      else
        (some (v2 + (1 : Int32))).bind fun x26 =>
        (some (v3 + (1 : Int32))).bind fun x27 =>
        f_X7_status_L118 h v0 k x26 x27
set_option maxRecDepth 100000 in
set_option maxHeartbeats 4000000 in
theorem l_X7_status_118 {S : Nat × (Nat → Int32)} {rv : Option Value} {h0 h1 : xH} {mc ms : Nat} {cells slots : Nat} (hm : cells ≤ mc ∧ slots ≤ ms) (h : xH) (v0 : Nat) : ∀ (k : Nat) (v2 : Int32) (v3 : Int32) (res : Int32), f_X7_status_L118 h v0 k v2 v3 = some res → (∀ r9, res = r9 → Y S M_X7_status h0 rv h1 mc ms 147 [(2, .int r9)] [] h cells slots) → Y S M_X7_status h0 rv h1 mc ms 118 [(0, .ref v0), (2, .int v2), (3, .int v3)] [] h cells slots := by
  intro k
  induction k with
  | zero =>
    intro _ _ _ hE
    cases hE
  | succ k ih =>
    intro v2 v3 res hE K
    unfold f_X7_status_L118 at hE
    refine y_iload_n dX7_status_118 2 rfl ?_
    refine y_bipush (v := (8 : Int32)) dX7_status_119 (by decide) ?_
    refine y_icmp_ge (tgt := 147) dX7_status_121 (by decide) (fun hc29 => ?_) (fun hc29 => ?_)
    · rw [if_pos hc29] at hE
      obtain rfl := Option.some.inj hE
      exact y_pick [1] rfl (K _ rfl)
    · rw [if_neg hc29] at hE
      refine y_iload_n dX7_status_124 1 rfl ?_
      refine y_aload_n dX7_status_125 0 rfl ?_
      obtain ⟨a22, ea22, hE⟩ := Option.bind_eq_some_iff.mp hE
      refine y_getR fl_X7_7 ea22 dX7_status_126 ?_
      refine y_iload_n dX7_status_129 2 rfl ?_
      obtain ⟨x23, ex23, hE⟩ := Option.bind_eq_some_iff.mp hE
      refine y_iald ex23 dX7_status_130 ?_
      refine y_if_eq (tgt := 138) dX7_status_131 (by decide) (fun hc28 => ?_) (fun hc28 => ?_)
      · rw [if_pos hc28] at hE
        refine y_iconst (v := (0 : Int32)) dX7_status_138 (by decide) ?_
        refine y_iadd dX7_status_139 ?_
        obtain ⟨x24, ex24, hE⟩ := Option.bind_eq_some_iff.mp hE
        refine y_istore_n (ls' := [(2, .int x24), (0, .ref v0), (3, .int v3)]) dX7_status_140 (by decide) (Option.some.inj ex24) rfl ?_
        obtain ⟨x25, ex25, hE⟩ := Option.bind_eq_some_iff.mp hE
        refine y_iinc (ls' := [(3, .int x25), (2, .int x24), (0, .ref v0)]) dX7_status_141 2 rfl (Option.some.inj ex25) (by decide) rfl ?_
        refine y_goto (tgt := 118) dX7_status_144 (by decide) ?_
        refine y_pick [2, 1, 0] rfl ?_
        exact ih _ _ _ hE K
      · rw [if_neg hc28] at hE
        refine y_iconst (v := (1 : Int32)) dX7_status_134 (by decide) ?_
        refine y_goto (tgt := 139) dX7_status_135 (by decide) ?_
        refine y_iadd dX7_status_139 ?_
        obtain ⟨x26, ex26, hE⟩ := Option.bind_eq_some_iff.mp hE
        refine y_istore_n (ls' := [(2, .int x26), (0, .ref v0), (3, .int v3)]) dX7_status_140 (by decide) (Option.some.inj ex26) rfl ?_
        obtain ⟨x27, ex27, hE⟩ := Option.bind_eq_some_iff.mp hE
        refine y_iinc (ls' := [(3, .int x27), (2, .int x26), (0, .ref v0)]) dX7_status_141 2 rfl (Option.some.inj ex27) (by decide) rfl ?_
        refine y_goto (tgt := 118) dX7_status_144 (by decide) ?_
        refine y_pick [2, 1, 0] rfl ?_
        exact ih _ _ _ hE K
def f_X7_status (n : Nat) (h : xH) (a0 : Nat) (p1 : Int32) : Option (Int32) :=
  if p1 = (0 : Int32) then
    (x_gI h a0 7 9).bind fun x1 =>
    some x1
  else
  if p1 = (1 : Int32) then
    (f_X7_status_L59 h a0 n (0 : Int32) (0 : Int32)).bind fun q8 =>
    some q8
  else
  if p1 = (2 : Int32) then
    (x_gI h a0 7 12).bind fun x10 =>
    some x10
  else
  if p1 = (3 : Int32) then
    (x_gI h a0 7 14).bind fun x12 =>
    some x12
  else
  if p1 = (4 : Int32) then
    (x_gI h a0 7 15).bind fun x14 =>
    some x14
  else
  if p1 = (5 : Int32) then
    (x_gI h a0 7 16).bind fun x16 =>
    some x16
  else
  if p1 = (6 : Int32) then
    (x_gI h a0 7 7).bind fun x18 =>
    some x18
  else
  if p1 = (7 : Int32) then
    (x_gI h a0 7 17).bind fun x20 =>
    some x20
  else
  if p1 = (8 : Int32) then
    (f_X7_status_L118 h a0 n (0 : Int32) (0 : Int32)).bind fun q30 =>
    some q30
  else
  (f_X7_in h p1.toInt64 (12 : Int64) (16 : Int64)).bind fun q32 =>
  if q32 = 0 then
    some (-1 : Int32)
  else
    (x_gR h a0 7 8).bind fun a33 =>
    (x_ld h a33 (p1 - (10 : Int32))).bind fun x34 =>
    some x34
set_option maxRecDepth 100000 in
set_option maxHeartbeats 4000000 in
theorem c_X7_status {n : Nat} {h : xH} {a0 : Nat} {p1 : Int32} {r9 : Int32} (hE : f_X7_status n h a0 p1 = some r9) : Ctr M_X7_status [.ref a0, .int p1] h (some (.int r9)) h 0 0 := by
  refine ctr_of (by decide) (fun _ _ => Nat.le_of_ble_eq_true rfl) (fun S => ?_)
  show Y S M_X7_status h (some (.int r9)) h 0 0 0 [(0, .ref a0), (1, .int p1)] [] h 0 0
  unfold f_X7_status at hE
  refine y_iconst (v := (0 : Int32)) dX7_status_0 (by decide) ?_
  refine y_istore_n (ls' := [(2, .int (0 : Int32)), (0, .ref a0), (1, .int p1)]) dX7_status_1 (by decide) rfl rfl ?_
  refine y_iload_n dX7_status_2 2 rfl ?_
  by_cases hc2 : p1 = (0 : Int32)
  · rw [if_pos hc2] at hE
    have hk := hc2
    refine y_tabIn (tgt := 52) dX7_status_3 (by rw [hk]; decide) (by rw [hk]; decide) (by rw [hk]; rfl) (by decide) ?_
    refine y_aload_n dX7_status_52 1 rfl ?_
    obtain ⟨x1, ex1, hE⟩ := Option.bind_eq_some_iff.mp hE
    refine y_getI fl_X7_61 ex1 dX7_status_53 ?_
    obtain rfl := Option.some.inj hE
    exact y_ret dX7_status_56 (Nat.le_refl _) (Nat.le_refl _) ⟨_, rfl, rfl⟩
  · rw [if_neg hc2] at hE
    by_cases hc9 : p1 = (1 : Int32)
    · rw [if_pos hc9] at hE
      have hk := hc9
      refine y_tabIn (tgt := 57) dX7_status_3 (by rw [hk]; decide) (by rw [hk]; decide) (by rw [hk]; rfl) (by decide) ?_
      refine y_iconst (v := (0 : Int32)) dX7_status_57 (by decide) ?_
      refine y_istore_n (ls' := [(3, .int (0 : Int32)), (2, .int (0 : Int32)), (0, .ref a0), (1, .int p1)]) dX7_status_58 (by decide) rfl rfl ?_
      obtain ⟨q8, eq8, hE⟩ := Option.bind_eq_some_iff.mp hE
      refine y_pick [2, 1, 0] rfl ?_
      refine l_X7_status_59 (S := S) ⟨Nat.le_refl _, Nat.le_refl _⟩ h a0 n (0 : Int32) (0 : Int32) _ eq8 (fun r8 hr8 => ?_)
      subst hr8
      refine y_iload_n dX7_status_84 0 rfl ?_
      obtain rfl := Option.some.inj hE
      exact y_ret dX7_status_85 (Nat.le_refl _) (Nat.le_refl _) ⟨_, rfl, rfl⟩
    · rw [if_neg hc9] at hE
      by_cases hc11 : p1 = (2 : Int32)
      · rw [if_pos hc11] at hE
        have hk := hc11
        refine y_tabIn (tgt := 86) dX7_status_3 (by rw [hk]; decide) (by rw [hk]; decide) (by rw [hk]; rfl) (by decide) ?_
        refine y_aload_n dX7_status_86 1 rfl ?_
        obtain ⟨x10, ex10, hE⟩ := Option.bind_eq_some_iff.mp hE
        refine y_getI fl_X7_68 ex10 dX7_status_87 ?_
        obtain rfl := Option.some.inj hE
        exact y_ret dX7_status_90 (Nat.le_refl _) (Nat.le_refl _) ⟨_, rfl, rfl⟩
      · rw [if_neg hc11] at hE
        by_cases hc13 : p1 = (3 : Int32)
        · rw [if_pos hc13] at hE
          have hk := hc13
          refine y_tabIn (tgt := 91) dX7_status_3 (by rw [hk]; decide) (by rw [hk]; decide) (by rw [hk]; rfl) (by decide) ?_
          refine y_aload_n dX7_status_91 1 rfl ?_
          obtain ⟨x12, ex12, hE⟩ := Option.bind_eq_some_iff.mp hE
          refine y_getI fl_X7_45 ex12 dX7_status_92 ?_
          obtain rfl := Option.some.inj hE
          exact y_ret dX7_status_95 (Nat.le_refl _) (Nat.le_refl _) ⟨_, rfl, rfl⟩
        · rw [if_neg hc13] at hE
          by_cases hc15 : p1 = (4 : Int32)
          · rw [if_pos hc15] at hE
            have hk := hc15
            refine y_tabIn (tgt := 96) dX7_status_3 (by rw [hk]; decide) (by rw [hk]; decide) (by rw [hk]; rfl) (by decide) ?_
            refine y_aload_n dX7_status_96 1 rfl ?_
            obtain ⟨x14, ex14, hE⟩ := Option.bind_eq_some_iff.mp hE
            refine y_getI fl_X7_113 ex14 dX7_status_97 ?_
            obtain rfl := Option.some.inj hE
            exact y_ret dX7_status_100 (Nat.le_refl _) (Nat.le_refl _) ⟨_, rfl, rfl⟩
          · rw [if_neg hc15] at hE
            by_cases hc17 : p1 = (5 : Int32)
            · rw [if_pos hc17] at hE
              have hk := hc17
              refine y_tabIn (tgt := 101) dX7_status_3 (by rw [hk]; decide) (by rw [hk]; decide) (by rw [hk]; rfl) (by decide) ?_
              refine y_aload_n dX7_status_101 1 rfl ?_
              obtain ⟨x16, ex16, hE⟩ := Option.bind_eq_some_iff.mp hE
              refine y_getI fl_X7_246 ex16 dX7_status_102 ?_
              obtain rfl := Option.some.inj hE
              exact y_ret dX7_status_105 (Nat.le_refl _) (Nat.le_refl _) ⟨_, rfl, rfl⟩
            · rw [if_neg hc17] at hE
              by_cases hc19 : p1 = (6 : Int32)
              · rw [if_pos hc19] at hE
                have hk := hc19
                refine y_tabIn (tgt := 106) dX7_status_3 (by rw [hk]; decide) (by rw [hk]; decide) (by rw [hk]; rfl) (by decide) ?_
                refine y_aload_n dX7_status_106 1 rfl ?_
                obtain ⟨x18, ex18, hE⟩ := Option.bind_eq_some_iff.mp hE
                refine y_getI fl_X7_123 ex18 dX7_status_107 ?_
                obtain rfl := Option.some.inj hE
                exact y_ret dX7_status_110 (Nat.le_refl _) (Nat.le_refl _) ⟨_, rfl, rfl⟩
              · rw [if_neg hc19] at hE
                by_cases hc21 : p1 = (7 : Int32)
                · rw [if_pos hc21] at hE
                  have hk := hc21
                  refine y_tabIn (tgt := 111) dX7_status_3 (by rw [hk]; decide) (by rw [hk]; decide) (by rw [hk]; rfl) (by decide) ?_
                  refine y_aload_n dX7_status_111 1 rfl ?_
                  obtain ⟨x20, ex20, hE⟩ := Option.bind_eq_some_iff.mp hE
                  refine y_getI fl_X7_49 ex20 dX7_status_112 ?_
                  obtain rfl := Option.some.inj hE
                  exact y_ret dX7_status_115 (Nat.le_refl _) (Nat.le_refl _) ⟨_, rfl, rfl⟩
                · rw [if_neg hc21] at hE
                  by_cases hc31 : p1 = (8 : Int32)
                  · rw [if_pos hc31] at hE
                    have hk := hc31
                    refine y_tabIn (tgt := 116) dX7_status_3 (by rw [hk]; decide) (by rw [hk]; decide) (by rw [hk]; rfl) (by decide) ?_
                    refine y_iconst (v := (0 : Int32)) dX7_status_116 (by decide) ?_
                    refine y_istore_n (ls' := [(3, .int (0 : Int32)), (2, .int (0 : Int32)), (0, .ref a0), (1, .int p1)]) dX7_status_117 (by decide) rfl rfl ?_
                    obtain ⟨q30, eq30, hE⟩ := Option.bind_eq_some_iff.mp hE
                    refine y_pick [2, 1, 0] rfl ?_
                    refine l_X7_status_118 (S := S) ⟨Nat.le_refl _, Nat.le_refl _⟩ h a0 n (0 : Int32) (0 : Int32) _ eq30 (fun r8 hr8 => ?_)
                    subst hr8
                    refine y_iload_n dX7_status_147 0 rfl ?_
                    obtain rfl := Option.some.inj hE
                    exact y_ret dX7_status_148 (Nat.le_refl _) (Nat.le_refl _) ⟨_, rfl, rfl⟩
                  · rw [if_neg hc31] at hE
                    have hO : (p1).toInt < 0 ∨ 8 < (p1).toInt := by
                      refine x_tabo (by decide) (by decide) (fun j g1 g2 => ?_)
                      rcases (show j = 0 ∨ j = 1 ∨ j = 2 ∨ j = 3 ∨ j = 4 ∨ j = 5 ∨ j = 6 ∨ j = 7 ∨ j = 8 by omega) with rfl | rfl | rfl | rfl | rfl | rfl | rfl | rfl | rfl
                      · exact hc2
                      · exact hc9
                      · exact hc11
                      · exact hc13
                      · exact hc15
                      · exact hc17
                      · exact hc19
                      · exact hc21
                      · exact hc31
                    refine y_tabOut (tgt := 149) dX7_status_3 hO (by decide) ?_
                    refine y_iload_n dX7_status_149 2 rfl ?_
                    refine y_i2l dX7_status_150 ?_
                    refine y_ldc2 (v := (12 : Int64)) (x_wt (tb 1461 (by decide +kernel)) rfl) dX7_status_151 ?_
                    refine y_ldc2 (v := (16 : Int64)) (x_wt (tb 1462 (by decide +kernel)) rfl) dX7_status_154 ?_
                    obtain ⟨q32, eq32, hE⟩ := Option.bind_eq_some_iff.mp hE
                    refine y_cSi0 (st := []) (as := [.long p1.toInt64, .long (12 : Int64), .long (16 : Int64)]) (c_X7_in eq32) lk_X7_64 st_X7_in ⟨Nat.le_of_ble_eq_true rfl, Nat.le_of_ble_eq_true rfl⟩ (Nat.le_of_ble_eq_true rfl) dX7_status_157 ⟨Nat.le_refl _, Nat.le_refl _⟩ rfl ?_
                    refine y_if_eq (tgt := 175) dX7_status_160 (by decide) (fun hc35 => ?_) (fun hc35 => ?_)
                    · rw [if_pos hc35] at hE
                      refine y_iconst (v := (-1 : Int32)) dX7_status_175 (by decide) ?_
                      obtain rfl := Option.some.inj hE
                      exact y_ret dX7_status_176 (Nat.le_refl _) (Nat.le_refl _) ⟨_, rfl, rfl⟩
                    · rw [if_neg hc35] at hE
                      refine y_aload_n dX7_status_163 1 rfl ?_
                      obtain ⟨a33, ea33, hE⟩ := Option.bind_eq_some_iff.mp hE
                      refine y_getR fl_X7_34 ea33 dX7_status_164 ?_
                      refine y_iload_n dX7_status_167 2 rfl ?_
                      refine y_bipush (v := (10 : Int32)) dX7_status_168 (by decide) ?_
                      refine y_isub dX7_status_170 ?_
                      obtain ⟨x34, ex34, hE⟩ := Option.bind_eq_some_iff.mp hE
                      refine y_iald ex34 dX7_status_171 ?_
                      refine y_goto (tgt := 176) dX7_status_172 (by decide) ?_
                      obtain rfl := Option.some.inj hE
                      exact y_ret dX7_status_176 (Nat.le_refl _) (Nat.le_refl _) ⟨_, rfl, rfl⟩
