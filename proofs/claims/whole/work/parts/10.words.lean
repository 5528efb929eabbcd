theorem iw_X0 : ∀ w ∈ u_ws RX0 TX0 11, w ∈ x_WT := by
  intro w hw
  obtain ⟨k, hk, rfl⟩ := List.mem_map.mp hw
  have hk := List.mem_range.mp hk
  rcases (show k = 0 ∨ k = 1 ∨ k = 2 ∨ k = 3 ∨ k = 4 ∨ k = 5 ∨ k = 6 ∨ k = 7 ∨ k = 8 ∨ k = 9 ∨ k = 10 by omega) with rfl | rfl | rfl | rfl | rfl | rfl | rfl | rfl | rfl | rfl | rfl
  · exact x_wt (tb 69 (by decide +kernel)) rfl
  · exact x_wt (tb 71 (by decide +kernel)) rfl
  · exact x_wt (tb 73 (by decide +kernel)) rfl
  · exact x_wt (tb 75 (by decide +kernel)) rfl
  · exact x_wt (tb 77 (by decide +kernel)) rfl
  · exact x_wt (tb 79 (by decide +kernel)) rfl
  · exact x_wt (tb 81 (by decide +kernel)) rfl
  · exact x_wt (tb 83 (by decide +kernel)) rfl
  · exact x_wt (tb 85 (by decide +kernel)) rfl
  · exact x_wt (tb 87 (by decide +kernel)) rfl
  · exact x_wt (tb 89 (by decide +kernel)) rfl
theorem cl_X0 : x_cls 0 RX0 TX0 11 tyX0 := ⟨rfl, iw_X0, tyX0_ok, nmX0⟩
theorem iw_X1 : ∀ w ∈ u_ws RX1 TX1 7, w ∈ x_WT := by
  intro w hw
  obtain ⟨k, hk, rfl⟩ := List.mem_map.mp hw
  have hk := List.mem_range.mp hk
  rcases (show k = 0 ∨ k = 1 ∨ k = 2 ∨ k = 3 ∨ k = 4 ∨ k = 5 ∨ k = 6 by omega) with rfl | rfl | rfl | rfl | rfl | rfl | rfl
  · exact x_wt (tb 221 (by decide +kernel)) rfl
  · exact x_wt (tb 223 (by decide +kernel)) rfl
  · exact x_wt (tb 225 (by decide +kernel)) rfl
  · exact x_wt (tb 227 (by decide +kernel)) rfl
  · exact x_wt (tb 229 (by decide +kernel)) rfl
  · exact x_wt (tb 231 (by decide +kernel)) rfl
  · exact x_wt (tb 233 (by decide +kernel)) rfl
theorem cl_X1 : x_cls 1 RX1 TX1 7 tyX1 := ⟨rfl, iw_X1, tyX1_ok, nmX1⟩
theorem iw_X2 : ∀ w ∈ u_ws RX2 TX2 12, w ∈ x_WT := by
  intro w hw
  obtain ⟨k, hk, rfl⟩ := List.mem_map.mp hw
  have hk := List.mem_range.mp hk
  rcases (show k = 0 ∨ k = 1 ∨ k = 2 ∨ k = 3 ∨ k = 4 ∨ k = 5 ∨ k = 6 ∨ k = 7 ∨ k = 8 ∨ k = 9 ∨ k = 10 ∨ k = 11 by omega) with rfl | rfl | rfl | rfl | rfl | rfl | rfl | rfl | rfl | rfl | rfl | rfl
  · exact x_wt (tb 149 (by decide +kernel)) rfl
  · exact x_wt (tb 151 (by decide +kernel)) rfl
  · exact x_wt (tb 153 (by decide +kernel)) rfl
  · exact x_wt (tb 155 (by decide +kernel)) rfl
  · exact x_wt (tb 157 (by decide +kernel)) rfl
  · exact x_wt (tb 159 (by decide +kernel)) rfl
  · exact x_wt (tb 161 (by decide +kernel)) rfl
  · exact x_wt (tb 163 (by decide +kernel)) rfl
  · exact x_wt (tb 165 (by decide +kernel)) rfl
  · exact x_wt (tb 167 (by decide +kernel)) rfl
  · exact x_wt (tb 169 (by decide +kernel)) rfl
  · exact x_wt (tb 171 (by decide +kernel)) rfl
theorem cl_X2 : x_cls 2 RX2 TX2 12 tyX2 := ⟨rfl, iw_X2, tyX2_ok, nmX2⟩
theorem iw_X3 : ∀ w ∈ u_ws RX3 TX3 11, w ∈ x_WT := by
  intro w hw
  obtain ⟨k, hk, rfl⟩ := List.mem_map.mp hw
  have hk := List.mem_range.mp hk
  rcases (show k = 0 ∨ k = 1 ∨ k = 2 ∨ k = 3 ∨ k = 4 ∨ k = 5 ∨ k = 6 ∨ k = 7 ∨ k = 8 ∨ k = 9 ∨ k = 10 by omega) with rfl | rfl | rfl | rfl | rfl | rfl | rfl | rfl | rfl | rfl | rfl
  · exact x_wt (tb 185 (by decide +kernel)) rfl
  · exact x_wt (tb 187 (by decide +kernel)) rfl
  · exact x_wt (tb 189 (by decide +kernel)) rfl
  · exact x_wt (tb 191 (by decide +kernel)) rfl
  · exact x_wt (tb 193 (by decide +kernel)) rfl
  · exact x_wt (tb 195 (by decide +kernel)) rfl
  · exact x_wt (tb 197 (by decide +kernel)) rfl
  · exact x_wt (tb 199 (by decide +kernel)) rfl
  · exact x_wt (tb 201 (by decide +kernel)) rfl
  · exact x_wt (tb 203 (by decide +kernel)) rfl
  · exact x_wt (tb 205 (by decide +kernel)) rfl
theorem cl_X3 : x_cls 3 RX3 TX3 11 tyX3 := ⟨rfl, iw_X3, tyX3_ok, nmX3⟩
theorem iw_X4 : ∀ w ∈ u_ws RX4 TX4 3, w ∈ x_WT := by
  intro w hw
  obtain ⟨k, hk, rfl⟩ := List.mem_map.mp hw
  have hk := List.mem_range.mp hk
  rcases (show k = 0 ∨ k = 1 ∨ k = 2 by omega) with rfl | rfl | rfl
  · exact x_wt (tb 247 (by decide +kernel)) rfl
  · exact x_wt (tb 249 (by decide +kernel)) rfl
  · exact x_wt (tb 251 (by decide +kernel)) rfl
theorem cl_X4 : x_cls 4 RX4 TX4 3 tyX4 := ⟨rfl, iw_X4, tyX4_ok, nmX4⟩
theorem iw_X5 : ∀ w ∈ u_ws RX5 TX5 5, w ∈ x_WT := by
  intro w hw
  obtain ⟨k, hk, rfl⟩ := List.mem_map.mp hw
  have hk := List.mem_range.mp hk
  rcases (show k = 0 ∨ k = 1 ∨ k = 2 ∨ k = 3 ∨ k = 4 by omega) with rfl | rfl | rfl | rfl | rfl
  · exact x_wt (tb 107 (by decide +kernel)) rfl
  · exact x_wt (tb 109 (by decide +kernel)) rfl
  · exact x_wt (tb 111 (by decide +kernel)) rfl
  · exact x_wt (tb 113 (by decide +kernel)) rfl
  · exact x_wt (tb 115 (by decide +kernel)) rfl
theorem cl_X5 : x_cls 5 RX5 TX5 5 tyX5 := ⟨rfl, iw_X5, tyX5_ok, nmX5⟩
theorem iw_X6 : ∀ w ∈ u_ws RX6 TX6 9, w ∈ x_WT := by
  intro w hw
  obtain ⟨k, hk, rfl⟩ := List.mem_map.mp hw
  have hk := List.mem_range.mp hk
  rcases (show k = 0 ∨ k = 1 ∨ k = 2 ∨ k = 3 ∨ k = 4 ∨ k = 5 ∨ k = 6 ∨ k = 7 ∨ k = 8 by omega) with rfl | rfl | rfl | rfl | rfl | rfl | rfl | rfl | rfl
  · exact x_wt (tb 264 (by decide +kernel)) rfl
  · exact x_wt (tb 266 (by decide +kernel)) rfl
  · exact x_wt (tb 268 (by decide +kernel)) rfl
  · exact x_wt (tb 270 (by decide +kernel)) rfl
  · exact x_wt (tb 272 (by decide +kernel)) rfl
  · exact x_wt (tb 274 (by decide +kernel)) rfl
  · exact x_wt (tb 276 (by decide +kernel)) rfl
  · exact x_wt (tb 278 (by decide +kernel)) rfl
  · exact x_wt (tb 280 (by decide +kernel)) rfl
theorem cl_X6 : x_cls 6 RX6 TX6 9 tyX6 := ⟨rfl, iw_X6, tyX6_ok, nmX6⟩
theorem iw_X7 : ∀ w ∈ u_ws RX7 TX7 40, w ∈ x_WT := by
  intro w hw
  obtain ⟨k, hk, rfl⟩ := List.mem_map.mp hw
  have hk := List.mem_range.mp hk
  rcases (show k = 0 ∨ k = 1 ∨ k = 2 ∨ k = 3 ∨ k = 4 ∨ k = 5 ∨ k = 6 ∨ k = 7 ∨ k = 8 ∨ k = 9 ∨ k = 10 ∨ k = 11 ∨ k = 12 ∨ k = 13 ∨ k = 14 ∨ k = 15 ∨ k = 16 ∨ k = 17 ∨ k = 18 ∨ k = 19 ∨ k = 20 ∨ k = 21 ∨ k = 22 ∨ k = 23 ∨ k = 24 ∨ k = 25 ∨ k = 26 ∨ k = 27 ∨ k = 28 ∨ k = 29 ∨ k = 30 ∨ k = 31 ∨ k = 32 ∨ k = 33 ∨ k = 34 ∨ k = 35 ∨ k = 36 ∨ k = 37 ∨ k = 38 ∨ k = 39 by omega) with rfl | rfl | rfl | rfl | rfl | rfl | rfl | rfl | rfl | rfl | rfl | rfl | rfl | rfl | rfl | rfl | rfl | rfl | rfl | rfl | rfl | rfl | rfl | rfl | rfl | rfl | rfl | rfl | rfl | rfl | rfl | rfl | rfl | rfl | rfl | rfl | rfl | rfl | rfl | rfl
  · exact x_wt (tb 966 (by decide +kernel)) rfl
  · exact x_wt (tb 968 (by decide +kernel)) rfl
  · exact x_wt (tb 970 (by decide +kernel)) rfl
  · exact x_wt (tb 972 (by decide +kernel)) rfl
  · exact x_wt (tb 974 (by decide +kernel)) rfl
  · exact x_wt (tb 976 (by decide +kernel)) rfl
  · exact x_wt (tb 978 (by decide +kernel)) rfl
  · exact x_wt (tb 980 (by decide +kernel)) rfl
  · exact x_wt (tb 982 (by decide +kernel)) rfl
  · exact x_wt (tb 984 (by decide +kernel)) rfl
  · exact x_wt (tb 986 (by decide +kernel)) rfl
  · exact x_wt (tb 988 (by decide +kernel)) rfl
  · exact x_wt (tb 990 (by decide +kernel)) rfl
  · exact x_wt (tb 992 (by decide +kernel)) rfl
  · exact x_wt (tb 994 (by decide +kernel)) rfl
  · exact x_wt (tb 996 (by decide +kernel)) rfl
  · exact x_wt (tb 998 (by decide +kernel)) rfl
  · exact x_wt (tb 1000 (by decide +kernel)) rfl
  · exact x_wt (tb 1002 (by decide +kernel)) rfl
  · exact x_wt (tb 1004 (by decide +kernel)) rfl
  · exact x_wt (tb 1006 (by decide +kernel)) rfl
  · exact x_wt (tb 1008 (by decide +kernel)) rfl
  · exact x_wt (tb 1010 (by decide +kernel)) rfl
  · exact x_wt (tb 1012 (by decide +kernel)) rfl
  · exact x_wt (tb 1014 (by decide +kernel)) rfl
  · exact x_wt (tb 1016 (by decide +kernel)) rfl
  · exact x_wt (tb 1018 (by decide +kernel)) rfl
  · exact x_wt (tb 1020 (by decide +kernel)) rfl
  · exact x_wt (tb 1022 (by decide +kernel)) rfl
  · exact x_wt (tb 1024 (by decide +kernel)) rfl
  · exact x_wt (tb 1026 (by decide +kernel)) rfl
  · exact x_wt (tb 1028 (by decide +kernel)) rfl
  · exact x_wt (tb 1030 (by decide +kernel)) rfl
  · exact x_wt (tb 1032 (by decide +kernel)) rfl
  · exact x_wt (tb 1034 (by decide +kernel)) rfl
  · exact x_wt (tb 1036 (by decide +kernel)) rfl
  · exact x_wt (tb 1038 (by decide +kernel)) rfl
  · exact x_wt (tb 1040 (by decide +kernel)) rfl
  · exact x_wt (tb 1042 (by decide +kernel)) rfl
  · exact x_wt (tb 1044 (by decide +kernel)) rfl
theorem cl_X7 : x_cls 7 RX7 TX7 40 tyX7 := ⟨rfl, iw_X7, tyX7_ok, nmX7⟩
abbrev M_X0_init : MI := (yX0_init, cX0_init, 1, none, 1, 20)
theorem in_X0_init : Cond.instanceMethod yX0_init ∈ x_WT := x_wt (tb 27 (by decide +kernel)) rfl
abbrev M_X0_become : MI := (yX0_become, cX0_become, 3, none, 0, 0)
theorem in_X0_become : Cond.instanceMethod yX0_become ∈ x_WT := x_wt (tb 460 (by decide +kernel)) rfl
theorem se_X0_become : Cond.selects RX0 yX0_become yX0_become ∈ x_WT := x_wt (tb 461 (by decide +kernel)) rfl
abbrev M_X0_hasDoor : MI := (yX0_hasDoor, cX0_hasDoor, 2, (some .boolean), 0, 0)
theorem in_X0_hasDoor : Cond.instanceMethod yX0_hasDoor ∈ x_WT := x_wt (tb 349 (by decide +kernel)) rfl
theorem se_X0_hasDoor : Cond.selects RX0 yX0_hasDoor yX0_hasDoor ∈ x_WT := x_wt (tb 350 (by decide +kernel)) rfl
abbrev M_X0_hasDoors : MI := (yX0_hasDoors, cX0_hasDoors, 2, (some .boolean), 0, 0)
theorem in_X0_hasDoors : Cond.instanceMethod yX0_hasDoors ∈ x_WT := x_wt (tb 616 (by decide +kernel)) rfl
theorem se_X0_hasDoors : Cond.selects RX0 yX0_hasDoors yX0_hasDoors ∈ x_WT := x_wt (tb 617 (by decide +kernel)) rfl
abbrev M_X0_hasOne : MI := (yX0_hasOne, cX0_hasOne, 2, (some .boolean), 0, 0)
theorem in_X0_hasOne : Cond.instanceMethod yX0_hasOne ∈ x_WT := x_wt (tb 440 (by decide +kernel)) rfl
theorem se_X0_hasOne : Cond.selects RX0 yX0_hasOne yX0_hasOne ∈ x_WT := x_wt (tb 441 (by decide +kernel)) rfl
abbrev M_X0_addDoor : MI := (yX0_addDoor, cX0_addDoor, 4, (some .int), 0, 0)
theorem in_X0_addDoor : Cond.instanceMethod yX0_addDoor ∈ x_WT := x_wt (tb 415 (by decide +kernel)) rfl
theorem se_X0_addDoor : Cond.selects RX0 yX0_addDoor yX0_addDoor ∈ x_WT := x_wt (tb 416 (by decide +kernel)) rfl
abbrev M_X0_addOne : MI := (yX0_addOne, cX0_addOne, 2, (some .int), 0, 0)
theorem in_X0_addOne : Cond.instanceMethod yX0_addOne ∈ x_WT := x_wt (tb 423 (by decide +kernel)) rfl
theorem se_X0_addOne : Cond.selects RX0 yX0_addOne yX0_addOne ∈ x_WT := x_wt (tb 424 (by decide +kernel)) rfl
abbrev M_X0_isOpen : MI := (yX0_isOpen, cX0_isOpen, 2, (some .boolean), 0, 0)
theorem in_X0_isOpen : Cond.instanceMethod yX0_isOpen ∈ x_WT := x_wt (tb 387 (by decide +kernel)) rfl
theorem se_X0_isOpen : Cond.selects RX0 yX0_isOpen yX0_isOpen ∈ x_WT := x_wt (tb 388 (by decide +kernel)) rfl
abbrev M_X0_weightOf : MI := (yX0_weightOf, cX0_weightOf, 2, (some .int), 0, 0)
theorem in_X0_weightOf : Cond.instanceMethod yX0_weightOf ∈ x_WT := x_wt (tb 403 (by decide +kernel)) rfl
theorem se_X0_weightOf : Cond.selects RX0 yX0_weightOf yX0_weightOf ∈ x_WT := x_wt (tb 404 (by decide +kernel)) rfl
abbrev M_X0_isAt : MI := (yX0_isAt, cX0_isAt, 3, (some .boolean), 0, 0)
theorem in_X0_isAt : Cond.instanceMethod yX0_isAt ∈ x_WT := x_wt (tb 395 (by decide +kernel)) rfl
theorem se_X0_isAt : Cond.selects RX0 yX0_isAt yX0_isAt ∈ x_WT := x_wt (tb 396 (by decide +kernel)) rfl
abbrev M_X0_doorsAt : MI := (yX0_doorsAt, cX0_doorsAt, 4, (some .int), 1, 22)
theorem in_X0_doorsAt : Cond.instanceMethod yX0_doorsAt ∈ x_WT := x_wt (tb 578 (by decide +kernel)) rfl
theorem se_X0_doorsAt : Cond.selects RX0 yX0_doorsAt yX0_doorsAt ∈ x_WT := x_wt (tb 579 (by decide +kernel)) rfl
abbrev M_X0_someoneIn : MI := (yX0_someoneIn, cX0_someoneIn, 3, (some .boolean), 0, 0)
theorem in_X0_someoneIn : Cond.instanceMethod yX0_someoneIn ∈ x_WT := x_wt (tb 399 (by decide +kernel)) rfl
theorem se_X0_someoneIn : Cond.selects RX0 yX0_someoneIn yX0_someoneIn ∈ x_WT := x_wt (tb 400 (by decide +kernel)) rfl
abbrev M_X0_shutsFrom : MI := (yX0_shutsFrom, cX0_shutsFrom, 3, (some .boolean), 1, 22)
theorem in_X0_shutsFrom : Cond.instanceMethod yX0_shutsFrom ∈ x_WT := x_wt (tb 391 (by decide +kernel)) rfl
theorem se_X0_shutsFrom : Cond.selects RX0 yX0_shutsFrom yX0_shutsFrom ∈ x_WT := x_wt (tb 392 (by decide +kernel)) rfl
abbrev M_X0_opensFrom : MI := (yX0_opensFrom, cX0_opensFrom, 3, (some .boolean), 1, 22)
theorem in_X0_opensFrom : Cond.instanceMethod yX0_opensFrom ∈ x_WT := x_wt (tb 602 (by decide +kernel)) rfl
theorem se_X0_opensFrom : Cond.selects RX0 yX0_opensFrom yX0_opensFrom ∈ x_WT := x_wt (tb 603 (by decide +kernel)) rfl
abbrev M_X0_mayShut : MI := (yX0_mayShut, cX0_mayShut, 3, (some .boolean), 2, 44)
theorem in_X0_mayShut : Cond.instanceMethod yX0_mayShut ∈ x_WT := x_wt (tb 590 (by decide +kernel)) rfl
theorem se_X0_mayShut : Cond.selects RX0 yX0_mayShut yX0_mayShut ∈ x_WT := x_wt (tb 591 (by decide +kernel)) rfl
abbrev M_X0_mayWalk : MI := (yX0_mayWalk, cX0_mayWalk, 3, (some .boolean), 1, 22)
theorem in_X0_mayWalk : Cond.instanceMethod yX0_mayWalk ∈ x_WT := x_wt (tb 586 (by decide +kernel)) rfl
theorem se_X0_mayWalk : Cond.selects RX0 yX0_mayWalk yX0_mayWalk ∈ x_WT := x_wt (tb 587 (by decide +kernel)) rfl
abbrev M_X0_standsBeforeShut : MI := (yX0_standsBeforeShut, cX0_standsBeforeShut, 3, (some .boolean), 2, 44)
theorem in_X0_standsBeforeShut : Cond.instanceMethod yX0_standsBeforeShut ∈ x_WT := x_wt (tb 598 (by decide +kernel)) rfl
theorem se_X0_standsBeforeShut : Cond.selects RX0 yX0_standsBeforeShut yX0_standsBeforeShut ∈ x_WT := x_wt (tb 599 (by decide +kernel)) rfl
abbrev M_X0_shuttable : MI := (yX0_shuttable, cX0_shuttable, 4, (some .int), 2, 44)
theorem in_X0_shuttable : Cond.instanceMethod yX0_shuttable ∈ x_WT := x_wt (tb 383 (by decide +kernel)) rfl
theorem se_X0_shuttable : Cond.selects RX0 yX0_shuttable yX0_shuttable ∈ x_WT := x_wt (tb 384 (by decide +kernel)) rfl
abbrev M_X0_weigh : MI := (yX0_weigh, cX0_weigh, 4, (some .int), 1, 21)
theorem in_X0_weigh : Cond.instanceMethod yX0_weigh ∈ x_WT := x_wt (tb 607 (by decide +kernel)) rfl
theorem se_X0_weigh : Cond.selects RX0 yX0_weigh yX0_weigh ∈ x_WT := x_wt (tb 608 (by decide +kernel)) rfl
abbrev M_X0_isEnoughAndNoneInVain : MI := (yX0_isEnoughAndNoneInVain, cX0_isEnoughAndNoneInVain, 4, (some .boolean), 2, 44)
theorem in_X0_isEnoughAndNoneInVain : Cond.instanceMethod yX0_isEnoughAndNoneInVain ∈ x_WT := x_wt (tb 624 (by decide +kernel)) rfl
theorem se_X0_isEnoughAndNoneInVain : Cond.selects RX0 yX0_isEnoughAndNoneInVain yX0_isEnoughAndNoneInVain ∈ x_WT := x_wt (tb 625 (by decide +kernel)) rfl
abbrev M_X0_opensBy : MI := (yX0_opensBy, cX0_opensBy, 4, (some .boolean), 3, 67)
theorem in_X0_opensBy : Cond.instanceMethod yX0_opensBy ∈ x_WT := x_wt (tb 620 (by decide +kernel)) rfl
theorem se_X0_opensBy : Cond.selects RX0 yX0_opensBy yX0_opensBy ∈ x_WT := x_wt (tb 621 (by decide +kernel)) rfl
abbrev M_X0_leastSet : MI := (yX0_leastSet, cX0_leastSet, 6, (some .int), 3, 67)
theorem in_X0_leastSet : Cond.instanceMethod yX0_leastSet ∈ x_WT := x_wt (tb 594 (by decide +kernel)) rfl
theorem se_X0_leastSet : Cond.selects RX0 yX0_leastSet yX0_leastSet ∈ x_WT := x_wt (tb 595 (by decide +kernel)) rfl
abbrev M_X6_singlesBeside : MI := (yX6_singlesBeside, cX6_singlesBeside, 2, (some .int), 1, 30)
theorem st_X6_singlesBeside : Cond.static yX6_singlesBeside ∈ x_WT := x_wt (tb 636 (by decide +kernel)) rfl
abbrev M_X0_choose : MI := (yX0_choose, cX0_choose, 4, (some .int), 0, 0)
theorem st_X0_choose : Cond.static yX0_choose ∈ x_WT := x_wt (tb 642 (by decide +kernel)) rfl
abbrev M_X0_countSets : MI := (yX0_countSets, cX0_countSets, 8, (some .int), 3, 67)
theorem in_X0_countSets : Cond.instanceMethod yX0_countSets ∈ x_WT := x_wt (tb 632 (by decide +kernel)) rfl
theorem se_X0_countSets : Cond.selects RX0 yX0_countSets yX0_countSets ∈ x_WT := x_wt (tb 633 (by decide +kernel)) rfl
abbrev M_X0_goThrough : MI := (yX0_goThrough, cX0_goThrough, 3, none, 0, 0)
theorem in_X0_goThrough : Cond.instanceMethod yX0_goThrough ∈ x_WT := x_wt (tb 649 (by decide +kernel)) rfl
theorem se_X0_goThrough : Cond.selects RX0 yX0_goThrough yX0_goThrough ∈ x_WT := x_wt (tb 650 (by decide +kernel)) rfl
abbrev M_X0_openFor : MI := (yX0_openFor, cX0_openFor, 3, none, 0, 0)
theorem in_X0_openFor : Cond.instanceMethod yX0_openFor ∈ x_WT := x_wt (tb 665 (by decide +kernel)) rfl
theorem se_X0_openFor : Cond.selects RX0 yX0_openFor yX0_openFor ∈ x_WT := x_wt (tb 666 (by decide +kernel)) rfl
abbrev M_X0_openStock : MI := (yX0_openStock, cX0_openStock, 3, (some .int), 1, 21)
theorem in_X0_openStock : Cond.instanceMethod yX0_openStock ∈ x_WT := x_wt (tb 657 (by decide +kernel)) rfl
theorem se_X0_openStock : Cond.selects RX0 yX0_openStock yX0_openStock ∈ x_WT := x_wt (tb 658 (by decide +kernel)) rfl
abbrev M_X0_reachFrom : MI := (yX0_reachFrom, cX0_reachFrom, 7, (some .int), 1, 21)
theorem in_X0_reachFrom : Cond.instanceMethod yX0_reachFrom ∈ x_WT := x_wt (tb 673 (by decide +kernel)) rfl
theorem se_X0_reachFrom : Cond.selects RX0 yX0_reachFrom yX0_reachFrom ∈ x_WT := x_wt (tb 674 (by decide +kernel)) rfl
abbrev M_X0_shutInBits : MI := (yX0_shutInBits, cX0_shutInBits, 3, (some .int), 2, 47)
theorem in_X0_shutInBits : Cond.instanceMethod yX0_shutInBits ∈ x_WT := x_wt (tb 681 (by decide +kernel)) rfl
theorem se_X0_shutInBits : Cond.selects RX0 yX0_shutInBits yX0_shutInBits ∈ x_WT := x_wt (tb 682 (by decide +kernel)) rfl
abbrev M_X0_playAct : MI := (yX0_playAct, cX0_playAct, 7, (some .boolean), 4, 90)
theorem in_X0_playAct : Cond.instanceMethod yX0_playAct ∈ x_WT := x_wt (tb 855 (by decide +kernel)) rfl
theorem se_X0_playAct : Cond.selects RX0 yX0_playAct yX0_playAct ∈ x_WT := x_wt (tb 856 (by decide +kernel)) rfl
abbrev M_X0_draw : MI := (yX0_draw, cX0_draw, 2, (some .int), 0, 0)
theorem in_X0_draw : Cond.instanceMethod yX0_draw ∈ x_WT := x_wt (tb 882 (by decide +kernel)) rfl
theorem se_X0_draw : Cond.selects RX0 yX0_draw yX0_draw ∈ x_WT := x_wt (tb 883 (by decide +kernel)) rfl
abbrev M_X0_takeTurn : MI := (yX0_takeTurn, cX0_takeTurn, 4, none, 4, 92)
theorem in_X0_takeTurn : Cond.instanceMethod yX0_takeTurn ∈ x_WT := x_wt (tb 878 (by decide +kernel)) rfl
theorem se_X0_takeTurn : Cond.selects RX0 yX0_takeTurn yX0_takeTurn ∈ x_WT := x_wt (tb 879 (by decide +kernel)) rfl
abbrev M_X0_blow : MI := (yX0_blow, cX0_blow, 3, (some .int), 1, 21)
theorem in_X0_blow : Cond.instanceMethod yX0_blow ∈ x_WT := x_wt (tb 892 (by decide +kernel)) rfl
theorem se_X0_blow : Cond.selects RX0 yX0_blow yX0_blow ∈ x_WT := x_wt (tb 893 (by decide +kernel)) rfl
abbrev M_X1_init : MI := (yX1_init, cX1_init, 1, none, 1, 20)
theorem in_X1_init : Cond.instanceMethod yX1_init ∈ x_WT := x_wt (tb 211 (by decide +kernel)) rfl
abbrev M_X1_countDoors : MI := (yX1_countDoors, cX1_countDoors, 6, none, 0, 0)
theorem in_X1_countDoors : Cond.instanceMethod yX1_countDoors ∈ x_WT := x_wt (tb 804 (by decide +kernel)) rfl
theorem se_X1_countDoors : Cond.selects RX1 yX1_countDoors yX1_countDoors ∈ x_WT := x_wt (tbp 21 (by decide +kernel)) rfl
abbrev M_X1_changesForever : MI := (yX1_changesForever, cX1_changesForever, 3, (some .boolean), 0, 0)
theorem in_X1_changesForever : Cond.instanceMethod yX1_changesForever ∈ x_WT := x_wt (tb 808 (by decide +kernel)) rfl
theorem se_X1_changesForever : Cond.selects RX1 yX1_changesForever yX1_changesForever ∈ x_WT := x_wt (tbp 22 (by decide +kernel)) rfl
abbrev M_X1_placeOf : MI := (yX1_placeOf, cX1_placeOf, 4, (some .int), 0, 0)
theorem in_X1_placeOf : Cond.instanceMethod yX1_placeOf ∈ x_WT := x_wt (tb 816 (by decide +kernel)) rfl
theorem se_X1_placeOf : Cond.selects RX1 yX1_placeOf yX1_placeOf ∈ x_WT := x_wt (tbp 24 (by decide +kernel)) rfl
abbrev M_X1_noted : MI := (yX1_noted, cX1_noted, 5, (some .int), 1, 23)
theorem in_X1_noted : Cond.instanceMethod yX1_noted ∈ x_WT := x_wt (tb 825 (by decide +kernel)) rfl
theorem se_X1_noted : Cond.selects RX1 yX1_noted yX1_noted ∈ x_WT := x_wt (tbp 26 (by decide +kernel)) rfl
abbrev M_X1_mostFrom : MI := (yX1_mostFrom, cX1_mostFrom, 8, (some .int), 2, 51)
theorem in_X1_mostFrom : Cond.instanceMethod yX1_mostFrom ∈ x_WT := x_wt (tb 820 (by decide +kernel)) rfl
theorem se_X1_mostFrom : Cond.selects RX1 yX1_mostFrom yX1_mostFrom ∈ x_WT := x_wt (tbp 25 (by decide +kernel)) rfl
abbrev M_X1_note : MI := (yX1_note, cX1_note, 5, none, 3, 78)
theorem in_X1_note : Cond.instanceMethod yX1_note ∈ x_WT := x_wt (tb 812 (by decide +kernel)) rfl
theorem se_X1_note : Cond.selects RX1 yX1_note yX1_note ∈ x_WT := x_wt (tbp 23 (by decide +kernel)) rfl
abbrev M_X1_most : MI := (yX1_most, cX1_most, 10, (some .int), 4, 102)
theorem in_X1_most : Cond.instanceMethod yX1_most ∈ x_WT := x_wt (tb 799 (by decide +kernel)) rfl
theorem se_X1_most : Cond.selects RX1 yX1_most yX1_most ∈ x_WT := x_wt (tb 800 (by decide +kernel)) rfl
abbrev M_X2_init : MI := (yX2_init, cX2_init, 1, none, 1, 20)
theorem in_X2_init : Cond.instanceMethod yX2_init ∈ x_WT := x_wt (tb 127 (by decide +kernel)) rfl
abbrev M_X2_sortDoors : MI := (yX2_sortDoors, cX2_sortDoors, 3, none, 1, 21)
theorem in_X2_sortDoors : Cond.instanceMethod yX2_sortDoors ∈ x_WT := x_wt (tb 714 (by decide +kernel)) rfl
theorem se_X2_sortDoors : Cond.selects RX2 yX2_sortDoors yX2_sortDoors ∈ x_WT := x_wt (tbp 14 (by decide +kernel)) rfl
abbrev M_X2_lookFrom : MI := (yX2_lookFrom, cX2_lookFrom, 6, none, 2, 44)
theorem in_X2_lookFrom : Cond.instanceMethod yX2_lookFrom ∈ x_WT := x_wt (tb 719 (by decide +kernel)) rfl
theorem se_X2_lookFrom : Cond.selects RX2 yX2_lookFrom yX2_lookFrom ∈ x_WT := x_wt (tbp 15 (by decide +kernel)) rfl
abbrev M_J6_bitCount_0f7a4 : MI := (yJ6_bitCount_0f7a4, cJ6_bitCount_0f7a4, 1, (some .int), 0, 0)
theorem st_J6_bitCount_0f7a4 : Cond.static yJ6_bitCount_0f7a4 ∈ x_WT := x_wt (tb 732 (by decide +kernel)) rfl
abbrev M_X2_weigh : MI := (yX2_weigh, cX2_weigh, 2, (some .int), 1, 20)
theorem in_X2_weigh : Cond.instanceMethod yX2_weigh ∈ x_WT := x_wt (tb 728 (by decide +kernel)) rfl
theorem se_X2_weigh : Cond.selects RX2 yX2_weigh yX2_weigh ∈ x_WT := x_wt (tb 729 (by decide +kernel)) rfl
abbrev M_X2_listSets : MI := (yX2_listSets, cX2_listSets, 5, none, 2, 41)
theorem in_X2_listSets : Cond.instanceMethod yX2_listSets ∈ x_WT := x_wt (tb 725 (by decide +kernel)) rfl
theorem se_X2_listSets : Cond.selects RX2 yX2_listSets yX2_listSets ∈ x_WT := x_wt (tbp 16 (by decide +kernel)) rfl
abbrev M_X2_lay : MI := (yX2_lay, cX2_lay, 4, none, 3, 69)
theorem in_X2_lay : Cond.instanceMethod yX2_lay ∈ x_WT := x_wt (tb 706 (by decide +kernel)) rfl
theorem se_X2_lay : Cond.selects RX2 yX2_lay yX2_lay ∈ x_WT := x_wt (tb 707 (by decide +kernel)) rfl
abbrev M_X2_partOf : MI := (yX2_partOf, cX2_partOf, 8, (some .int), 0, 0)
theorem in_X2_partOf : Cond.instanceMethod yX2_partOf ∈ x_WT := x_wt (tb 743 (by decide +kernel)) rfl
theorem se_X2_partOf : Cond.selects RX2 yX2_partOf yX2_partOf ∈ x_WT := x_wt (tb 744 (by decide +kernel)) rfl
abbrev M_X3_init : MI := (yX3_init, cX3_init, 1, none, 2, 40)
theorem in_X3_init : Cond.instanceMethod yX3_init ∈ x_WT := x_wt (tb 121 (by decide +kernel)) rfl
abbrev M_X3_forgetGoals : MI := (yX3_forgetGoals, cX3_forgetGoals, 1, none, 0, 0)
theorem in_X3_forgetGoals : Cond.instanceMethod yX3_forgetGoals ∈ x_WT := x_wt (tb 694 (by decide +kernel)) rfl
theorem se_X3_forgetGoals : Cond.selects RX3 yX3_forgetGoals yX3_forgetGoals ∈ x_WT := x_wt (tb 695 (by decide +kernel)) rfl
abbrev M_X3_addGoal : MI := (yX3_addGoal, cX3_addGoal, 2, none, 0, 0)
theorem in_X3_addGoal : Cond.instanceMethod yX3_addGoal ∈ x_WT := x_wt (tb 698 (by decide +kernel)) rfl
theorem se_X3_addGoal : Cond.selects RX3 yX3_addGoal yX3_addGoal ∈ x_WT := x_wt (tb 699 (by decide +kernel)) rfl
abbrev M_X3_begin : MI := (yX3_begin, cX3_begin, 2, none, 1, 30)
theorem in_X3_begin : Cond.instanceMethod yX3_begin ∈ x_WT := x_wt (tb 739 (by decide +kernel)) rfl
theorem se_X3_begin : Cond.selects RX3 yX3_begin yX3_begin ∈ x_WT := x_wt (tbp 17 (by decide +kernel)) rfl
abbrev M_J6_numberOfTrailingZeros_0f7a4 : MI := (yJ6_numberOfTrailingZeros_0f7a4, cJ6_numberOfTrailingZeros_0f7a4, 2, (some .int), 0, 0)
theorem st_J6_numberOfTrailingZeros_0f7a4 : Cond.static yJ6_numberOfTrailingZeros_0f7a4 ∈ x_WT := x_wt (tb 755 (by decide +kernel)) rfl
abbrev M_X3_arrive : MI := (yX3_arrive, cX3_arrive, 9, none, 1, 27)
theorem in_X3_arrive : Cond.instanceMethod yX3_arrive ∈ x_WT := x_wt (tb 752 (by decide +kernel)) rfl
theorem se_X3_arrive : Cond.selects RX3 yX3_arrive yX3_arrive ∈ x_WT := x_wt (tbp 19 (by decide +kernel)) rfl
abbrev M_X3_leaveFrom : MI := (yX3_leaveFrom, cX3_leaveFrom, 11, none, 2, 55)
theorem in_X3_leaveFrom : Cond.instanceMethod yX3_leaveFrom ∈ x_WT := x_wt (tb 760 (by decide +kernel)) rfl
theorem se_X3_leaveFrom : Cond.selects RX3 yX3_leaveFrom yX3_leaveFrom ∈ x_WT := x_wt (tbp 20 (by decide +kernel)) rfl
abbrev M_X3_spread : MI := (yX3_spread, cX3_spread, 7, (some .int), 3, 85)
theorem in_X3_spread : Cond.instanceMethod yX3_spread ∈ x_WT := x_wt (tb 748 (by decide +kernel)) rfl
theorem se_X3_spread : Cond.selects RX3 yX3_spread yX3_spread ∈ x_WT := x_wt (tbp 18 (by decide +kernel)) rfl
abbrev M_X3_fewestFor : MI := (yX3_fewestFor, cX3_fewestFor, 6, (some .int), 4, 111)
theorem in_X3_fewestFor : Cond.instanceMethod yX3_fewestFor ∈ x_WT := x_wt (tb 702 (by decide +kernel)) rfl
theorem se_X3_fewestFor : Cond.selects RX3 yX3_fewestFor yX3_fewestFor ∈ x_WT := x_wt (tb 703 (by decide +kernel)) rfl
abbrev M_X3_roomsFor : MI := (yX3_roomsFor, cX3_roomsFor, 4, (some .int), 4, 111)
theorem in_X3_roomsFor : Cond.instanceMethod yX3_roomsFor ∈ x_WT := x_wt (tb 768 (by decide +kernel)) rfl
theorem se_X3_roomsFor : Cond.selects RX3 yX3_roomsFor yX3_roomsFor ∈ x_WT := x_wt (tb 769 (by decide +kernel)) rfl
abbrev M_X3_leastFirst : MI := (yX3_leastFirst, cX3_leastFirst, 1, (some .int), 1, 21)
theorem in_X3_leastFirst : Cond.instanceMethod yX3_leastFirst ∈ x_WT := x_wt (tb 778 (by decide +kernel)) rfl
theorem se_X3_leastFirst : Cond.selects RX3 yX3_leastFirst yX3_leastFirst ∈ x_WT := x_wt (tb 779 (by decide +kernel)) rfl
abbrev M_X4_init : MI := (yX4_init, cX4_init, 1, none, 1, 20)
theorem in_X4_init : Cond.instanceMethod yX4_init ∈ x_WT := x_wt (tb 238 (by decide +kernel)) rfl
abbrev M_X4_isEmpty : MI := (yX4_isEmpty, cX4_isEmpty, 1, (some .boolean), 0, 0)
theorem in_X4_isEmpty : Cond.instanceMethod yX4_isEmpty ∈ x_WT := x_wt (tb 310 (by decide +kernel)) rfl
theorem se_X4_isEmpty : Cond.selects RX4 yX4_isEmpty yX4_isEmpty ∈ x_WT := x_wt (tb 311 (by decide +kernel)) rfl
abbrev M_X4_holdsDoor : MI := (yX4_holdsDoor, cX4_holdsDoor, 1, (some .boolean), 0, 0)
theorem in_X4_holdsDoor : Cond.instanceMethod yX4_holdsDoor ∈ x_WT := x_wt (tb 306 (by decide +kernel)) rfl
theorem se_X4_holdsDoor : Cond.selects RX4 yX4_holdsDoor yX4_holdsDoor ∈ x_WT := x_wt (tb 307 (by decide +kernel)) rfl
abbrev M_X4_heldDoor : MI := (yX4_heldDoor, cX4_heldDoor, 1, (some .int), 0, 0)
theorem in_X4_heldDoor : Cond.instanceMethod yX4_heldDoor ∈ x_WT := x_wt (tb 370 (by decide +kernel)) rfl
theorem se_X4_heldDoor : Cond.selects RX4 yX4_heldDoor yX4_heldDoor ∈ x_WT := x_wt (tb 371 (by decide +kernel)) rfl
abbrev M_X4_clear : MI := (yX4_clear, cX4_clear, 1, none, 0, 0)
theorem in_X4_clear : Cond.instanceMethod yX4_clear ∈ x_WT := x_wt (tb 353 (by decide +kernel)) rfl
theorem se_X4_clear : Cond.selects RX4 yX4_clear yX4_clear ∈ x_WT := x_wt (tb 354 (by decide +kernel)) rfl
abbrev M_X4_takeDoor : MI := (yX4_takeDoor, cX4_takeDoor, 2, none, 0, 0)
theorem in_X4_takeDoor : Cond.instanceMethod yX4_takeDoor ∈ x_WT := x_wt (tb 357 (by decide +kernel)) rfl
theorem se_X4_takeDoor : Cond.selects RX4 yX4_takeDoor yX4_takeDoor ∈ x_WT := x_wt (tb 358 (by decide +kernel)) rfl
abbrev M_X4_takeRow : MI := (yX4_takeRow, cX4_takeRow, 4, none, 0, 0)
theorem in_X4_takeRow : Cond.instanceMethod yX4_takeRow ∈ x_WT := x_wt (tb 295 (by decide +kernel)) rfl
theorem se_X4_takeRow : Cond.selects RX4 yX4_takeRow yX4_takeRow ∈ x_WT := x_wt (tb 296 (by decide +kernel)) rfl
abbrev M_X4_hasElement : MI := (yX4_hasElement, cX4_hasElement, 2, (some .boolean), 0, 0)
theorem in_X4_hasElement : Cond.instanceMethod yX4_hasElement ∈ x_WT := x_wt (tb 314 (by decide +kernel)) rfl
theorem se_X4_hasElement : Cond.selects RX4 yX4_hasElement yX4_hasElement ∈ x_WT := x_wt (tb 315 (by decide +kernel)) rfl
abbrev M_X4_hasStretch : MI := (yX4_hasStretch, cX4_hasStretch, 3, (some .boolean), 0, 0)
theorem in_X4_hasStretch : Cond.instanceMethod yX4_hasStretch ∈ x_WT := x_wt (tb 330 (by decide +kernel)) rfl
theorem se_X4_hasStretch : Cond.selects RX4 yX4_hasStretch yX4_hasStretch ∈ x_WT := x_wt (tb 331 (by decide +kernel)) rfl
abbrev M_X4_narrow : MI := (yX4_narrow, cX4_narrow, 3, (some .long), 0, 0)
theorem in_X4_narrow : Cond.instanceMethod yX4_narrow ∈ x_WT := x_wt (tb 323 (by decide +kernel)) rfl
theorem se_X4_narrow : Cond.selects RX4 yX4_narrow yX4_narrow ∈ x_WT := x_wt (tbp 1 (by decide +kernel)) rfl
abbrev M_X4_put : MI := (yX4_put, cX4_put, 4, none, 1, 22)
theorem in_X4_put : Cond.instanceMethod yX4_put ∈ x_WT := x_wt (tb 318 (by decide +kernel)) rfl
theorem se_X4_put : Cond.selects RX4 yX4_put yX4_put ∈ x_WT := x_wt (tb 319 (by decide +kernel)) rfl
abbrev M_X5_init : MI := (yX5_init, cX5_init, 1, none, 1, 20)
theorem in_X5_init : Cond.instanceMethod yX5_init ∈ x_WT := x_wt (tb 98 (by decide +kernel)) rfl
abbrev M_X5_append : MI := (yX5_append, cX5_append, 4, none, 0, 0)
theorem in_X5_append : Cond.instanceMethod yX5_append ∈ x_WT := x_wt (tb 448 (by decide +kernel)) rfl
theorem se_X5_append : Cond.selects RX5 yX5_append yX5_append ∈ x_WT := x_wt (tb 449 (by decide +kernel)) rfl
abbrev M_X5_sortAt : MI := (yX5_sortAt, cX5_sortAt, 3, (some .int), 0, 0)
theorem in_X5_sortAt : Cond.instanceMethod yX5_sortAt ∈ x_WT := x_wt (tb 473 (by decide +kernel)) rfl
theorem se_X5_sortAt : Cond.selects RX5 yX5_sortAt yX5_sortAt ∈ x_WT := x_wt (tbp 4 (by decide +kernel)) rfl
abbrev M_X5_nextToken : MI := (yX5_nextToken, cX5_nextToken, 1, none, 1, 22)
theorem in_X5_nextToken : Cond.instanceMethod yX5_nextToken ∈ x_WT := x_wt (tb 469 (by decide +kernel)) rfl
theorem se_X5_nextToken : Cond.selects RX5 yX5_nextToken yX5_nextToken ∈ x_WT := x_wt (tbp 3 (by decide +kernel)) rfl
abbrev M_X5_isWord : MI := (yX5_isWord, cX5_isWord, 3, (some .boolean), 5, 130)
theorem in_X5_isWord : Cond.instanceMethod yX5_isWord ∈ x_WT := x_wt (tb 482 (by decide +kernel)) rfl
theorem se_X5_isWord : Cond.selects RX5 yX5_isWord yX5_isWord ∈ x_WT := x_wt (tbp 6 (by decide +kernel)) rfl
abbrev M_X5_readNumber : MI := (yX5_readNumber, cX5_readNumber, 6, (some .int), 2, 42)
theorem in_X5_readNumber : Cond.instanceMethod yX5_readNumber ∈ x_WT := x_wt (tb 539 (by decide +kernel)) rfl
theorem se_X5_readNumber : Cond.selects RX5 yX5_readNumber yX5_readNumber ∈ x_WT := x_wt (tbp 8 (by decide +kernel)) rfl
abbrev M_X5_readDoor : MI := (yX5_readDoor, cX5_readDoor, 6, (some .boolean), 6, 152)
theorem in_X5_readDoor : Cond.instanceMethod yX5_readDoor ∈ x_WT := x_wt (tb 534 (by decide +kernel)) rfl
theorem se_X5_readDoor : Cond.selects RX5 yX5_readDoor yX5_readDoor ∈ x_WT := x_wt (tbp 7 (by decide +kernel)) rfl
abbrev M_X5_readOne : MI := (yX5_readOne, cX5_readOne, 3, (some .boolean), 3, 67)
theorem in_X5_readOne : Cond.instanceMethod yX5_readOne ∈ x_WT := x_wt (tb 546 (by decide +kernel)) rfl
theorem se_X5_readOne : Cond.selects RX5 yX5_readOne yX5_readOne ∈ x_WT := x_wt (tbp 9 (by decide +kernel)) rfl
abbrev M_X5_readLaw : MI := (yX5_readLaw, cX5_readLaw, 3, (some .boolean), 3, 67)
theorem in_X5_readLaw : Cond.instanceMethod yX5_readLaw ∈ x_WT := x_wt (tb 552 (by decide +kernel)) rfl
theorem se_X5_readLaw : Cond.selects RX5 yX5_readLaw yX5_readLaw ∈ x_WT := x_wt (tbp 10 (by decide +kernel)) rfl
abbrev M_X5_readWind : MI := (yX5_readWind, cX5_readWind, 3, (some .boolean), 3, 67)
theorem in_X5_readWind : Cond.instanceMethod yX5_readWind ∈ x_WT := x_wt (tb 557 (by decide +kernel)) rfl
theorem se_X5_readWind : Cond.selects RX5 yX5_readWind yX5_readWind ∈ x_WT := x_wt (tbp 11 (by decide +kernel)) rfl
abbrev M_X5_readMoves : MI := (yX5_readMoves, cX5_readMoves, 4, (some .boolean), 3, 67)
theorem in_X5_readMoves : Cond.instanceMethod yX5_readMoves ∈ x_WT := x_wt (tb 562 (by decide +kernel)) rfl
theorem se_X5_readMoves : Cond.selects RX5 yX5_readMoves yX5_readMoves ∈ x_WT := x_wt (tbp 12 (by decide +kernel)) rfl
abbrev M_X5_readStatement : MI := (yX5_readStatement, cX5_readStatement, 2, (some .boolean), 7, 177)
theorem in_X5_readStatement : Cond.instanceMethod yX5_readStatement ∈ x_WT := x_wt (tb 477 (by decide +kernel)) rfl
theorem se_X5_readStatement : Cond.selects RX5 yX5_readStatement yX5_readStatement ∈ x_WT := x_wt (tbp 5 (by decide +kernel)) rfl
abbrev M_X5_readInto : MI := (yX5_readInto, cX5_readInto, 3, (some .int), 8, 198)
theorem in_X5_readInto : Cond.instanceMethod yX5_readInto ∈ x_WT := x_wt (tb 464 (by decide +kernel)) rfl
theorem se_X5_readInto : Cond.selects RX5 yX5_readInto yX5_readInto ∈ x_WT := x_wt (tb 465 (by decide +kernel)) rfl
abbrev M_X6_init : MI := (yX6_init, cX6_init, 2, none, 3, 60)
theorem in_X6_init : Cond.instanceMethod yX6_init ∈ x_WT := x_wt (tb 19 (by decide +kernel)) rfl
abbrev M_X6_isShelf : MI := (yX6_isShelf, cX6_isShelf, 1, (some .boolean), 0, 0)
theorem st_X6_isShelf : Cond.static yX6_isShelf ∈ x_WT := x_wt (tb 288 (by decide +kernel)) rfl
abbrev M_X6_refuse : MI := (yX6_refuse, cX6_refuse, 3, (some .int), 0, 0)
theorem in_X6_refuse : Cond.instanceMethod yX6_refuse ∈ x_WT := x_wt (tb 292 (by decide +kernel)) rfl
theorem se_X6_refuse : Cond.selects RX6 yX6_refuse yX6_refuse ∈ x_WT := x_wt (tbp 0 (by decide +kernel)) rfl
abbrev M_X6_row : MI := (yX6_row, cX6_row, 4, (some .int), 1, 23)
theorem in_X6_row : Cond.instanceMethod yX6_row ∈ x_WT := x_wt (tb 284 (by decide +kernel)) rfl
theorem se_X6_row : Cond.selects RX6 yX6_row yX6_row ∈ x_WT := x_wt (tb 285 (by decide +kernel)) rfl
abbrev M_X6_rowRefusal : MI := (yX6_rowRefusal, cX6_rowRefusal, 2, (some .int), 1, 20)
theorem st_X6_rowRefusal : Cond.static yX6_rowRefusal ∈ x_WT := x_wt (tb 303 (by decide +kernel)) rfl
abbrev M_X6_set : MI := (yX6_set, cX6_set, 6, (some .int), 2, 45)
theorem in_X6_set : Cond.instanceMethod yX6_set ∈ x_WT := x_wt (tb 299 (by decide +kernel)) rfl
theorem se_X6_set : Cond.selects RX6 yX6_set yX6_set ∈ x_WT := x_wt (tb 300 (by decide +kernel)) rfl
abbrev M_X6_copy : MI := (yX6_copy, cX6_copy, 8, (some .int), 1, 40)
theorem in_X6_copy : Cond.instanceMethod yX6_copy ∈ x_WT := x_wt (tb 326 (by decide +kernel)) rfl
theorem se_X6_copy : Cond.selects RX6 yX6_copy yX6_copy ∈ x_WT := x_wt (tb 327 (by decide +kernel)) rfl
abbrev M_X6_element : MI := (yX6_element, cX6_element, 3, (some .long), 1, 21)
theorem in_X6_element : Cond.instanceMethod yX6_element ∈ x_WT := x_wt (tb 337 (by decide +kernel)) rfl
theorem se_X6_element : Cond.selects RX6 yX6_element yX6_element ∈ x_WT := x_wt (tb 338 (by decide +kernel)) rfl
abbrev M_X6_holds : MI := (yX6_holds, cX6_holds, 2, (some .int), 1, 20)
theorem in_X6_holds : Cond.instanceMethod yX6_holds ∈ x_WT := x_wt (tb 341 (by decide +kernel)) rfl
theorem se_X6_holds : Cond.selects RX6 yX6_holds yX6_holds ∈ x_WT := x_wt (tb 342 (by decide +kernel)) rfl
abbrev M_X6_show : MI := (yX6_show, cX6_show, 3, (some .int), 1, 22)
theorem in_X6_show : Cond.instanceMethod yX6_show ∈ x_WT := x_wt (tb 345 (by decide +kernel)) rfl
theorem se_X6_show : Cond.selects RX6 yX6_show yX6_show ∈ x_WT := x_wt (tb 346 (by decide +kernel)) rfl
abbrev M_X6_isKind : MI := (yX6_isKind, cX6_isKind, 1, (some .boolean), 0, 0)
theorem st_X6_isKind : Cond.static yX6_isKind ∈ x_WT := x_wt (tb 365 (by decide +kernel)) rfl
abbrev M_X6_isUnder : MI := (yX6_isUnder, cX6_isUnder, 4, (some .boolean), 1, 20)
theorem st_X6_isUnder : Cond.static yX6_isUnder ∈ x_WT := x_wt (tb 374 (by decide +kernel)) rfl
abbrev M_X6_saying : MI := (yX6_saying, cX6_saying, 3, (some .int), 3, 67)
theorem in_X6_saying : Cond.instanceMethod yX6_saying ∈ x_WT := x_wt (tb 380 (by decide +kernel)) rfl
theorem se_X6_saying : Cond.selects RX6 yX6_saying yX6_saying ∈ x_WT := x_wt (tbp 2 (by decide +kernel)) rfl
abbrev M_X6_says : MI := (yX6_says, cX6_says, 5, (some .int), 4, 89)
theorem in_X6_says : Cond.instanceMethod yX6_says ∈ x_WT := x_wt (tb 361 (by decide +kernel)) rfl
theorem se_X6_says : Cond.selects RX6 yX6_says yX6_says ∈ x_WT := x_wt (tb 362 (by decide +kernel)) rfl
abbrev M_X6_isRoom : MI := (yX6_isRoom, cX6_isRoom, 1, (some .boolean), 0, 0)
theorem st_X6_isRoom : Cond.static yX6_isRoom ∈ x_WT := x_wt (tb 412 (by decide +kernel)) rfl
abbrev M_X6_door : MI := (yX6_door, cX6_door, 4, (some .int), 1, 23)
theorem in_X6_door : Cond.instanceMethod yX6_door ∈ x_WT := x_wt (tb 408 (by decide +kernel)) rfl
theorem se_X6_door : Cond.selects RX6 yX6_door yX6_door ∈ x_WT := x_wt (tb 409 (by decide +kernel)) rfl
abbrev M_X6_one : MI := (yX6_one, cX6_one, 2, (some .int), 1, 22)
theorem in_X6_one : Cond.instanceMethod yX6_one ∈ x_WT := x_wt (tb 419 (by decide +kernel)) rfl
theorem se_X6_one : Cond.selects RX6 yX6_one yX6_one ∈ x_WT := x_wt (tb 420 (by decide +kernel)) rfl
abbrev M_X6_ask : MI := (yX6_ask, cX6_ask, 4, (some .int), 1, 22)
theorem in_X6_ask : Cond.instanceMethod yX6_ask ∈ x_WT := x_wt (tb 427 (by decide +kernel)) rfl
theorem se_X6_ask : Cond.selects RX6 yX6_ask yX6_ask ∈ x_WT := x_wt (tb 428 (by decide +kernel)) rfl
abbrev M_X6_stand : MI := (yX6_stand, cX6_stand, 3, (some .int), 1, 22)
theorem in_X6_stand : Cond.instanceMethod yX6_stand ∈ x_WT := x_wt (tb 431 (by decide +kernel)) rfl
theorem se_X6_stand : Cond.selects RX6 yX6_stand yX6_stand ∈ x_WT := x_wt (tb 432 (by decide +kernel)) rfl
abbrev M_X6_move : MI := (yX6_move, cX6_move, 4, (some .int), 1, 22)
theorem in_X6_move : Cond.instanceMethod yX6_move ∈ x_WT := x_wt (tb 436 (by decide +kernel)) rfl
theorem se_X6_move : Cond.selects RX6 yX6_move yX6_move ∈ x_WT := x_wt (tb 437 (by decide +kernel)) rfl
abbrev M_X6_feed : MI := (yX6_feed, cX6_feed, 3, (some .int), 1, 23)
theorem in_X6_feed : Cond.instanceMethod yX6_feed ∈ x_WT := x_wt (tb 444 (by decide +kernel)) rfl
theorem se_X6_feed : Cond.selects RX6 yX6_feed yX6_feed ∈ x_WT := x_wt (tb 445 (by decide +kernel)) rfl
abbrev M_X6_wipe : MI := (yX6_wipe, cX6_wipe, 2, (some .int), 0, 0)
theorem in_X6_wipe : Cond.instanceMethod yX6_wipe ∈ x_WT := x_wt (tb 452 (by decide +kernel)) rfl
theorem se_X6_wipe : Cond.selects RX6 yX6_wipe yX6_wipe ∈ x_WT := x_wt (tb 453 (by decide +kernel)) rfl
abbrev M_X6_house : MI := (yX6_house, cX6_house, 2, (some .int), 9, 220)
theorem in_X6_house : Cond.instanceMethod yX6_house ∈ x_WT := x_wt (tb 456 (by decide +kernel)) rfl
theorem se_X6_house : Cond.selects RX6 yX6_house yX6_house ∈ x_WT := x_wt (tb 457 (by decide +kernel)) rfl
abbrev M_X6_doorOf : MI := (yX6_doorOf, cX6_doorOf, 3, (some .int), 1, 22)
theorem in_X6_doorOf : Cond.instanceMethod yX6_doorOf ∈ x_WT := x_wt (tb 566 (by decide +kernel)) rfl
theorem se_X6_doorOf : Cond.selects RX6 yX6_doorOf yX6_doorOf ∈ x_WT := x_wt (tb 567 (by decide +kernel)) rfl
abbrev M_X6_where : MI := (yX6_where, cX6_where, 2, (some .int), 1, 22)
theorem in_X6_where : Cond.instanceMethod yX6_where ∈ x_WT := x_wt (tb 570 (by decide +kernel)) rfl
theorem se_X6_where : Cond.selects RX6 yX6_where yX6_where ∈ x_WT := x_wt (tb 571 (by decide +kernel)) rfl
abbrev M_X6_doors : MI := (yX6_doors, cX6_doors, 3, (some .int), 3, 67)
theorem in_X6_doors : Cond.instanceMethod yX6_doors ∈ x_WT := x_wt (tb 574 (by decide +kernel)) rfl
theorem se_X6_doors : Cond.selects RX6 yX6_doors yX6_doors ∈ x_WT := x_wt (tb 575 (by decide +kernel)) rfl
abbrev M_X6_may : MI := (yX6_may, cX6_may, 4, (some .int), 4, 92)
theorem in_X6_may : Cond.instanceMethod yX6_may ∈ x_WT := x_wt (tb 582 (by decide +kernel)) rfl
theorem se_X6_may : Cond.selects RX6 yX6_may yX6_may ∈ x_WT := x_wt (tb 583 (by decide +kernel)) rfl
abbrev M_X6_by : MI := (yX6_by, cX6_by, 4, (some .int), 4, 90)
theorem in_X6_by : Cond.instanceMethod yX6_by ∈ x_WT := x_wt (tb 612 (by decide +kernel)) rfl
theorem se_X6_by : Cond.selects RX6 yX6_by yX6_by ∈ x_WT := x_wt (tb 613 (by decide +kernel)) rfl
abbrev M_X6_ways : MI := (yX6_ways, cX6_ways, 5, (some .int), 4, 94)
theorem in_X6_ways : Cond.instanceMethod yX6_ways ∈ x_WT := x_wt (tb 628 (by decide +kernel)) rfl
theorem se_X6_ways : Cond.selects RX6 yX6_ways yX6_ways ∈ x_WT := x_wt (tb 629 (by decide +kernel)) rfl
abbrev M_X6_walk : MI := (yX6_walk, cX6_walk, 3, (some .int), 2, 44)
theorem in_X6_walk : Cond.instanceMethod yX6_walk ∈ x_WT := x_wt (tb 645 (by decide +kernel)) rfl
theorem se_X6_walk : Cond.selects RX6 yX6_walk yX6_walk ∈ x_WT := x_wt (tb 646 (by decide +kernel)) rfl
abbrev M_X6_shut : MI := (yX6_shut, cX6_shut, 3, (some .int), 3, 66)
theorem in_X6_shut : Cond.instanceMethod yX6_shut ∈ x_WT := x_wt (tb 653 (by decide +kernel)) rfl
theorem se_X6_shut : Cond.selects RX6 yX6_shut yX6_shut ∈ x_WT := x_wt (tb 654 (by decide +kernel)) rfl
abbrev M_X6_open : MI := (yX6_open, cX6_open, 4, (some .int), 4, 90)
theorem in_X6_open : Cond.instanceMethod yX6_open ∈ x_WT := x_wt (tb 661 (by decide +kernel)) rfl
theorem se_X6_open : Cond.selects RX6 yX6_open yX6_open ∈ x_WT := x_wt (tb 662 (by decide +kernel)) rfl
abbrev M_X6_reach : MI := (yX6_reach, cX6_reach, 2, (some .int), 2, 47)
theorem in_X6_reach : Cond.instanceMethod yX6_reach ∈ x_WT := x_wt (tb 669 (by decide +kernel)) rfl
theorem se_X6_reach : Cond.selects RX6 yX6_reach yX6_reach ∈ x_WT := x_wt (tb 670 (by decide +kernel)) rfl
abbrev M_X6_shutIn : MI := (yX6_shutIn, cX6_shutIn, 1, (some .int), 3, 69)
theorem in_X6_shutIn : Cond.instanceMethod yX6_shutIn ∈ x_WT := x_wt (tb 677 (by decide +kernel)) rfl
theorem se_X6_shutIn : Cond.selects RX6 yX6_shutIn yX6_shutIn ∈ x_WT := x_wt (tb 678 (by decide +kernel)) rfl
abbrev M_X6_fewestTo : MI := (yX6_fewestTo, cX6_fewestTo, 3, (some .int), 5, 136)
theorem in_X6_fewestTo : Cond.instanceMethod yX6_fewestTo ∈ x_WT := x_wt (tb 691 (by decide +kernel)) rfl
theorem se_X6_fewestTo : Cond.selects RX6 yX6_fewestTo yX6_fewestTo ∈ x_WT := x_wt (tbp 13 (by decide +kernel)) rfl
abbrev M_X6_coming : MI := (yX6_coming, cX6_coming, 3, (some .int), 6, 158)
theorem in_X6_coming : Cond.instanceMethod yX6_coming ∈ x_WT := x_wt (tb 686 (by decide +kernel)) rfl
theorem se_X6_coming : Cond.selects RX6 yX6_coming yX6_coming ∈ x_WT := x_wt (tb 687 (by decide +kernel)) rfl
abbrev M_X6_all : MI := (yX6_all, cX6_all, 2, (some .int), 5, 134)
theorem in_X6_all : Cond.instanceMethod yX6_all ∈ x_WT := x_wt (tb 764 (by decide +kernel)) rfl
theorem se_X6_all : Cond.selects RX6 yX6_all yX6_all ∈ x_WT := x_wt (tb 765 (by decide +kernel)) rfl
abbrev M_X6_first : MI := (yX6_first, cX6_first, 3, (some .int), 6, 158)
theorem in_X6_first : Cond.instanceMethod yX6_first ∈ x_WT := x_wt (tb 774 (by decide +kernel)) rfl
theorem se_X6_first : Cond.selects RX6 yX6_first yX6_first ∈ x_WT := x_wt (tb 775 (by decide +kernel)) rfl
abbrev M_X6_errands : MI := (yX6_errands, cX6_errands, 9, (some .int), 5, 136)
theorem in_X6_errands : Cond.instanceMethod yX6_errands ∈ x_WT := x_wt (tb 782 (by decide +kernel)) rfl
theorem se_X6_errands : Cond.selects RX6 yX6_errands yX6_errands ∈ x_WT := x_wt (tb 783 (by decide +kernel)) rfl
abbrev M_X6_lost : MI := (yX6_lost, cX6_lost, 3, (some .int), 6, 158)
theorem in_X6_lost : Cond.instanceMethod yX6_lost ∈ x_WT := x_wt (tb 787 (by decide +kernel)) rfl
theorem se_X6_lost : Cond.selects RX6 yX6_lost yX6_lost ∈ x_WT := x_wt (tb 788 (by decide +kernel)) rfl
abbrev M_X6_stock : MI := (yX6_stock, cX6_stock, 1, (some .int), 2, 43)
theorem in_X6_stock : Cond.instanceMethod yX6_stock ∈ x_WT := x_wt (tb 791 (by decide +kernel)) rfl
theorem se_X6_stock : Cond.selects RX6 yX6_stock yX6_stock ∈ x_WT := x_wt (tb 792 (by decide +kernel)) rfl
abbrev M_X6_lasts : MI := (yX6_lasts, cX6_lasts, 1, (some .int), 5, 131)
theorem in_X6_lasts : Cond.instanceMethod yX6_lasts ∈ x_WT := x_wt (tb 795 (by decide +kernel)) rfl
theorem se_X6_lasts : Cond.selects RX6 yX6_lasts yX6_lasts ∈ x_WT := x_wt (tb 796 (by decide +kernel)) rfl
abbrev M_X6_worth : MI := (yX6_worth, cX6_worth, 3, (some .int), 5, 131)
theorem in_X6_worth : Cond.instanceMethod yX6_worth ∈ x_WT := x_wt (tb 830 (by decide +kernel)) rfl
theorem se_X6_worth : Cond.selects RX6 yX6_worth yX6_worth ∈ x_WT := x_wt (tb 831 (by decide +kernel)) rfl
abbrev M_X6_spare : MI := (yX6_spare, cX6_spare, 5, (some .int), 5, 131)
theorem in_X6_spare : Cond.instanceMethod yX6_spare ∈ x_WT := x_wt (tb 835 (by decide +kernel)) rfl
theorem se_X6_spare : Cond.selects RX6 yX6_spare yX6_spare ∈ x_WT := x_wt (tb 836 (by decide +kernel)) rfl
abbrev M_X6_endless : MI := (yX6_endless, cX6_endless, 3, (some .int), 5, 131)
theorem in_X6_endless : Cond.instanceMethod yX6_endless ∈ x_WT := x_wt (tb 839 (by decide +kernel)) rfl
theorem se_X6_endless : Cond.selects RX6 yX6_endless yX6_endless ∈ x_WT := x_wt (tb 840 (by decide +kernel)) rfl
abbrev M_X6_boxes : MI := (yX6_boxes, cX6_boxes, 3, (some .int), 5, 131)
theorem in_X6_boxes : Cond.instanceMethod yX6_boxes ∈ x_WT := x_wt (tb 843 (by decide +kernel)) rfl
theorem se_X6_boxes : Cond.selects RX6 yX6_boxes yX6_boxes ∈ x_WT := x_wt (tb 844 (by decide +kernel)) rfl
abbrev M_X6_playActs : MI := (yX6_playActs, cX6_playActs, 4, (some .int), 5, 116)
theorem in_X6_playActs : Cond.instanceMethod yX6_playActs ∈ x_WT := x_wt (tb 852 (by decide +kernel)) rfl
theorem se_X6_playActs : Cond.selects RX6 yX6_playActs yX6_playActs ∈ x_WT := x_wt (tbp 27 (by decide +kernel)) rfl
abbrev M_X6_judge : MI := (yX6_judge, cX6_judge, 4, (some .int), 6, 139)
theorem in_X6_judge : Cond.instanceMethod yX6_judge ∈ x_WT := x_wt (tb 847 (by decide +kernel)) rfl
theorem se_X6_judge : Cond.selects RX6 yX6_judge yX6_judge ∈ x_WT := x_wt (tb 848 (by decide +kernel)) rfl
abbrev M_X6_told : MI := (yX6_told, cX6_told, 6, (some .int), 6, 139)
theorem in_X6_told : Cond.instanceMethod yX6_told ∈ x_WT := x_wt (tb 870 (by decide +kernel)) rfl
theorem se_X6_told : Cond.selects RX6 yX6_told yX6_told ∈ x_WT := x_wt (tb 871 (by decide +kernel)) rfl
abbrev M_X6_evening : MI := (yX6_evening, cX6_evening, 4, (some .int), 5, 115)
theorem in_X6_evening : Cond.instanceMethod yX6_evening ∈ x_WT := x_wt (tb 874 (by decide +kernel)) rfl
theorem se_X6_evening : Cond.selects RX6 yX6_evening yX6_evening ∈ x_WT := x_wt (tb 875 (by decide +kernel)) rfl
abbrev M_X6_night : MI := (yX6_night, cX6_night, 1, (some .int), 2, 43)
theorem in_X6_night : Cond.instanceMethod yX6_night ∈ x_WT := x_wt (tb 888 (by decide +kernel)) rfl
theorem se_X6_night : Cond.selects RX6 yX6_night yX6_night ∈ x_WT := x_wt (tb 889 (by decide +kernel)) rfl
abbrev M_X6_seed : MI := (yX6_seed, cX6_seed, 3, (some .int), 0, 0)
theorem in_X6_seed : Cond.instanceMethod yX6_seed ∈ x_WT := x_wt (tb 896 (by decide +kernel)) rfl
theorem se_X6_seed : Cond.selects RX6 yX6_seed yX6_seed ∈ x_WT := x_wt (tb 897 (by decide +kernel)) rfl
abbrev M_X6_image : MI := (yX6_image, cX6_image, 1, (some .int), 1, 22)
theorem in_X6_image : Cond.instanceMethod yX6_image ∈ x_WT := x_wt (tb 900 (by decide +kernel)) rfl
theorem se_X6_image : Cond.selects RX6 yX6_image yX6_image ∈ x_WT := x_wt (tb 901 (by decide +kernel)) rfl
abbrev M_X6_back : MI := (yX6_back, cX6_back, 2, (some .int), 1, 22)
theorem in_X6_back : Cond.instanceMethod yX6_back ∈ x_WT := x_wt (tb 904 (by decide +kernel)) rfl
theorem se_X6_back : Cond.selects RX6 yX6_back yX6_back ∈ x_WT := x_wt (tb 905 (by decide +kernel)) rfl
abbrev M_X6_fullShelves : MI := (yX6_fullShelves, cX6_fullShelves, 3, (some .int), 1, 20)
theorem in_X6_fullShelves : Cond.instanceMethod yX6_fullShelves ∈ x_WT := x_wt (tb 914 (by decide +kernel)) rfl
theorem se_X6_fullShelves : Cond.selects RX6 yX6_fullShelves yX6_fullShelves ∈ x_WT := x_wt (tbp 28 (by decide +kernel)) rfl
abbrev M_X6_status : MI := (yX6_status, cX6_status, 2, (some .int), 2, 42)
theorem in_X6_status : Cond.instanceMethod yX6_status ∈ x_WT := x_wt (tb 908 (by decide +kernel)) rfl
theorem se_X6_status : Cond.selects RX6 yX6_status yX6_status ∈ x_WT := x_wt (tb 909 (by decide +kernel)) rfl
abbrev M_X7_init : MI := (yX7_init, cX7_init, 1, none, 1, 20)
theorem in_X7_init : Cond.instanceMethod yX7_init ∈ x_WT := x_wt (tb 919 (by decide +kernel)) rfl
abbrev M_X7_refuse : MI := (yX7_refuse, cX7_refuse, 2, (some .int), 0, 0)
theorem in_X7_refuse : Cond.instanceMethod yX7_refuse ∈ x_WT := x_wt (tb 1059 (by decide +kernel)) rfl
theorem se_X7_refuse : Cond.selects RX7 yX7_refuse yX7_refuse ∈ x_WT := x_wt (tbp 29 (by decide +kernel)) rfl
abbrev M_X7_in : MI := (yX7_in, cX7_in, 6, (some .boolean), 0, 0)
theorem st_X7_in : Cond.static yX7_in ∈ x_WT := x_wt (tb 1053 (by decide +kernel)) rfl
abbrev M_X7_isDoor : MI := (yX7_isDoor, cX7_isDoor, 2, (some .boolean), 1, 25)
theorem in_X7_isDoor : Cond.instanceMethod yX7_isDoor ∈ x_WT := x_wt (tb 1090 (by decide +kernel)) rfl
theorem se_X7_isDoor : Cond.selects RX7 yX7_isDoor yX7_isDoor ∈ x_WT := x_wt (tbp 31 (by decide +kernel)) rfl
abbrev M_X7_isOne : MI := (yX7_isOne, cX7_isOne, 2, (some .boolean), 1, 25)
theorem in_X7_isOne : Cond.instanceMethod yX7_isOne ∈ x_WT := x_wt (tb 1146 (by decide +kernel)) rfl
theorem se_X7_isOne : Cond.selects RX7 yX7_isOne yX7_isOne ∈ x_WT := x_wt (tbp 37 (by decide +kernel)) rfl
abbrev M_X7_isRoom : MI := (yX7_isRoom, cX7_isRoom, 2, (some .boolean), 1, 25)
theorem st_X7_isRoom : Cond.static yX7_isRoom ∈ x_WT := x_wt (tb 1125 (by decide +kernel)) rfl
abbrev M_X7_has : MI := (yX7_has, cX7_has, 2, (some .boolean), 0, 0)
theorem st_X7_has : Cond.static yX7_has ∈ x_WT := x_wt (tb 1114 (by decide +kernel)) rfl
abbrev M_X7_row : MI := (yX7_row, cX7_row, 5, (some .int), 1, 25)
theorem in_X7_row : Cond.instanceMethod yX7_row ∈ x_WT := x_wt (tb 1048 (by decide +kernel)) rfl
theorem se_X7_row : Cond.selects RX7 yX7_row yX7_row ∈ x_WT := x_wt (tb 1049 (by decide +kernel)) rfl
abbrev M_X7_fit : MI := (yX7_fit, cX7_fit, 3, (some .long), 0, 0)
theorem st_X7_fit : Cond.static yX7_fit ∈ x_WT := x_wt (tb 1070 (by decide +kernel)) rfl
abbrev M_X7_noRow : MI := (yX7_noRow, cX7_noRow, 2, (some .int), 1, 25)
theorem in_X7_noRow : Cond.instanceMethod yX7_noRow ∈ x_WT := x_wt (tb 1067 (by decide +kernel)) rfl
theorem se_X7_noRow : Cond.selects RX7 yX7_noRow yX7_noRow ∈ x_WT := x_wt (tbp 30 (by decide +kernel)) rfl
abbrev M_X7_set : MI := (yX7_set, cX7_set, 6, (some .int), 2, 46)
theorem in_X7_set : Cond.instanceMethod yX7_set ∈ x_WT := x_wt (tb 1062 (by decide +kernel)) rfl
theorem se_X7_set : Cond.selects RX7 yX7_set yX7_set ∈ x_WT := x_wt (tb 1063 (by decide +kernel)) rfl
abbrev M_X7_copy : MI := (yX7_copy, cX7_copy, 7, (some .int), 1, 25)
theorem in_X7_copy : Cond.instanceMethod yX7_copy ∈ x_WT := x_wt (tb 1073 (by decide +kernel)) rfl
theorem se_X7_copy : Cond.selects RX7 yX7_copy yX7_copy ∈ x_WT := x_wt (tb 1074 (by decide +kernel)) rfl
abbrev M_X7_element : MI := (yX7_element, cX7_element, 3, (some .long), 1, 25)
theorem in_X7_element : Cond.instanceMethod yX7_element ∈ x_WT := x_wt (tb 1077 (by decide +kernel)) rfl
theorem se_X7_element : Cond.selects RX7 yX7_element yX7_element ∈ x_WT := x_wt (tb 1078 (by decide +kernel)) rfl
abbrev M_X7_holds : MI := (yX7_holds, cX7_holds, 2, (some .int), 1, 25)
theorem in_X7_holds : Cond.instanceMethod yX7_holds ∈ x_WT := x_wt (tb 1081 (by decide +kernel)) rfl
theorem se_X7_holds : Cond.selects RX7 yX7_holds yX7_holds ∈ x_WT := x_wt (tb 1082 (by decide +kernel)) rfl
abbrev M_X7_show : MI := (yX7_show, cX7_show, 3, (some .int), 2, 46)
theorem in_X7_show : Cond.instanceMethod yX7_show ∈ x_WT := x_wt (tb 1085 (by decide +kernel)) rfl
theorem se_X7_show : Cond.selects RX7 yX7_show yX7_show ∈ x_WT := x_wt (tb 1086 (by decide +kernel)) rfl
abbrev M_X7_weightOf : MI := (yX7_weightOf, cX7_weightOf, 3, (some .int), 0, 0)
theorem in_X7_weightOf : Cond.instanceMethod yX7_weightOf ∈ x_WT := x_wt (tb 1099 (by decide +kernel)) rfl
theorem se_X7_weightOf : Cond.selects RX7 yX7_weightOf yX7_weightOf ∈ x_WT := x_wt (tbp 32 (by decide +kernel)) rfl
abbrev M_X7_isSomebodyIn : MI := (yX7_isSomebodyIn, cX7_isSomebodyIn, 3, (some .boolean), 0, 0)
theorem in_X7_isSomebodyIn : Cond.instanceMethod yX7_isSomebodyIn ∈ x_WT := x_wt (tb 1103 (by decide +kernel)) rfl
theorem se_X7_isSomebodyIn : Cond.selects RX7 yX7_isSomebodyIn yX7_isSomebodyIn ∈ x_WT := x_wt (tbp 33 (by decide +kernel)) rfl
abbrev M_X7_isAt : MI := (yX7_isAt, cX7_isAt, 3, (some .boolean), 0, 0)
theorem in_X7_isAt : Cond.instanceMethod yX7_isAt ∈ x_WT := x_wt (tb 1118 (by decide +kernel)) rfl
theorem se_X7_isAt : Cond.selects RX7 yX7_isAt yX7_isAt ∈ x_WT := x_wt (tbp 36 (by decide +kernel)) rfl
abbrev M_X7_mayShut : MI := (yX7_mayShut, cX7_mayShut, 4, (some .boolean), 1, 22)
theorem in_X7_mayShut : Cond.instanceMethod yX7_mayShut ∈ x_WT := x_wt (tb 1111 (by decide +kernel)) rfl
theorem se_X7_mayShut : Cond.selects RX7 yX7_mayShut yX7_mayShut ∈ x_WT := x_wt (tbp 35 (by decide +kernel)) rfl
abbrev M_X7_shuttable : MI := (yX7_shuttable, cX7_shuttable, 4, (some .int), 2, 45)
theorem in_X7_shuttable : Cond.instanceMethod yX7_shuttable ∈ x_WT := x_wt (tb 1107 (by decide +kernel)) rfl
theorem se_X7_shuttable : Cond.selects RX7 yX7_shuttable yX7_shuttable ∈ x_WT := x_wt (tbp 34 (by decide +kernel)) rfl
abbrev M_X7_says : MI := (yX7_says, cX7_says, 6, (some .int), 3, 68)
theorem in_X7_says : Cond.instanceMethod yX7_says ∈ x_WT := x_wt (tb 1093 (by decide +kernel)) rfl
theorem se_X7_says : Cond.selects RX7 yX7_says yX7_says ∈ x_WT := x_wt (tb 1094 (by decide +kernel)) rfl
abbrev M_X7_door : MI := (yX7_door, cX7_door, 4, (some .int), 2, 46)
theorem in_X7_door : Cond.instanceMethod yX7_door ∈ x_WT := x_wt (tb 1121 (by decide +kernel)) rfl
theorem se_X7_door : Cond.selects RX7 yX7_door yX7_door ∈ x_WT := x_wt (tb 1122 (by decide +kernel)) rfl
abbrev M_X7_one : MI := (yX7_one, cX7_one, 2, (some .int), 2, 46)
theorem in_X7_one : Cond.instanceMethod yX7_one ∈ x_WT := x_wt (tb 1128 (by decide +kernel)) rfl
theorem se_X7_one : Cond.selects RX7 yX7_one yX7_one ∈ x_WT := x_wt (tb 1129 (by decide +kernel)) rfl
abbrev M_X7_ask : MI := (yX7_ask, cX7_ask, 4, (some .int), 1, 25)
theorem in_X7_ask : Cond.instanceMethod yX7_ask ∈ x_WT := x_wt (tb 1132 (by decide +kernel)) rfl
theorem se_X7_ask : Cond.selects RX7 yX7_ask yX7_ask ∈ x_WT := x_wt (tb 1133 (by decide +kernel)) rfl
abbrev M_X7_stand : MI := (yX7_stand, cX7_stand, 4, (some .int), 2, 46)
theorem in_X7_stand : Cond.instanceMethod yX7_stand ∈ x_WT := x_wt (tb 1137 (by decide +kernel)) rfl
theorem se_X7_stand : Cond.selects RX7 yX7_stand yX7_stand ∈ x_WT := x_wt (tb 1138 (by decide +kernel)) rfl
abbrev M_X7_move : MI := (yX7_move, cX7_move, 4, (some .int), 2, 46)
theorem in_X7_move : Cond.instanceMethod yX7_move ∈ x_WT := x_wt (tb 1141 (by decide +kernel)) rfl
theorem se_X7_move : Cond.selects RX7 yX7_move yX7_move ∈ x_WT := x_wt (tb 1142 (by decide +kernel)) rfl
abbrev M_X7_feed : MI := (yX7_feed, cX7_feed, 4, (some .int), 1, 25)
theorem in_X7_feed : Cond.instanceMethod yX7_feed ∈ x_WT := x_wt (tb 1149 (by decide +kernel)) rfl
theorem se_X7_feed : Cond.selects RX7 yX7_feed yX7_feed ∈ x_WT := x_wt (tb 1150 (by decide +kernel)) rfl
abbrev M_X7_wipe : MI := (yX7_wipe, cX7_wipe, 2, (some .int), 0, 0)
theorem in_X7_wipe : Cond.instanceMethod yX7_wipe ∈ x_WT := x_wt (tb 1153 (by decide +kernel)) rfl
theorem se_X7_wipe : Cond.selects RX7 yX7_wipe yX7_wipe ∈ x_WT := x_wt (tb 1154 (by decide +kernel)) rfl
abbrev M_X7_isLetter : MI := (yX7_isLetter, cX7_isLetter, 1, (some .boolean), 0, 0)
theorem st_X7_isLetter : Cond.static yX7_isLetter ∈ x_WT := x_wt (tb 1179 (by decide +kernel)) rfl
abbrev M_X7_isDigit : MI := (yX7_isDigit, cX7_isDigit, 1, (some .boolean), 0, 0)
theorem st_X7_isDigit : Cond.static yX7_isDigit ∈ x_WT := x_wt (tb 1182 (by decide +kernel)) rfl
abbrev M_X7_look : MI := (yX7_look, cX7_look, 1, none, 1, 20)
theorem in_X7_look : Cond.instanceMethod yX7_look ∈ x_WT := x_wt (tb 1176 (by decide +kernel)) rfl
theorem se_X7_look : Cond.selects RX7 yX7_look yX7_look ∈ x_WT := x_wt (tbp 41 (by decide +kernel)) rfl
abbrev M_X7_wrong : MI := (yX7_wrong, cX7_wrong, 1, (some .boolean), 0, 0)
theorem in_X7_wrong : Cond.instanceMethod yX7_wrong ∈ x_WT := x_wt (tb 1206 (by decide +kernel)) rfl
theorem se_X7_wrong : Cond.selects RX7 yX7_wrong yX7_wrong ∈ x_WT := x_wt (tbp 46 (by decide +kernel)) rfl
abbrev M_X7_isWord : MI := (yX7_isWord, cX7_isWord, 3, (some .boolean), 5, 130)
theorem in_X7_isWord : Cond.instanceMethod yX7_isWord ∈ x_WT := x_wt (tb 1192 (by decide +kernel)) rfl
theorem se_X7_isWord : Cond.selects RX7 yX7_isWord yX7_isWord ∈ x_WT := x_wt (tbp 43 (by decide +kernel)) rfl
abbrev M_X7_number : MI := (yX7_number, cX7_number, 4, (some .boolean), 2, 40)
theorem in_X7_number : Cond.instanceMethod yX7_number ∈ x_WT := x_wt (tb 1210 (by decide +kernel)) rfl
theorem se_X7_number : Cond.selects RX7 yX7_number yX7_number ∈ x_WT := x_wt (tbp 47 (by decide +kernel)) rfl
abbrev M_X7_tells : MI := (yX7_tells, cX7_tells, 5, (some .boolean), 6, 152)
theorem in_X7_tells : Cond.instanceMethod yX7_tells ∈ x_WT := x_wt (tb 1202 (by decide +kernel)) rfl
theorem se_X7_tells : Cond.selects RX7 yX7_tells yX7_tells ∈ x_WT := x_wt (tbp 45 (by decide +kernel)) rfl
abbrev M_X7_doorTold : MI := (yX7_doorTold, cX7_doorTold, 2, (some .boolean), 7, 176)
theorem in_X7_doorTold : Cond.instanceMethod yX7_doorTold ∈ x_WT := x_wt (tb 1198 (by decide +kernel)) rfl
theorem se_X7_doorTold : Cond.selects RX7 yX7_doorTold yX7_doorTold ∈ x_WT := x_wt (tbp 44 (by decide +kernel)) rfl
abbrev M_X7_statement : MI := (yX7_statement, cX7_statement, 2, (some .boolean), 8, 197)
theorem in_X7_statement : Cond.instanceMethod yX7_statement ∈ x_WT := x_wt (tb 1187 (by decide +kernel)) rfl
theorem se_X7_statement : Cond.selects RX7 yX7_statement yX7_statement ∈ x_WT := x_wt (tbp 42 (by decide +kernel)) rfl
abbrev M_X7_readAll : MI := (yX7_readAll, cX7_readAll, 1, (some .boolean), 9, 218)
theorem in_X7_readAll : Cond.instanceMethod yX7_readAll ∈ x_WT := x_wt (tb 1172 (by decide +kernel)) rfl
theorem se_X7_readAll : Cond.selects RX7 yX7_readAll yX7_readAll ∈ x_WT := x_wt (tbp 40 (by decide +kernel)) rfl
abbrev M_X7_takeFrom : MI := (yX7_takeFrom, cX7_takeFrom, 4, none, 0, 0)
theorem in_X7_takeFrom : Cond.instanceMethod yX7_takeFrom ∈ x_WT := x_wt (tb 1168 (by decide +kernel)) rfl
theorem se_X7_takeFrom : Cond.selects RX7 yX7_takeFrom yX7_takeFrom ∈ x_WT := x_wt (tbp 39 (by decide +kernel)) rfl
abbrev M_X7_fresh : MI := (yX7_fresh, cX7_fresh, 1, (some (.object "WhoOpensOneModel")), 2, 40)
theorem in_X7_fresh : Cond.instanceMethod yX7_fresh ∈ x_WT := x_wt (tb 1162 (by decide +kernel)) rfl
theorem se_X7_fresh : Cond.selects RX7 yX7_fresh yX7_fresh ∈ x_WT := x_wt (tbp 38 (by decide +kernel)) rfl
abbrev M_X7_house : MI := (yX7_house, cX7_house, 3, (some .int), 10, 238)
theorem in_X7_house : Cond.instanceMethod yX7_house ∈ x_WT := x_wt (tb 1157 (by decide +kernel)) rfl
theorem se_X7_house : Cond.selects RX7 yX7_house yX7_house ∈ x_WT := x_wt (tb 1158 (by decide +kernel)) rfl
abbrev M_X7_doorOf : MI := (yX7_doorOf, cX7_doorOf, 3, (some .int), 2, 46)
theorem in_X7_doorOf : Cond.instanceMethod yX7_doorOf ∈ x_WT := x_wt (tb 1220 (by decide +kernel)) rfl
theorem se_X7_doorOf : Cond.selects RX7 yX7_doorOf yX7_doorOf ∈ x_WT := x_wt (tb 1221 (by decide +kernel)) rfl
abbrev M_X7_where : MI := (yX7_where, cX7_where, 2, (some .int), 2, 46)
theorem in_X7_where : Cond.instanceMethod yX7_where ∈ x_WT := x_wt (tb 1224 (by decide +kernel)) rfl
theorem se_X7_where : Cond.selects RX7 yX7_where yX7_where ∈ x_WT := x_wt (tb 1225 (by decide +kernel)) rfl
abbrev M_X7_mayWalk : MI := (yX7_mayWalk, cX7_mayWalk, 3, (some .boolean), 1, 22)
theorem in_X7_mayWalk : Cond.instanceMethod yX7_mayWalk ∈ x_WT := x_wt (tb 1254 (by decide +kernel)) rfl
theorem se_X7_mayWalk : Cond.selects RX7 yX7_mayWalk yX7_mayWalk ∈ x_WT := x_wt (tbp 52 (by decide +kernel)) rfl
abbrev M_X7_canOpen : MI := (yX7_canOpen, cX7_canOpen, 3, (some .boolean), 1, 22)
theorem in_X7_canOpen : Cond.instanceMethod yX7_canOpen ∈ x_WT := x_wt (tb 1242 (by decide +kernel)) rfl
theorem se_X7_canOpen : Cond.selects RX7 yX7_canOpen yX7_canOpen ∈ x_WT := x_wt (tbp 49 (by decide +kernel)) rfl
abbrev M_X7_beyond : MI := (yX7_beyond, cX7_beyond, 3, (some .int), 0, 0)
theorem in_X7_beyond : Cond.instanceMethod yX7_beyond ∈ x_WT := x_wt (tb 1278 (by decide +kernel)) rfl
theorem se_X7_beyond : Cond.selects RX7 yX7_beyond yX7_beyond ∈ x_WT := x_wt (tbp 55 (by decide +kernel)) rfl
abbrev M_X7_weightsOf : MI := (yX7_weightsOf, cX7_weightsOf, 4, (some .int), 1, 22)
theorem in_X7_weightsOf : Cond.instanceMethod yX7_weightsOf ∈ x_WT := x_wt (tb 1250 (by decide +kernel)) rfl
theorem se_X7_weightsOf : Cond.selects RX7 yX7_weightsOf yX7_weightsOf ∈ x_WT := x_wt (tbp 51 (by decide +kernel)) rfl
abbrev M_X7_isEnough : MI := (yX7_isEnough, cX7_isEnough, 4, (some .boolean), 2, 45)
theorem in_X7_isEnough : Cond.instanceMethod yX7_isEnough ∈ x_WT := x_wt (tb 1246 (by decide +kernel)) rfl
theorem se_X7_isEnough : Cond.selects RX7 yX7_isEnough yX7_isEnough ∈ x_WT := x_wt (tbp 50 (by decide +kernel)) rfl
abbrev M_X7_mayOpenBy : MI := (yX7_mayOpenBy, cX7_mayOpenBy, 4, (some .boolean), 3, 68)
theorem in_X7_mayOpenBy : Cond.instanceMethod yX7_mayOpenBy ∈ x_WT := x_wt (tb 1266 (by decide +kernel)) rfl
theorem se_X7_mayOpenBy : Cond.selects RX7 yX7_mayOpenBy yX7_mayOpenBy ∈ x_WT := x_wt (tbp 54 (by decide +kernel)) rfl
abbrev M_X7_doors : MI := (yX7_doors, cX7_doors, 5, (some .int), 3, 68)
theorem in_X7_doors : Cond.instanceMethod yX7_doors ∈ x_WT := x_wt (tb 1228 (by decide +kernel)) rfl
theorem se_X7_doors : Cond.selects RX7 yX7_doors yX7_doors ∈ x_WT := x_wt (tb 1229 (by decide +kernel)) rfl
abbrev M_X7_waysOf : MI := (yX7_waysOf, cX7_waysOf, 7, (some .int), 3, 68)
theorem in_X7_waysOf : Cond.instanceMethod yX7_waysOf ∈ x_WT := x_wt (tb 1238 (by decide +kernel)) rfl
theorem se_X7_waysOf : Cond.selects RX7 yX7_waysOf yX7_waysOf ∈ x_WT := x_wt (tbp 48 (by decide +kernel)) rfl
abbrev M_X7_may : MI := (yX7_may, cX7_may, 4, (some .int), 4, 94)
theorem in_X7_may : Cond.instanceMethod yX7_may ∈ x_WT := x_wt (tb 1233 (by decide +kernel)) rfl
theorem se_X7_may : Cond.selects RX7 yX7_may yX7_may ∈ x_WT := x_wt (tb 1234 (by decide +kernel)) rfl
abbrev M_X7_isSet : MI := (yX7_isSet, cX7_isSet, 2, (some .boolean), 1, 25)
theorem in_X7_isSet : Cond.instanceMethod yX7_isSet ∈ x_WT := x_wt (tb 1262 (by decide +kernel)) rfl
theorem se_X7_isSet : Cond.selects RX7 yX7_isSet yX7_isSet ∈ x_WT := x_wt (tbp 53 (by decide +kernel)) rfl
abbrev M_X7_by : MI := (yX7_by, cX7_by, 4, (some .int), 4, 91)
theorem in_X7_by : Cond.instanceMethod yX7_by ∈ x_WT := x_wt (tb 1257 (by decide +kernel)) rfl
theorem se_X7_by : Cond.selects RX7 yX7_by yX7_by ∈ x_WT := x_wt (tb 1258 (by decide +kernel)) rfl
abbrev M_X7_ways : MI := (yX7_ways, cX7_ways, 5, (some .int), 4, 94)
theorem in_X7_ways : Cond.instanceMethod yX7_ways ∈ x_WT := x_wt (tb 1269 (by decide +kernel)) rfl
theorem se_X7_ways : Cond.selects RX7 yX7_ways yX7_ways ∈ x_WT := x_wt (tb 1270 (by decide +kernel)) rfl
abbrev M_X7_walk : MI := (yX7_walk, cX7_walk, 3, (some .int), 2, 46)
theorem in_X7_walk : Cond.instanceMethod yX7_walk ∈ x_WT := x_wt (tb 1273 (by decide +kernel)) rfl
theorem se_X7_walk : Cond.selects RX7 yX7_walk yX7_walk ∈ x_WT := x_wt (tb 1274 (by decide +kernel)) rfl
abbrev M_X7_stockNow : MI := (yX7_stockNow, cX7_stockNow, 3, (some .int), 1, 22)
theorem in_X7_stockNow : Cond.instanceMethod yX7_stockNow ∈ x_WT := x_wt (tb 1286 (by decide +kernel)) rfl
theorem se_X7_stockNow : Cond.selects RX7 yX7_stockNow yX7_stockNow ∈ x_WT := x_wt (tbp 56 (by decide +kernel)) rfl
abbrev M_X7_shut : MI := (yX7_shut, cX7_shut, 3, (some .int), 2, 46)
theorem in_X7_shut : Cond.instanceMethod yX7_shut ∈ x_WT := x_wt (tb 1281 (by decide +kernel)) rfl
theorem se_X7_shut : Cond.selects RX7 yX7_shut yX7_shut ∈ x_WT := x_wt (tb 1282 (by decide +kernel)) rfl
abbrev M_X7_opens : MI := (yX7_opens, cX7_opens, 3, none, 0, 0)
theorem in_X7_opens : Cond.instanceMethod yX7_opens ∈ x_WT := x_wt (tb 1294 (by decide +kernel)) rfl
theorem se_X7_opens : Cond.selects RX7 yX7_opens yX7_opens ∈ x_WT := x_wt (tbp 57 (by decide +kernel)) rfl
abbrev M_X7_open : MI := (yX7_open, cX7_open, 4, (some .int), 4, 91)
theorem in_X7_open : Cond.instanceMethod yX7_open ∈ x_WT := x_wt (tb 1289 (by decide +kernel)) rfl
theorem se_X7_open : Cond.selects RX7 yX7_open yX7_open ∈ x_WT := x_wt (tb 1290 (by decide +kernel)) rfl
abbrev M_X7_reachOf : MI := (yX7_reachOf, cX7_reachOf, 7, (some .int), 1, 21)
theorem in_X7_reachOf : Cond.instanceMethod yX7_reachOf ∈ x_WT := x_wt (tb 1302 (by decide +kernel)) rfl
theorem se_X7_reachOf : Cond.selects RX7 yX7_reachOf yX7_reachOf ∈ x_WT := x_wt (tbp 58 (by decide +kernel)) rfl
abbrev M_X7_reach : MI := (yX7_reach, cX7_reach, 2, (some .int), 2, 47)
theorem in_X7_reach : Cond.instanceMethod yX7_reach ∈ x_WT := x_wt (tb 1297 (by decide +kernel)) rfl
theorem se_X7_reach : Cond.selects RX7 yX7_reach yX7_reach ∈ x_WT := x_wt (tb 1298 (by decide +kernel)) rfl
abbrev M_X7_shutIn : MI := (yX7_shutIn, cX7_shutIn, 3, (some .int), 2, 47)
theorem in_X7_shutIn : Cond.instanceMethod yX7_shutIn ∈ x_WT := x_wt (tb 1305 (by decide +kernel)) rfl
theorem se_X7_shutIn : Cond.selects RX7 yX7_shutIn yX7_shutIn ∈ x_WT := x_wt (tb 1306 (by decide +kernel)) rfl
abbrev M_X7_stateOf : MI := (yX7_stateOf, cX7_stateOf, 5, (some .int), 0, 0)
theorem in_X7_stateOf : Cond.instanceMethod yX7_stateOf ∈ x_WT := x_wt (tb 1322 (by decide +kernel)) rfl
theorem se_X7_stateOf : Cond.selects RX7 yX7_stateOf yX7_stateOf ∈ x_WT := x_wt (tbp 61 (by decide +kernel)) rfl
abbrev M_X7_comes : MI := (yX7_comes, cX7_comes, 4, (some .boolean), 0, 0)
theorem in_X7_comes : Cond.instanceMethod yX7_comes ∈ x_WT := x_wt (tb 1326 (by decide +kernel)) rfl
theorem se_X7_comes : Cond.selects RX7 yX7_comes yX7_comes ∈ x_WT := x_wt (tbp 62 (by decide +kernel)) rfl
abbrev M_X7_walksOn : MI := (yX7_walksOn, cX7_walksOn, 6, none, 2, 44)
theorem in_X7_walksOn : Cond.instanceMethod yX7_walksOn ∈ x_WT := x_wt (tb 1330 (by decide +kernel)) rfl
theorem se_X7_walksOn : Cond.selects RX7 yX7_walksOn yX7_walksOn ∈ x_WT := x_wt (tbp 63 (by decide +kernel)) rfl
abbrev M_X7_opensOn : MI := (yX7_opensOn, cX7_opensOn, 9, (some .boolean), 3, 68)
theorem in_X7_opensOn : Cond.instanceMethod yX7_opensOn ∈ x_WT := x_wt (tb 1334 (by decide +kernel)) rfl
theorem se_X7_opensOn : Cond.selects RX7 yX7_opensOn yX7_opensOn ∈ x_WT := x_wt (tbp 64 (by decide +kernel)) rfl
abbrev M_X7_findComing : MI := (yX7_findComing, cX7_findComing, 5, none, 4, 96)
theorem in_X7_findComing : Cond.instanceMethod yX7_findComing ∈ x_WT := x_wt (tb 1318 (by decide +kernel)) rfl
theorem se_X7_findComing : Cond.selects RX7 yX7_findComing yX7_findComing ∈ x_WT := x_wt (tbp 60 (by decide +kernel)) rfl
abbrev M_X7_fewest : MI := (yX7_fewest, cX7_fewest, 3, (some .int), 0, 0)
theorem in_X7_fewest : Cond.instanceMethod yX7_fewest ∈ x_WT := x_wt (tb 1338 (by decide +kernel)) rfl
theorem se_X7_fewest : Cond.selects RX7 yX7_fewest yX7_fewest ∈ x_WT := x_wt (tbp 65 (by decide +kernel)) rfl
abbrev M_X7_comingTo : MI := (yX7_comingTo, cX7_comingTo, 3, (some .int), 5, 120)
theorem in_X7_comingTo : Cond.instanceMethod yX7_comingTo ∈ x_WT := x_wt (tb 1314 (by decide +kernel)) rfl
theorem se_X7_comingTo : Cond.selects RX7 yX7_comingTo yX7_comingTo ∈ x_WT := x_wt (tbp 59 (by decide +kernel)) rfl
abbrev M_X7_coming : MI := (yX7_coming, cX7_coming, 3, (some .int), 6, 142)
theorem in_X7_coming : Cond.instanceMethod yX7_coming ∈ x_WT := x_wt (tb 1309 (by decide +kernel)) rfl
theorem se_X7_coming : Cond.selects RX7 yX7_coming yX7_coming ∈ x_WT := x_wt (tb 1310 (by decide +kernel)) rfl
abbrev M_X7_all : MI := (yX7_all, cX7_all, 4, (some .int), 5, 120)
theorem in_X7_all : Cond.instanceMethod yX7_all ∈ x_WT := x_wt (tb 1341 (by decide +kernel)) rfl
theorem se_X7_all : Cond.selects RX7 yX7_all yX7_all ∈ x_WT := x_wt (tb 1342 (by decide +kernel)) rfl
abbrev M_X7_first : MI := (yX7_first, cX7_first, 3, (some .int), 6, 142)
theorem in_X7_first : Cond.instanceMethod yX7_first ∈ x_WT := x_wt (tb 1345 (by decide +kernel)) rfl
theorem se_X7_first : Cond.selects RX7 yX7_first yX7_first ∈ x_WT := x_wt (tb 1346 (by decide +kernel)) rfl
abbrev M_X7_noTold : MI := (yX7_noTold, cX7_noTold, 5, (some .int), 2, 46)
theorem in_X7_noTold : Cond.instanceMethod yX7_noTold ∈ x_WT := x_wt (tb 1354 (by decide +kernel)) rfl
theorem se_X7_noTold : Cond.selects RX7 yX7_noTold yX7_noTold ∈ x_WT := x_wt (tbp 66 (by decide +kernel)) rfl
abbrev M_X7_errands : MI := (yX7_errands, cX7_errands, 6, (some .int), 5, 120)
theorem in_X7_errands : Cond.instanceMethod yX7_errands ∈ x_WT := x_wt (tb 1349 (by decide +kernel)) rfl
theorem se_X7_errands : Cond.selects RX7 yX7_errands yX7_errands ∈ x_WT := x_wt (tb 1350 (by decide +kernel)) rfl
abbrev M_X7_lost : MI := (yX7_lost, cX7_lost, 3, (some .int), 6, 142)
theorem in_X7_lost : Cond.instanceMethod yX7_lost ∈ x_WT := x_wt (tb 1357 (by decide +kernel)) rfl
theorem se_X7_lost : Cond.selects RX7 yX7_lost yX7_lost ∈ x_WT := x_wt (tb 1358 (by decide +kernel)) rfl
abbrev M_X7_stock : MI := (yX7_stock, cX7_stock, 1, (some .int), 2, 44)
theorem in_X7_stock : Cond.instanceMethod yX7_stock ∈ x_WT := x_wt (tb 1361 (by decide +kernel)) rfl
theorem se_X7_stock : Cond.selects RX7 yX7_stock yX7_stock ∈ x_WT := x_wt (tb 1362 (by decide +kernel)) rfl
abbrev M_X7_placeOf : MI := (yX7_placeOf, cX7_placeOf, 5, (some .int), 0, 0)
theorem in_X7_placeOf : Cond.instanceMethod yX7_placeOf ∈ x_WT := x_wt (tb 1378 (by decide +kernel)) rfl
theorem se_X7_placeOf : Cond.selects RX7 yX7_placeOf yX7_placeOf ∈ x_WT := x_wt (tbp 69 (by decide +kernel)) rfl
abbrev M_X7_opensBeside : MI := (yX7_opensBeside, cX7_opensBeside, 9, (some .int), 1, 24)
theorem in_X7_opensBeside : Cond.instanceMethod yX7_opensBeside ∈ x_WT := x_wt (tb 1386 (by decide +kernel)) rfl
theorem se_X7_opensBeside : Cond.selects RX7 yX7_opensBeside yX7_opensBeside ∈ x_WT := x_wt (tbp 71 (by decide +kernel)) rfl
abbrev M_X7_mostOf : MI := (yX7_mostOf, cX7_mostOf, 12, (some .int), 2, 52)
theorem in_X7_mostOf : Cond.instanceMethod yX7_mostOf ∈ x_WT := x_wt (tb 1382 (by decide +kernel)) rfl
theorem se_X7_mostOf : Cond.selects RX7 yX7_mostOf yX7_mostOf ∈ x_WT := x_wt (tbp 70 (by decide +kernel)) rfl
abbrev M_X7_turnsOn : MI := (yX7_turnsOn, cX7_turnsOn, 9, (some .boolean), 3, 83)
theorem in_X7_turnsOn : Cond.instanceMethod yX7_turnsOn ∈ x_WT := x_wt (tb 1374 (by decide +kernel)) rfl
theorem se_X7_turnsOn : Cond.selects RX7 yX7_turnsOn yX7_turnsOn ∈ x_WT := x_wt (tbp 68 (by decide +kernel)) rfl
abbrev M_X7_lastsBy : MI := (yX7_lastsBy, cX7_lastsBy, 8, (some .int), 4, 111)
theorem in_X7_lastsBy : Cond.instanceMethod yX7_lastsBy ∈ x_WT := x_wt (tb 1370 (by decide +kernel)) rfl
theorem se_X7_lastsBy : Cond.selects RX7 yX7_lastsBy yX7_lastsBy ∈ x_WT := x_wt (tbp 67 (by decide +kernel)) rfl
abbrev M_X7_lasts : MI := (yX7_lasts, cX7_lasts, 1, (some .int), 5, 138)
theorem in_X7_lasts : Cond.instanceMethod yX7_lasts ∈ x_WT := x_wt (tb 1365 (by decide +kernel)) rfl
theorem se_X7_lasts : Cond.selects RX7 yX7_lasts yX7_lasts ∈ x_WT := x_wt (tb 1366 (by decide +kernel)) rfl
abbrev M_X7_worthOf : MI := (yX7_worthOf, cX7_worthOf, 4, (some .int), 5, 138)
theorem in_X7_worthOf : Cond.instanceMethod yX7_worthOf ∈ x_WT := x_wt (tb 1395 (by decide +kernel)) rfl
theorem se_X7_worthOf : Cond.selects RX7 yX7_worthOf yX7_worthOf ∈ x_WT := x_wt (tbp 72 (by decide +kernel)) rfl
abbrev M_X7_worth : MI := (yX7_worth, cX7_worth, 2, (some .int), 6, 161)
theorem in_X7_worth : Cond.instanceMethod yX7_worth ∈ x_WT := x_wt (tb 1389 (by decide +kernel)) rfl
theorem se_X7_worth : Cond.selects RX7 yX7_worth yX7_worth ∈ x_WT := x_wt (tb 1390 (by decide +kernel)) rfl
abbrev M_X7_spare : MI := (yX7_spare, cX7_spare, 5, (some .int), 6, 161)
theorem in_X7_spare : Cond.instanceMethod yX7_spare ∈ x_WT := x_wt (tb 1398 (by decide +kernel)) rfl
theorem se_X7_spare : Cond.selects RX7 yX7_spare yX7_spare ∈ x_WT := x_wt (tb 1399 (by decide +kernel)) rfl
abbrev M_X7_endless : MI := (yX7_endless, cX7_endless, 3, (some .int), 5, 138)
theorem in_X7_endless : Cond.instanceMethod yX7_endless ∈ x_WT := x_wt (tb 1402 (by decide +kernel)) rfl
theorem se_X7_endless : Cond.selects RX7 yX7_endless yX7_endless ∈ x_WT := x_wt (tb 1403 (by decide +kernel)) rfl
abbrev M_X7_boxes : MI := (yX7_boxes, cX7_boxes, 3, (some .int), 5, 138)
theorem in_X7_boxes : Cond.instanceMethod yX7_boxes ∈ x_WT := x_wt (tb 1406 (by decide +kernel)) rfl
theorem se_X7_boxes : Cond.selects RX7 yX7_boxes yX7_boxes ∈ x_WT := x_wt (tb 1407 (by decide +kernel)) rfl
abbrev M_X7_does : MI := (yX7_does, cX7_does, 7, (some .boolean), 4, 91)
theorem in_X7_does : Cond.instanceMethod yX7_does ∈ x_WT := x_wt (tb 1420 (by decide +kernel)) rfl
theorem se_X7_does : Cond.selects RX7 yX7_does yX7_does ∈ x_WT := x_wt (tbp 74 (by decide +kernel)) rfl
abbrev M_X7_goThrough : MI := (yX7_goThrough, cX7_goThrough, 5, (some .int), 5, 117)
theorem in_X7_goThrough : Cond.instanceMethod yX7_goThrough ∈ x_WT := x_wt (tb 1416 (by decide +kernel)) rfl
theorem se_X7_goThrough : Cond.selects RX7 yX7_goThrough yX7_goThrough ∈ x_WT := x_wt (tbp 73 (by decide +kernel)) rfl
abbrev M_X7_judge : MI := (yX7_judge, cX7_judge, 4, (some .int), 6, 141)
theorem in_X7_judge : Cond.instanceMethod yX7_judge ∈ x_WT := x_wt (tb 1411 (by decide +kernel)) rfl
theorem se_X7_judge : Cond.selects RX7 yX7_judge yX7_judge ∈ x_WT := x_wt (tb 1412 (by decide +kernel)) rfl
abbrev M_X7_told : MI := (yX7_told, cX7_told, 5, (some .int), 6, 141)
theorem in_X7_told : Cond.instanceMethod yX7_told ∈ x_WT := x_wt (tb 1426 (by decide +kernel)) rfl
theorem se_X7_told : Cond.selects RX7 yX7_told yX7_told ∈ x_WT := x_wt (tb 1427 (by decide +kernel)) rfl
abbrev M_X7_draw : MI := (yX7_draw, cX7_draw, 2, (some .int), 0, 0)
theorem in_X7_draw : Cond.instanceMethod yX7_draw ∈ x_WT := x_wt (tb 1438 (by decide +kernel)) rfl
theorem se_X7_draw : Cond.selects RX7 yX7_draw yX7_draw ∈ x_WT := x_wt (tbp 75 (by decide +kernel)) rfl
abbrev M_X7_evening : MI := (yX7_evening, cX7_evening, 7, (some .int), 4, 94)
theorem in_X7_evening : Cond.instanceMethod yX7_evening ∈ x_WT := x_wt (tb 1432 (by decide +kernel)) rfl
theorem se_X7_evening : Cond.selects RX7 yX7_evening yX7_evening ∈ x_WT := x_wt (tb 1433 (by decide +kernel)) rfl
abbrev M_X7_night : MI := (yX7_night, cX7_night, 3, (some .int), 1, 21)
theorem in_X7_night : Cond.instanceMethod yX7_night ∈ x_WT := x_wt (tb 1442 (by decide +kernel)) rfl
theorem se_X7_night : Cond.selects RX7 yX7_night yX7_night ∈ x_WT := x_wt (tb 1443 (by decide +kernel)) rfl
abbrev M_X7_seed : MI := (yX7_seed, cX7_seed, 3, (some .int), 0, 0)
theorem in_X7_seed : Cond.instanceMethod yX7_seed ∈ x_WT := x_wt (tb 1446 (by decide +kernel)) rfl
theorem se_X7_seed : Cond.selects RX7 yX7_seed yX7_seed ∈ x_WT := x_wt (tb 1447 (by decide +kernel)) rfl
abbrev M_X7_image : MI := (yX7_image, cX7_image, 1, (some .int), 2, 40)
theorem in_X7_image : Cond.instanceMethod yX7_image ∈ x_WT := x_wt (tb 1450 (by decide +kernel)) rfl
theorem se_X7_image : Cond.selects RX7 yX7_image yX7_image ∈ x_WT := x_wt (tb 1451 (by decide +kernel)) rfl
abbrev M_X7_back : MI := (yX7_back, cX7_back, 2, (some .int), 1, 23)
theorem in_X7_back : Cond.instanceMethod yX7_back ∈ x_WT := x_wt (tb 1454 (by decide +kernel)) rfl
theorem se_X7_back : Cond.selects RX7 yX7_back yX7_back ∈ x_WT := x_wt (tb 1455 (by decide +kernel)) rfl
abbrev M_X7_status : MI := (yX7_status, cX7_status, 4, (some .int), 1, 25)
theorem in_X7_status : Cond.instanceMethod yX7_status ∈ x_WT := x_wt (tb 1458 (by decide +kernel)) rfl
theorem se_X7_status : Cond.selects RX7 yX7_status yX7_status ∈ x_WT := x_wt (tb 1459 (by decide +kernel)) rfl
abbrev M_L_law : MI := (yL_law, cL_law, 4, (some .boolean), 13, 476)
