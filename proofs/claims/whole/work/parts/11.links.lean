theorem fp_X0_9 : x_fldP RX0 9 0 0 (.array .int) true := ⟨RX0, TX0, 11, tyX0, cl_X0, by decide, rfl, rfl, rfl, (fun _ => rfl), Or.inl (x_wt (tb 30 (by decide +kernel)) rfl)⟩
theorem fp_X0_15 : x_fldP RX0 15 0 1 (.array .int) true := ⟨RX0, TX0, 11, tyX0, cl_X0, by decide, rfl, rfl, rfl, (fun _ => rfl), Or.inl (x_wt (tb 34 (by decide +kernel)) rfl)⟩
theorem fp_X0_18 : x_fldP RX0 18 0 2 (.array .int) true := ⟨RX0, TX0, 11, tyX0, cl_X0, by decide, rfl, rfl, rfl, (fun _ => rfl), Or.inl (x_wt (tb 37 (by decide +kernel)) rfl)⟩
theorem fp_X0_21 : x_fldP RX0 21 0 3 (.array .int) true := ⟨RX0, TX0, 11, tyX0, cl_X0, by decide, rfl, rfl, rfl, (fun _ => rfl), Or.inl (x_wt (tb 40 (by decide +kernel)) rfl)⟩
theorem fp_X0_24 : x_fldP RX0 24 0 7 .int false := ⟨RX0, TX0, 11, tyX0, cl_X0, by decide, rfl, rfl, rfl, (fun q => by cases q), Or.inl (x_wt (tb 58 (by decide +kernel)) rfl)⟩
theorem fp_X0_28 : x_fldP RX0 28 0 9 .int false := ⟨RX0, TX0, 11, tyX0, cl_X0, by decide, rfl, rfl, rfl, (fun q => by cases q), Or.inl (x_wt (tb 65 (by decide +kernel)) rfl)⟩
theorem fl_X0_31 : x_fld RX0 31 0 4 := ⟨RX0, TX0, 11, rfl, by decide, iw_X0, Or.inl (x_wt (tb 46 (by decide +kernel)) rfl)⟩
theorem fl_X0_9 : x_fld RX0 9 0 0 := ⟨RX0, TX0, 11, rfl, by decide, iw_X0, Or.inl (x_wt (tb 30 (by decide +kernel)) rfl)⟩
theorem fl_X0_15 : x_fld RX0 15 0 1 := ⟨RX0, TX0, 11, rfl, by decide, iw_X0, Or.inl (x_wt (tb 34 (by decide +kernel)) rfl)⟩
theorem fl_X0_18 : x_fld RX0 18 0 2 := ⟨RX0, TX0, 11, rfl, by decide, iw_X0, Or.inl (x_wt (tb 37 (by decide +kernel)) rfl)⟩
theorem fl_X0_34 : x_fld RX0 34 0 6 := ⟨RX0, TX0, 11, rfl, by decide, iw_X0, Or.inl (x_wt (tb 54 (by decide +kernel)) rfl)⟩
theorem fl_X0_21 : x_fld RX0 21 0 3 := ⟨RX0, TX0, 11, rfl, by decide, iw_X0, Or.inl (x_wt (tb 40 (by decide +kernel)) rfl)⟩
theorem fp_X0_31 : x_fldP RX0 31 0 4 .int false := ⟨RX0, TX0, 11, tyX0, cl_X0, by decide, rfl, rfl, rfl, (fun q => by cases q), Or.inl (x_wt (tb 46 (by decide +kernel)) rfl)⟩
theorem fl_X0_37 : x_fld RX0 37 0 5 := ⟨RX0, TX0, 11, rfl, by decide, iw_X0, Or.inl (x_wt (tb 50 (by decide +kernel)) rfl)⟩
theorem fp_X0_37 : x_fldP RX0 37 0 5 .int false := ⟨RX0, TX0, 11, tyX0, cl_X0, by decide, rfl, rfl, rfl, (fun q => by cases q), Or.inl (x_wt (tb 50 (by decide +kernel)) rfl)⟩
theorem fp_X0_34 : x_fldP RX0 34 0 6 .int false := ⟨RX0, TX0, 11, tyX0, cl_X0, by decide, rfl, rfl, rfl, (fun q => by cases q), Or.inl (x_wt (tb 54 (by decide +kernel)) rfl)⟩
theorem fl_X0_24 : x_fld RX0 24 0 7 := ⟨RX0, TX0, 11, rfl, by decide, iw_X0, Or.inl (x_wt (tb 58 (by decide +kernel)) rfl)⟩
theorem fl_X0_40 : x_fld RX0 40 0 8 := ⟨RX0, TX0, 11, rfl, by decide, iw_X0, Or.inl (x_wt (tb 62 (by decide +kernel)) rfl)⟩
theorem fp_X0_40 : x_fldP RX0 40 0 8 .int false := ⟨RX0, TX0, 11, tyX0, cl_X0, by decide, rfl, rfl, rfl, (fun q => by cases q), Or.inl (x_wt (tb 62 (by decide +kernel)) rfl)⟩
theorem fl_X0_28 : x_fld RX0 28 0 9 := ⟨RX0, TX0, 11, rfl, by decide, iw_X0, Or.inl (x_wt (tb 65 (by decide +kernel)) rfl)⟩
theorem fl_X0_43 : x_fld RX0 43 0 10 := ⟨RX0, TX0, 11, rfl, by decide, iw_X0, Or.inl (x_wt (tb 67 (by decide +kernel)) rfl)⟩
theorem fp_X0_43 : x_fldP RX0 43 0 10 .int false := ⟨RX0, TX0, 11, tyX0, cl_X0, by decide, rfl, rfl, rfl, (fun q => by cases q), Or.inl (x_wt (tb 67 (by decide +kernel)) rfl)⟩
theorem lk_X0_49 : x_lnk RX0 49 M_X0_isAt 2 := ⟨Or.inl (x_wt (tb 394 (by decide +kernel)) rfl), x_wt (tb 2 (by decide +kernel)) rfl, x_wt (tb 397 (by decide +kernel)) rfl, by decide +kernel, by decide +kernel, by decide +kernel⟩
theorem lk_X0_53 : x_lnk RX0 53 M_X0_isOpen 1 := ⟨Or.inl (x_wt (tb 386 (by decide +kernel)) rfl), x_wt (tb 2 (by decide +kernel)) rfl, x_wt (tb 389 (by decide +kernel)) rfl, by decide +kernel, by decide +kernel, by decide +kernel⟩
theorem lk_X0_57 : x_lnk RX0 57 M_X0_shutsFrom 2 := ⟨Or.inl (x_wt (tb 390 (by decide +kernel)) rfl), x_wt (tb 2 (by decide +kernel)) rfl, x_wt (tb 393 (by decide +kernel)) rfl, by decide +kernel, by decide +kernel, by decide +kernel⟩
theorem lk_X0_60 : x_lnk RX0 60 M_X0_opensFrom 2 := ⟨Or.inl (x_wt (tb 601 (by decide +kernel)) rfl), x_wt (tb 2 (by decide +kernel)) rfl, x_wt (tb 604 (by decide +kernel)) rfl, by decide +kernel, by decide +kernel, by decide +kernel⟩
theorem lk_X0_63 : x_lnk RX0 63 M_X0_weightOf 1 := ⟨Or.inl (x_wt (tb 610 (by decide +kernel)) rfl), x_wt (tb 2 (by decide +kernel)) rfl, x_wt (tb 405 (by decide +kernel)) rfl, by decide +kernel, by decide +kernel, by decide +kernel⟩
theorem lk_X0_67 : x_lnk RX0 67 M_X0_weigh 1 := ⟨Or.inl (x_wt (tb 606 (by decide +kernel)) rfl), x_wt (tb 2 (by decide +kernel)) rfl, x_wt (tb 609 (by decide +kernel)) rfl, by decide +kernel, by decide +kernel, by decide +kernel⟩
theorem lk_X0_70 : x_lnk RX0 70 M_X0_standsBeforeShut 2 := ⟨Or.inl (x_wt (tb 597 (by decide +kernel)) rfl), x_wt (tb 2 (by decide +kernel)) rfl, x_wt (tb 600 (by decide +kernel)) rfl, by decide +kernel, by decide +kernel, by decide +kernel⟩
theorem lk_X0_73 : x_lnk RX0 73 M_X0_shuttable 0 := ⟨Or.inl (x_wt (tb 605 (by decide +kernel)) rfl), x_wt (tb 2 (by decide +kernel)) rfl, x_wt (tb 385 (by decide +kernel)) rfl, by decide +kernel, by decide +kernel, by decide +kernel⟩
theorem lk_X0_77 : x_lnk RX0 77 M_X0_isEnoughAndNoneInVain 1 := ⟨Or.inl (x_wt (tb 623 (by decide +kernel)) rfl), x_wt (tb 2 (by decide +kernel)) rfl, x_wt (tb 626 (by decide +kernel)) rfl, by decide +kernel, by decide +kernel, by decide +kernel⟩
theorem lk_X0_80 : x_lnk RX0 80 M_X6_singlesBeside 2 := ⟨Or.inr ⟨"WhoOpensOne", tbn 635 (by decide +kernel) rfl⟩, x_wt (tb 1 (by decide +kernel)) rfl, x_wt (tb 637 (by decide +kernel)) rfl, by decide +kernel, by decide +kernel, by decide +kernel⟩
theorem lk_X0_84 : x_lnk RX0 84 M_X0_choose 2 := ⟨Or.inl (x_wt (tb 641 (by decide +kernel)) rfl), x_wt (tb 2 (by decide +kernel)) rfl, x_wt (tb 643 (by decide +kernel)) rfl, by decide +kernel, by decide +kernel, by decide +kernel⟩
theorem lk_X0_87 : x_lnk RX0 87 M_X0_reachFrom 1 := ⟨Or.inl (x_wt (tb 684 (by decide +kernel)) rfl), x_wt (tb 2 (by decide +kernel)) rfl, x_wt (tb 675 (by decide +kernel)) rfl, by decide +kernel, by decide +kernel, by decide +kernel⟩
theorem lk_X0_96 : x_lnk RX0 96 M_X0_hasOne 1 := ⟨Or.inl (x_wt (tb 861 (by decide +kernel)) rfl), x_wt (tb 2 (by decide +kernel)) rfl, x_wt (tb 442 (by decide +kernel)) rfl, by decide +kernel, by decide +kernel, by decide +kernel⟩
theorem lk_X0_99 : x_lnk RX0 99 M_X0_hasDoor 1 := ⟨Or.inl (x_wt (tb 862 (by decide +kernel)) rfl), x_wt (tb 2 (by decide +kernel)) rfl, x_wt (tb 351 (by decide +kernel)) rfl, by decide +kernel, by decide +kernel, by decide +kernel⟩
theorem lk_X0_102 : x_lnk RX0 102 M_X0_mayWalk 2 := ⟨Or.inl (x_wt (tb 863 (by decide +kernel)) rfl), x_wt (tb 2 (by decide +kernel)) rfl, x_wt (tb 588 (by decide +kernel)) rfl, by decide +kernel, by decide +kernel, by decide +kernel⟩
theorem lk_X0_105 : x_lnk RX0 105 M_X0_goThrough 2 := ⟨Or.inl (x_wt (tb 864 (by decide +kernel)) rfl), x_wt (tb 2 (by decide +kernel)) rfl, x_wt (tb 651 (by decide +kernel)) rfl, by decide +kernel, by decide +kernel, by decide +kernel⟩
theorem lk_X0_109 : x_lnk RX0 109 M_X0_hasDoors 1 := ⟨Or.inl (x_wt (tb 865 (by decide +kernel)) rfl), x_wt (tb 2 (by decide +kernel)) rfl, x_wt (tb 618 (by decide +kernel)) rfl, by decide +kernel, by decide +kernel, by decide +kernel⟩
theorem lk_X0_112 : x_lnk RX0 112 M_X0_opensBy 3 := ⟨Or.inl (x_wt (tb 866 (by decide +kernel)) rfl), x_wt (tb 2 (by decide +kernel)) rfl, x_wt (tb 622 (by decide +kernel)) rfl, by decide +kernel, by decide +kernel, by decide +kernel⟩
theorem lk_X0_116 : x_lnk RX0 116 M_X0_openFor 2 := ⟨Or.inl (x_wt (tb 867 (by decide +kernel)) rfl), x_wt (tb 2 (by decide +kernel)) rfl, x_wt (tb 667 (by decide +kernel)) rfl, by decide +kernel, by decide +kernel, by decide +kernel⟩
theorem lk_X0_119 : x_lnk RX0 119 M_X0_mayShut 2 := ⟨Or.inl (x_wt (tb 868 (by decide +kernel)) rfl), x_wt (tb 2 (by decide +kernel)) rfl, x_wt (tb 592 (by decide +kernel)) rfl, by decide +kernel, by decide +kernel, by decide +kernel⟩
theorem lk_X0_123 : x_lnk RX0 123 M_X0_draw 1 := ⟨Or.inl (x_wt (tb 881 (by decide +kernel)) rfl), x_wt (tb 2 (by decide +kernel)) rfl, x_wt (tb 884 (by decide +kernel)) rfl, by decide +kernel, by decide +kernel, by decide +kernel⟩
theorem lk_X0_126 : x_lnk RX0 126 M_X0_leastSet 2 := ⟨Or.inl (x_wt (tb 886 (by decide +kernel)) rfl), x_wt (tb 2 (by decide +kernel)) rfl, x_wt (tb 596 (by decide +kernel)) rfl, by decide +kernel, by decide +kernel, by decide +kernel⟩
theorem fp_X1_11 : x_fldP RX1 11 1 0 (.array .int) true := ⟨RX1, TX1, 7, tyX1, cl_X1, by decide, rfl, rfl, rfl, (fun _ => rfl), Or.inl (x_wt (tb 214 (by decide +kernel)) rfl)⟩
theorem fp_X1_33 : x_fldP RX1 33 1 2 .int false := ⟨RX1, TX1, 7, tyX1, cl_X1, by decide, rfl, rfl, rfl, (fun q => by cases q), Or.inl (x_wt (tb 216 (by decide +kernel)) rfl)⟩
theorem fp_X1_23 : x_fldP RX1 23 1 5 .int false := ⟨RX1, TX1, 7, tyX1, cl_X1, by decide, rfl, rfl, rfl, (fun q => by cases q), Or.inl (x_wt (tb 219 (by decide +kernel)) rfl)⟩
theorem fp_X1_39 : x_fldP RX1 39 1 3 .int false := ⟨RX1, TX1, 7, tyX1, cl_X1, by decide, rfl, rfl, rfl, (fun q => by cases q), Or.inl (x_wt (tb 217 (by decide +kernel)) rfl)⟩
theorem fp_X1_26 : x_fldP RX1 26 1 6 .int false := ⟨RX1, TX1, 7, tyX1, cl_X1, by decide, rfl, rfl, rfl, (fun q => by cases q), Or.inl (x_wt (tb 220 (by decide +kernel)) rfl)⟩
theorem fp_X1_36 : x_fldP RX1 36 1 4 .int false := ⟨RX1, TX1, 7, tyX1, cl_X1, by decide, rfl, rfl, rfl, (fun q => by cases q), Or.inl (x_wt (tb 218 (by decide +kernel)) rfl)⟩
theorem fl_X1_50 : x_fld RX1 50 0 4 := ⟨RX0, TX0, 11, rfl, by decide, iw_X0, Or.inr ⟨"WhoOpensOne", tbn 47 (by decide +kernel) rfl⟩⟩
theorem fl_X1_55 : x_fld RX1 55 0 0 := ⟨RX0, TX0, 11, rfl, by decide, iw_X0, Or.inr ⟨"WhoOpensOne", tbn 32 (by decide +kernel) rfl⟩⟩
theorem fl_X1_36 : x_fld RX1 36 1 4 := ⟨RX1, TX1, 7, rfl, by decide, iw_X1, Or.inl (x_wt (tb 218 (by decide +kernel)) rfl)⟩
theorem fl_X1_39 : x_fld RX1 39 1 3 := ⟨RX1, TX1, 7, rfl, by decide, iw_X1, Or.inl (x_wt (tb 217 (by decide +kernel)) rfl)⟩
theorem fl_X1_26 : x_fld RX1 26 1 6 := ⟨RX1, TX1, 7, rfl, by decide, iw_X1, Or.inl (x_wt (tb 220 (by decide +kernel)) rfl)⟩
theorem fl_X1_33 : x_fld RX1 33 1 2 := ⟨RX1, TX1, 7, rfl, by decide, iw_X1, Or.inl (x_wt (tb 216 (by decide +kernel)) rfl)⟩
theorem fl_X1_23 : x_fld RX1 23 1 5 := ⟨RX1, TX1, 7, rfl, by decide, iw_X1, Or.inl (x_wt (tb 219 (by decide +kernel)) rfl)⟩
theorem fl_X1_15 : x_fld RX1 15 1 1 := ⟨RX1, TX1, 7, rfl, by decide, iw_X1, Or.inl (x_wt (tb 215 (by decide +kernel)) rfl)⟩
theorem lk_X1_58 : x_lnk RX1 58 M_X1_placeOf 3 := ⟨Or.inl (x_wt (tb 814 (by decide +kernel)) rfl), x_wt (tb 6 (by decide +kernel)) rfl, x_wt (tb 817 (by decide +kernel)) rfl, by decide +kernel, by decide +kernel, by decide +kernel⟩
theorem fl_X1_11 : x_fld RX1 11 1 0 := ⟨RX1, TX1, 7, rfl, by decide, iw_X1, Or.inl (x_wt (tb 214 (by decide +kernel)) rfl)⟩
theorem lk_X1_64 : x_lnk RX1 64 M_X6_singlesBeside 2 := ⟨Or.inr ⟨"WhoOpensOne", tbn 822 (by decide +kernel) rfl⟩, x_wt (tb 1 (by decide +kernel)) rfl, x_wt (tb 637 (by decide +kernel)) rfl, by decide +kernel, by decide +kernel, by decide +kernel⟩
theorem lk_X1_46 : x_lnk RX1 46 M_X1_noted 3 := ⟨Or.inl (x_wt (tb 823 (by decide +kernel)) rfl), x_wt (tb 6 (by decide +kernel)) rfl, x_wt (tb 826 (by decide +kernel)) rfl, by decide +kernel, by decide +kernel, by decide +kernel⟩
theorem lk_X1_29 : x_lnk RX1 29 M_X1_changesForever 2 := ⟨Or.inl (x_wt (tb 806 (by decide +kernel)) rfl), x_wt (tb 6 (by decide +kernel)) rfl, x_wt (tb 809 (by decide +kernel)) rfl, by decide +kernel, by decide +kernel, by decide +kernel⟩
theorem lk_X1_61 : x_lnk RX1 61 M_X1_mostFrom 3 := ⟨Or.inl (x_wt (tb 818 (by decide +kernel)) rfl), x_wt (tb 6 (by decide +kernel)) rfl, x_wt (tb 821 (by decide +kernel)) rfl, by decide +kernel, by decide +kernel, by decide +kernel⟩
theorem fp_X1_15 : x_fldP RX1 15 1 1 .int false := ⟨RX1, TX1, 7, tyX1, cl_X1, by decide, rfl, rfl, rfl, (fun q => by cases q), Or.inl (x_wt (tb 215 (by decide +kernel)) rfl)⟩
theorem lk_X1_19 : x_lnk RX1 19 M_X1_countDoors 3 := ⟨Or.inl (x_wt (tb 802 (by decide +kernel)) rfl), x_wt (tb 6 (by decide +kernel)) rfl, x_wt (tb 805 (by decide +kernel)) rfl, by decide +kernel, by decide +kernel, by decide +kernel⟩
theorem lk_X1_42 : x_lnk RX1 42 M_X1_note 3 := ⟨Or.inl (x_wt (tb 810 (by decide +kernel)) rfl), x_wt (tb 6 (by decide +kernel)) rfl, x_wt (tb 813 (by decide +kernel)) rfl, by decide +kernel, by decide +kernel, by decide +kernel⟩
theorem fp_X2_9 : x_fldP RX2 9 2 0 (.array .int) true := ⟨RX2, TX2, 12, tyX2, cl_X2, by decide, rfl, rfl, rfl, (fun _ => rfl), Or.inl (x_wt (tb 130 (by decide +kernel)) rfl)⟩
theorem fp_X2_15 : x_fldP RX2 15 2 1 (.array .int) true := ⟨RX2, TX2, 12, tyX2, cl_X2, by decide, rfl, rfl, rfl, (fun _ => rfl), Or.inl (x_wt (tb 131 (by decide +kernel)) rfl)⟩
theorem fp_X2_18 : x_fldP RX2 18 2 2 (.array .int) true := ⟨RX2, TX2, 12, tyX2, cl_X2, by decide, rfl, rfl, rfl, (fun _ => rfl), Or.inl (x_wt (tb 133 (by decide +kernel)) rfl)⟩
theorem fp_X2_21 : x_fldP RX2 21 2 3 (.array .int) true := ⟨RX2, TX2, 12, tyX2, cl_X2, by decide, rfl, rfl, rfl, (fun _ => rfl), Or.inl (x_wt (tb 135 (by decide +kernel)) rfl)⟩
theorem fp_X2_24 : x_fldP RX2 24 2 4 (.array .int) false := ⟨RX2, TX2, 12, tyX2, cl_X2, by decide, rfl, rfl, rfl, (fun q => by cases q), Or.inl (x_wt (tb 137 (by decide +kernel)) rfl)⟩
theorem fp_X2_69 : x_fldP RX2 69 2 8 .int false := ⟨RX2, TX2, 12, tyX2, cl_X2, by decide, rfl, rfl, rfl, (fun q => by cases q), Or.inl (x_wt (tb 144 (by decide +kernel)) rfl)⟩
theorem fp_X2_72 : x_fldP RX2 72 2 9 .int false := ⟨RX2, TX2, 12, tyX2, cl_X2, by decide, rfl, rfl, rfl, (fun q => by cases q), Or.inl (x_wt (tb 145 (by decide +kernel)) rfl)⟩
theorem fl_X2_39 : x_fld RX2 39 2 6 := ⟨RX2, TX2, 12, rfl, by decide, iw_X2, Or.inl (x_wt (tb 140 (by decide +kernel)) rfl)⟩
theorem fl_X2_9 : x_fld RX2 9 2 0 := ⟨RX2, TX2, 12, rfl, by decide, iw_X2, Or.inl (x_wt (tb 130 (by decide +kernel)) rfl)⟩
theorem fl_X2_75 : x_fld RX2 75 0 1 := ⟨RX0, TX0, 11, rfl, by decide, iw_X0, Or.inr ⟨"WhoOpensOne", tbn 35 (by decide +kernel) rfl⟩⟩
theorem fl_X2_78 : x_fld RX2 78 0 2 := ⟨RX0, TX0, 11, rfl, by decide, iw_X0, Or.inr ⟨"WhoOpensOne", tbn 38 (by decide +kernel) rfl⟩⟩
theorem fl_X2_81 : x_fld RX2 81 0 0 := ⟨RX0, TX0, 11, rfl, by decide, iw_X0, Or.inr ⟨"WhoOpensOne", tbn 31 (by decide +kernel) rfl⟩⟩
theorem fl_X2_72 : x_fld RX2 72 2 9 := ⟨RX2, TX2, 12, rfl, by decide, iw_X2, Or.inl (x_wt (tb 145 (by decide +kernel)) rfl)⟩
theorem lk_X2_84 : x_lnk RX2 84 M_X0_weightOf 1 := ⟨Or.inl (x_wt (tb 716 (by decide +kernel)) rfl), x_wt (tb 2 (by decide +kernel)) rfl, x_wt (tb 405 (by decide +kernel)) rfl, by decide +kernel, by decide +kernel, by decide +kernel⟩
theorem fl_X2_69 : x_fld RX2 69 2 8 := ⟨RX2, TX2, 12, rfl, by decide, iw_X2, Or.inl (x_wt (tb 144 (by decide +kernel)) rfl)⟩
theorem lk_X2_88 : x_lnk RX2 88 M_X0_shutsFrom 2 := ⟨Or.inl (x_wt (tb 721 (by decide +kernel)) rfl), x_wt (tb 2 (by decide +kernel)) rfl, x_wt (tb 393 (by decide +kernel)) rfl, by decide +kernel, by decide +kernel, by decide +kernel⟩
theorem lk_X2_92 : x_lnk RX2 92 M_X0_opensFrom 2 := ⟨Or.inl (x_wt (tb 722 (by decide +kernel)) rfl), x_wt (tb 2 (by decide +kernel)) rfl, x_wt (tb 604 (by decide +kernel)) rfl, by decide +kernel, by decide +kernel, by decide +kernel⟩
theorem fl_X2_15 : x_fld RX2 15 2 1 := ⟨RX2, TX2, 12, rfl, by decide, iw_X2, Or.inl (x_wt (tb 131 (by decide +kernel)) rfl)⟩
theorem fl_X2_18 : x_fld RX2 18 2 2 := ⟨RX2, TX2, 12, rfl, by decide, iw_X2, Or.inl (x_wt (tb 133 (by decide +kernel)) rfl)⟩
theorem lk_X2_101 : x_lnk RX2 101 M_J6_bitCount_0f7a4 1 := ⟨Or.inl (x_wt (tb 731 (by decide +kernel)) rfl), x_wt (tb 15 (by decide +kernel)) rfl, x_wt (tb 733 (by decide +kernel)) rfl, by decide +kernel, by decide +kernel, by decide +kernel⟩
theorem fp_X2_95 : x_fldP RX2 95 2 5 .int false := ⟨RX2, TX2, 12, tyX2, cl_X2, by decide, rfl, rfl, rfl, (fun q => by cases q), Or.inl (x_wt (tb 138 (by decide +kernel)) rfl)⟩
theorem lk_X2_98 : x_lnk RX2 98 M_X2_weigh 1 := ⟨Or.inl (x_wt (tb 727 (by decide +kernel)) rfl), x_wt (tb 5 (by decide +kernel)) rfl, x_wt (tb 730 (by decide +kernel)) rfl, by decide +kernel, by decide +kernel, by decide +kernel⟩
theorem fl_X2_45 : x_fld RX2 45 2 7 := ⟨RX2, TX2, 12, rfl, by decide, iw_X2, Or.inl (x_wt (tb 142 (by decide +kernel)) rfl)⟩
theorem fl_X2_95 : x_fld RX2 95 2 5 := ⟨RX2, TX2, 12, rfl, by decide, iw_X2, Or.inl (x_wt (tb 138 (by decide +kernel)) rfl)⟩
theorem fl_X2_21 : x_fld RX2 21 2 3 := ⟨RX2, TX2, 12, rfl, by decide, iw_X2, Or.inl (x_wt (tb 135 (by decide +kernel)) rfl)⟩
theorem fl_X2_27 : x_fld RX2 27 0 4 := ⟨RX0, TX0, 11, rfl, by decide, iw_X0, Or.inr ⟨"WhoOpensOne", tbn 45 (by decide +kernel) rfl⟩⟩
theorem fp_X2_39 : x_fldP RX2 39 2 6 .int false := ⟨RX2, TX2, 12, tyX2, cl_X2, by decide, rfl, rfl, rfl, (fun q => by cases q), Or.inl (x_wt (tb 140 (by decide +kernel)) rfl)⟩
theorem fl_X2_42 : x_fld RX2 42 0 7 := ⟨RX0, TX0, 11, rfl, by decide, iw_X0, Or.inr ⟨"WhoOpensOne", tbn 59 (by decide +kernel) rfl⟩⟩
theorem fp_X2_45 : x_fldP RX2 45 2 7 .int false := ⟨RX2, TX2, 12, tyX2, cl_X2, by decide, rfl, rfl, rfl, (fun q => by cases q), Or.inl (x_wt (tb 142 (by decide +kernel)) rfl)⟩
theorem fl_X2_46 : x_fld RX2 46 2 11 := ⟨RX2, TX2, 12, rfl, by decide, iw_X2, Or.inl (x_wt (tb 148 (by decide +kernel)) rfl)⟩
theorem fp_X2_46 : x_fldP RX2 46 2 11 .int false := ⟨RX2, TX2, 12, tyX2, cl_X2, by decide, rfl, rfl, rfl, (fun q => by cases q), Or.inl (x_wt (tb 148 (by decide +kernel)) rfl)⟩
theorem fl_X2_24 : x_fld RX2 24 2 4 := ⟨RX2, TX2, 12, rfl, by decide, iw_X2, Or.inl (x_wt (tb 137 (by decide +kernel)) rfl)⟩
theorem lk_X2_49 : x_lnk RX2 49 M_X2_sortDoors 1 := ⟨Or.inl (x_wt (tb 712 (by decide +kernel)) rfl), x_wt (tb 5 (by decide +kernel)) rfl, x_wt (tb 715 (by decide +kernel)) rfl, by decide +kernel, by decide +kernel, by decide +kernel⟩
theorem lk_X2_53 : x_lnk RX2 53 M_X2_lookFrom 2 := ⟨Or.inl (x_wt (tb 717 (by decide +kernel)) rfl), x_wt (tb 5 (by decide +kernel)) rfl, x_wt (tb 720 (by decide +kernel)) rfl, by decide +kernel, by decide +kernel, by decide +kernel⟩
theorem fp_X2_57 : x_fldP RX2 57 2 10 .int false := ⟨RX2, TX2, 12, tyX2, cl_X2, by decide, rfl, rfl, rfl, (fun q => by cases q), Or.inl (x_wt (tb 146 (by decide +kernel)) rfl)⟩
theorem fl_X2_60 : x_fld RX2 60 0 6 := ⟨RX0, TX0, 11, rfl, by decide, iw_X0, Or.inr ⟨"WhoOpensOne", tbn 55 (by decide +kernel) rfl⟩⟩
theorem fl_X2_57 : x_fld RX2 57 2 10 := ⟨RX2, TX2, 12, rfl, by decide, iw_X2, Or.inl (x_wt (tb 146 (by decide +kernel)) rfl)⟩
theorem fl_X2_63 : x_fld RX2 63 0 3 := ⟨RX0, TX0, 11, rfl, by decide, iw_X0, Or.inr ⟨"WhoOpensOne", tbn 41 (by decide +kernel) rfl⟩⟩
theorem lk_X2_66 : x_lnk RX2 66 M_X2_listSets 0 := ⟨Or.inl (x_wt (tb 723 (by decide +kernel)) rfl), x_wt (tb 5 (by decide +kernel)) rfl, x_wt (tb 726 (by decide +kernel)) rfl, by decide +kernel, by decide +kernel, by decide +kernel⟩
theorem fp_X3_11 : x_fldP RX3 11 3 0 (.array .int) true := ⟨RX3, TX3, 11, tyX3, cl_X3, by decide, rfl, rfl, rfl, (fun _ => rfl), Or.inl (x_wt (tb 174 (by decide +kernel)) rfl)⟩
theorem lk_X3_17 : x_lnk RX3 17 M_X2_init 0 := ⟨Or.inr ⟨"WhoOpensOne", tbn 126 (by decide +kernel) rfl⟩, x_wt (tb 5 (by decide +kernel)) rfl, x_wt (tb 128 (by decide +kernel)) rfl, by decide +kernel, by decide +kernel, by decide +kernel⟩
theorem fp_X3_18 : x_fldP RX3 18 3 2 (.object "WhoOpensOne$Plan") true := ⟨RX3, TX3, 11, tyX3, cl_X3, by decide, rfl, rfl, rfl, (fun _ => rfl), Or.inl (x_wt (tb 176 (by decide +kernel)) rfl)⟩
theorem fp_X3_22 : x_fldP RX3 22 3 3 (.array .int) false := ⟨RX3, TX3, 11, tyX3, cl_X3, by decide, rfl, rfl, rfl, (fun q => by cases q), Or.inl (x_wt (tb 177 (by decide +kernel)) rfl)⟩
theorem fp_X3_25 : x_fldP RX3 25 3 4 (.array .int) false := ⟨RX3, TX3, 11, tyX3, cl_X3, by decide, rfl, rfl, rfl, (fun q => by cases q), Or.inl (x_wt (tb 178 (by decide +kernel)) rfl)⟩
theorem fp_X3_28 : x_fldP RX3 28 3 5 .int false := ⟨RX3, TX3, 11, tyX3, cl_X3, by decide, rfl, rfl, rfl, (fun q => by cases q), Or.inl (x_wt (tb 179 (by decide +kernel)) rfl)⟩
theorem fp_X3_32 : x_fldP RX3 32 3 1 .int false := ⟨RX3, TX3, 11, tyX3, cl_X3, by decide, rfl, rfl, rfl, (fun q => by cases q), Or.inl (x_wt (tb 175 (by decide +kernel)) rfl)⟩
theorem fl_X3_32 : x_fld RX3 32 3 1 := ⟨RX3, TX3, 11, rfl, by decide, iw_X3, Or.inl (x_wt (tb 175 (by decide +kernel)) rfl)⟩
theorem fl_X3_11 : x_fld RX3 11 3 0 := ⟨RX3, TX3, 11, rfl, by decide, iw_X3, Or.inl (x_wt (tb 174 (by decide +kernel)) rfl)⟩
theorem fl_X3_18 : x_fld RX3 18 3 2 := ⟨RX3, TX3, 11, rfl, by decide, iw_X3, Or.inl (x_wt (tb 176 (by decide +kernel)) rfl)⟩
theorem fl_X3_47 : x_fld RX3 47 2 6 := ⟨RX2, TX2, 12, rfl, by decide, iw_X2, Or.inr ⟨"WhoOpensOne", tbn 141 (by decide +kernel) rfl⟩⟩
theorem fl_X3_22 : x_fld RX3 22 3 3 := ⟨RX3, TX3, 11, rfl, by decide, iw_X3, Or.inl (x_wt (tb 177 (by decide +kernel)) rfl)⟩
theorem fp_X3_85 : x_fldP RX3 85 3 6 .int false := ⟨RX3, TX3, 11, tyX3, cl_X3, by decide, rfl, rfl, rfl, (fun q => by cases q), Or.inl (x_wt (tb 180 (by decide +kernel)) rfl)⟩
theorem fp_X3_88 : x_fldP RX3 88 3 7 .int false := ⟨RX3, TX3, 11, tyX3, cl_X3, by decide, rfl, rfl, rfl, (fun q => by cases q), Or.inl (x_wt (tb 181 (by decide +kernel)) rfl)⟩
theorem fp_X3_91 : x_fldP RX3 91 3 8 .boolean false := ⟨RX3, TX3, 11, tyX3, cl_X3, by decide, rfl, rfl, rfl, (fun q => by cases q), Or.inl (x_wt (tb 182 (by decide +kernel)) rfl)⟩
theorem fp_X3_71 : x_fldP RX3 71 3 9 .int false := ⟨RX3, TX3, 11, tyX3, cl_X3, by decide, rfl, rfl, rfl, (fun q => by cases q), Or.inl (x_wt (tb 183 (by decide +kernel)) rfl)⟩
theorem fp_X3_68 : x_fldP RX3 68 3 10 .int false := ⟨RX3, TX3, 11, tyX3, cl_X3, by decide, rfl, rfl, rfl, (fun q => by cases q), Or.inl (x_wt (tb 184 (by decide +kernel)) rfl)⟩
theorem lk_X3_50 : x_lnk RX3 50 M_X2_partOf 2 := ⟨Or.inl (x_wt (tb 742 (by decide +kernel)) rfl), x_wt (tb 5 (by decide +kernel)) rfl, x_wt (tb 745 (by decide +kernel)) rfl, by decide +kernel, by decide +kernel, by decide +kernel⟩
theorem fl_X3_68 : x_fld RX3 68 3 10 := ⟨RX3, TX3, 11, rfl, by decide, iw_X3, Or.inl (x_wt (tb 184 (by decide +kernel)) rfl)⟩
theorem fl_X3_71 : x_fld RX3 71 3 9 := ⟨RX3, TX3, 11, rfl, by decide, iw_X3, Or.inl (x_wt (tb 183 (by decide +kernel)) rfl)⟩
theorem lk_X3_74 : x_lnk RX3 74 M_J6_numberOfTrailingZeros_0f7a4 1 := ⟨Or.inl (x_wt (tb 754 (by decide +kernel)) rfl), x_wt (tb 15 (by decide +kernel)) rfl, x_wt (tb 756 (by decide +kernel)) rfl, by decide +kernel, by decide +kernel, by decide +kernel⟩
theorem fl_X3_28 : x_fld RX3 28 3 5 := ⟨RX3, TX3, 11, rfl, by decide, iw_X3, Or.inl (x_wt (tb 179 (by decide +kernel)) rfl)⟩
theorem fl_X3_85 : x_fld RX3 85 3 6 := ⟨RX3, TX3, 11, rfl, by decide, iw_X3, Or.inl (x_wt (tb 180 (by decide +kernel)) rfl)⟩
theorem fl_X3_25 : x_fld RX3 25 3 4 := ⟨RX3, TX3, 11, rfl, by decide, iw_X3, Or.inl (x_wt (tb 178 (by decide +kernel)) rfl)⟩
theorem fl_X3_88 : x_fld RX3 88 3 7 := ⟨RX3, TX3, 11, rfl, by decide, iw_X3, Or.inl (x_wt (tb 181 (by decide +kernel)) rfl)⟩
theorem fl_X3_103 : x_fld RX3 103 2 2 := ⟨RX2, TX2, 12, rfl, by decide, iw_X2, Or.inr ⟨"WhoOpensOne", tbn 134 (by decide +kernel) rfl⟩⟩
theorem fl_X3_106 : x_fld RX3 106 2 1 := ⟨RX2, TX2, 12, rfl, by decide, iw_X2, Or.inr ⟨"WhoOpensOne", tbn 132 (by decide +kernel) rfl⟩⟩
theorem fl_X3_109 : x_fld RX3 109 2 10 := ⟨RX2, TX2, 12, rfl, by decide, iw_X2, Or.inr ⟨"WhoOpensOne", tbn 147 (by decide +kernel) rfl⟩⟩
theorem lk_X3_112 : x_lnk RX3 112 M_X2_weigh 1 := ⟨Or.inl (x_wt (tb 762 (by decide +kernel)) rfl), x_wt (tb 5 (by decide +kernel)) rfl, x_wt (tb 730 (by decide +kernel)) rfl, by decide +kernel, by decide +kernel, by decide +kernel⟩
theorem fl_X3_115 : x_fld RX3 115 2 7 := ⟨RX2, TX2, 12, rfl, by decide, iw_X2, Or.inr ⟨"WhoOpensOne", tbn 143 (by decide +kernel) rfl⟩⟩
theorem fl_X3_118 : x_fld RX3 118 2 5 := ⟨RX2, TX2, 12, rfl, by decide, iw_X2, Or.inr ⟨"WhoOpensOne", tbn 139 (by decide +kernel) rfl⟩⟩
theorem fl_X3_121 : x_fld RX3 121 2 3 := ⟨RX2, TX2, 12, rfl, by decide, iw_X2, Or.inr ⟨"WhoOpensOne", tbn 136 (by decide +kernel) rfl⟩⟩
theorem lk_X3_95 : x_lnk RX3 95 M_X3_arrive 4 := ⟨Or.inl (x_wt (tb 750 (by decide +kernel)) rfl), x_wt (tb 4 (by decide +kernel)) rfl, x_wt (tb 753 (by decide +kernel)) rfl, by decide +kernel, by decide +kernel, by decide +kernel⟩
theorem fl_X3_91 : x_fld RX3 91 3 8 := ⟨RX3, TX3, 11, rfl, by decide, iw_X3, Or.inl (x_wt (tb 182 (by decide +kernel)) rfl)⟩
theorem lk_X3_99 : x_lnk RX3 99 M_X3_leaveFrom 3 := ⟨Or.inl (x_wt (tb 758 (by decide +kernel)) rfl), x_wt (tb 4 (by decide +kernel)) rfl, x_wt (tb 761 (by decide +kernel)) rfl, by decide +kernel, by decide +kernel, by decide +kernel⟩
theorem lk_X3_35 : x_lnk RX3 35 M_X2_lay 2 := ⟨Or.inl (x_wt (tb 705 (by decide +kernel)) rfl), x_wt (tb 5 (by decide +kernel)) rfl, x_wt (tb 708 (by decide +kernel)) rfl, by decide +kernel, by decide +kernel, by decide +kernel⟩
theorem lk_X3_39 : x_lnk RX3 39 M_X3_begin 0 := ⟨Or.inl (x_wt (tb 737 (by decide +kernel)) rfl), x_wt (tb 4 (by decide +kernel)) rfl, x_wt (tb 740 (by decide +kernel)) rfl, by decide +kernel, by decide +kernel, by decide +kernel⟩
theorem fl_X3_42 : x_fld RX3 42 0 3 := ⟨RX0, TX0, 11, rfl, by decide, iw_X0, Or.inr ⟨"WhoOpensOne", tbn 42 (by decide +kernel) rfl⟩⟩
theorem fl_X3_54 : x_fld RX3 54 0 5 := ⟨RX0, TX0, 11, rfl, by decide, iw_X0, Or.inr ⟨"WhoOpensOne", tbn 51 (by decide +kernel) rfl⟩⟩
theorem lk_X3_57 : x_lnk RX3 57 M_X3_spread 3 := ⟨Or.inl (x_wt (tb 746 (by decide +kernel)) rfl), x_wt (tb 4 (by decide +kernel)) rfl, x_wt (tb 749 (by decide +kernel)) rfl, by decide +kernel, by decide +kernel, by decide +kernel⟩
theorem lk_X3_61 : x_lnk RX3 61 M_X3_forgetGoals 0 := ⟨Or.inl (x_wt (tb 771 (by decide +kernel)) rfl), x_wt (tb 4 (by decide +kernel)) rfl, x_wt (tb 696 (by decide +kernel)) rfl, by decide +kernel, by decide +kernel, by decide +kernel⟩
theorem lk_X3_64 : x_lnk RX3 64 M_X3_addGoal 1 := ⟨Or.inl (x_wt (tb 772 (by decide +kernel)) rfl), x_wt (tb 4 (by decide +kernel)) rfl, x_wt (tb 700 (by decide +kernel)) rfl, by decide +kernel, by decide +kernel, by decide +kernel⟩
theorem fp_X4_9 : x_fldP RX4 9 4 0 .int false := ⟨RX4, TX4, 3, tyX4, cl_X4, by decide, rfl, rfl, rfl, (fun q => by cases q), Or.inl (x_wt (tb 241 (by decide +kernel)) rfl)⟩
theorem fp_X4_15 : x_fldP RX4 15 4 2 (.array .long) true := ⟨RX4, TX4, 3, tyX4, cl_X4, by decide, rfl, rfl, rfl, (fun _ => rfl), Or.inl (x_wt (tb 245 (by decide +kernel)) rfl)⟩
theorem fl_X4_9 : x_fld RX4 9 4 0 := ⟨RX4, TX4, 3, rfl, by decide, iw_X4, Or.inl (x_wt (tb 241 (by decide +kernel)) rfl)⟩
theorem fp_X4_19 : x_fldP RX4 19 4 1 .int false := ⟨RX4, TX4, 3, tyX4, cl_X4, by decide, rfl, rfl, rfl, (fun q => by cases q), Or.inl (x_wt (tb 243 (by decide +kernel)) rfl)⟩
theorem fl_X4_15 : x_fld RX4 15 4 2 := ⟨RX4, TX4, 3, rfl, by decide, iw_X4, Or.inl (x_wt (tb 245 (by decide +kernel)) rfl)⟩
theorem fl_X4_19 : x_fld RX4 19 4 1 := ⟨RX4, TX4, 3, rfl, by decide, iw_X4, Or.inl (x_wt (tb 243 (by decide +kernel)) rfl)⟩
theorem lk_X4_22 : x_lnk RX4 22 M_X4_narrow 1 := ⟨Or.inl (x_wt (tb 321 (by decide +kernel)) rfl), x_wt (tb 7 (by decide +kernel)) rfl, x_wt (tb 324 (by decide +kernel)) rfl, by decide +kernel, by decide +kernel, by decide +kernel⟩
theorem fp_X5_9 : x_fldP RX5 9 5 0 (.array .int) true := ⟨RX5, TX5, 5, tyX5, cl_X5, by decide, rfl, rfl, rfl, (fun _ => rfl), Or.inl (x_wt (tb 101 (by decide +kernel)) rfl)⟩
theorem fl_X5_15 : x_fld RX5 15 5 1 := ⟨RX5, TX5, 5, rfl, by decide, iw_X5, Or.inl (x_wt (tb 102 (by decide +kernel)) rfl)⟩
theorem fl_X5_9 : x_fld RX5 9 5 0 := ⟨RX5, TX5, 5, rfl, by decide, iw_X5, Or.inl (x_wt (tb 101 (by decide +kernel)) rfl)⟩
theorem fp_X5_15 : x_fldP RX5 15 5 1 .int false := ⟨RX5, TX5, 5, tyX5, cl_X5, by decide, rfl, rfl, rfl, (fun q => by cases q), Or.inl (x_wt (tb 102 (by decide +kernel)) rfl)⟩
theorem fl_X5_19 : x_fld RX5 19 5 4 := ⟨RX5, TX5, 5, rfl, by decide, iw_X5, Or.inl (x_wt (tb 106 (by decide +kernel)) rfl)⟩
theorem fp_X5_29 : x_fldP RX5 29 5 3 .int false := ⟨RX5, TX5, 5, tyX5, cl_X5, by decide, rfl, rfl, rfl, (fun q => by cases q), Or.inl (x_wt (tb 105 (by decide +kernel)) rfl)⟩
theorem fl_X5_29 : x_fld RX5 29 5 3 := ⟨RX5, TX5, 5, rfl, by decide, iw_X5, Or.inl (x_wt (tb 105 (by decide +kernel)) rfl)⟩
theorem lk_X5_35 : x_lnk RX5 35 M_X5_sortAt 1 := ⟨Or.inl (x_wt (tb 471 (by decide +kernel)) rfl), x_wt (tb 3 (by decide +kernel)) rfl, x_wt (tb 474 (by decide +kernel)) rfl, by decide +kernel, by decide +kernel, by decide +kernel⟩
theorem fp_X5_32 : x_fldP RX5 32 5 2 .int false := ⟨RX5, TX5, 5, tyX5, cl_X5, by decide, rfl, rfl, rfl, (fun q => by cases q), Or.inl (x_wt (tb 104 (by decide +kernel)) rfl)⟩
theorem fl_X5_32 : x_fld RX5 32 5 2 := ⟨RX5, TX5, 5, rfl, by decide, iw_X5, Or.inl (x_wt (tb 104 (by decide +kernel)) rfl)⟩
theorem fp_X5_19 : x_fldP RX5 19 5 4 .int false := ⟨RX5, TX5, 5, tyX5, cl_X5, by decide, rfl, rfl, rfl, (fun q => by cases q), Or.inl (x_wt (tb 106 (by decide +kernel)) rfl)⟩
theorem lk_X5_22 : x_lnk RX5 22 M_X5_nextToken 0 := ⟨Or.inl (x_wt (tb 467 (by decide +kernel)) rfl), x_wt (tb 3 (by decide +kernel)) rfl, x_wt (tb 470 (by decide +kernel)) rfl, by decide +kernel, by decide +kernel, by decide +kernel⟩
theorem lk_X5_89 : x_lnk RX5 89 M_X5_readNumber 3 := ⟨Or.inl (x_wt (tb 537 (by decide +kernel)) rfl), x_wt (tb 3 (by decide +kernel)) rfl, x_wt (tb 540 (by decide +kernel)) rfl, by decide +kernel, by decide +kernel, by decide +kernel⟩
theorem lk_X5_93 : x_lnk RX5 93 M_X0_addDoor 3 := ⟨Or.inl (x_wt (tb 541 (by decide +kernel)) rfl), x_wt (tb 2 (by decide +kernel)) rfl, x_wt (tb 417 (by decide +kernel)) rfl, by decide +kernel, by decide +kernel, by decide +kernel⟩
theorem lk_X5_51 : x_lnk RX5 51 M_X5_isWord 1 := ⟨Or.inl (x_wt (tb 480 (by decide +kernel)) rfl), x_wt (tb 3 (by decide +kernel)) rfl, x_wt (tb 483 (by decide +kernel)) rfl, by decide +kernel, by decide +kernel, by decide +kernel⟩
theorem fl_X5_98 : x_fld RX5 98 0 5 := ⟨RX0, TX0, 11, rfl, by decide, iw_X0, Or.inr ⟨"WhoOpensOne", tbn 52 (by decide +kernel) rfl⟩⟩
theorem fp_X5_98 : x_fldP RX5 98 0 5 .int false := ⟨RX0, TX0, 11, tyX0, cl_X0, by decide, rfl, rfl, rfl, (fun q => by cases q), Or.inr ⟨rfl, "WhoOpensOne", tbn 52 (by decide +kernel) rfl⟩⟩
theorem lk_X5_101 : x_lnk RX5 101 M_X0_addOne 1 := ⟨Or.inl (x_wt (tb 548 (by decide +kernel)) rfl), x_wt (tb 2 (by decide +kernel)) rfl, x_wt (tb 425 (by decide +kernel)) rfl, by decide +kernel, by decide +kernel, by decide +kernel⟩
theorem fp_X5_104 : x_fldP RX5 104 0 7 .int false := ⟨RX0, TX0, 11, tyX0, cl_X0, by decide, rfl, rfl, rfl, (fun q => by cases q), Or.inr ⟨rfl, "WhoOpensOne", tbn 60 (by decide +kernel) rfl⟩⟩
theorem fp_X5_106 : x_fldP RX5 106 0 8 .int false := ⟨RX0, TX0, 11, tyX0, cl_X0, by decide, rfl, rfl, rfl, (fun q => by cases q), Or.inr ⟨rfl, "WhoOpensOne", tbn 63 (by decide +kernel) rfl⟩⟩
theorem fl_X5_65 : x_fld RX5 65 0 6 := ⟨RX0, TX0, 11, rfl, by decide, iw_X0, Or.inr ⟨"WhoOpensOne", tbn 56 (by decide +kernel) rfl⟩⟩
theorem fl_X5_108 : x_fld RX5 108 0 3 := ⟨RX0, TX0, 11, rfl, by decide, iw_X0, Or.inr ⟨"WhoOpensOne", tbn 43 (by decide +kernel) rfl⟩⟩
theorem fl_X5_55 : x_fld RX5 55 0 4 := ⟨RX0, TX0, 11, rfl, by decide, iw_X0, Or.inr ⟨"WhoOpensOne", tbn 48 (by decide +kernel) rfl⟩⟩
theorem lk_X5_60 : x_lnk RX5 60 M_X5_readDoor 1 := ⟨Or.inl (x_wt (tb 532 (by decide +kernel)) rfl), x_wt (tb 3 (by decide +kernel)) rfl, x_wt (tb 535 (by decide +kernel)) rfl, by decide +kernel, by decide +kernel, by decide +kernel⟩
theorem lk_X5_68 : x_lnk RX5 68 M_X5_readOne 1 := ⟨Or.inl (x_wt (tb 544 (by decide +kernel)) rfl), x_wt (tb 3 (by decide +kernel)) rfl, x_wt (tb 547 (by decide +kernel)) rfl, by decide +kernel, by decide +kernel, by decide +kernel⟩
theorem lk_X5_73 : x_lnk RX5 73 M_X5_readLaw 1 := ⟨Or.inl (x_wt (tb 550 (by decide +kernel)) rfl), x_wt (tb 3 (by decide +kernel)) rfl, x_wt (tb 553 (by decide +kernel)) rfl, by decide +kernel, by decide +kernel, by decide +kernel⟩
theorem lk_X5_78 : x_lnk RX5 78 M_X5_readWind 1 := ⟨Or.inl (x_wt (tb 555 (by decide +kernel)) rfl), x_wt (tb 3 (by decide +kernel)) rfl, x_wt (tb 558 (by decide +kernel)) rfl, by decide +kernel, by decide +kernel, by decide +kernel⟩
theorem lk_X5_83 : x_lnk RX5 83 M_X5_readMoves 1 := ⟨Or.inl (x_wt (tb 560 (by decide +kernel)) rfl), x_wt (tb 3 (by decide +kernel)) rfl, x_wt (tb 563 (by decide +kernel)) rfl, by decide +kernel, by decide +kernel, by decide +kernel⟩
theorem lk_X5_25 : x_lnk RX5 25 M_X5_readStatement 1 := ⟨Or.inl (x_wt (tb 475 (by decide +kernel)) rfl), x_wt (tb 3 (by decide +kernel)) rfl, x_wt (tb 478 (by decide +kernel)) rfl, by decide +kernel, by decide +kernel, by decide +kernel⟩
theorem lk_X6_9 : x_lnk RX6 9 M_X0_init 0 := ⟨Or.inr ⟨"WhoOpensOne", tbn 26 (by decide +kernel) rfl⟩, x_wt (tb 2 (by decide +kernel)) rfl, x_wt (tb 28 (by decide +kernel)) rfl, by decide +kernel, by decide +kernel, by decide +kernel⟩
theorem fp_X6_10 : x_fldP RX6 10 6 0 (.object "WhoOpensOne$House") true := ⟨RX6, TX6, 9, tyX6, cl_X6, by decide, rfl, rfl, rfl, (fun _ => rfl), Or.inl (x_wt (tb 255 (by decide +kernel)) rfl)⟩
theorem fp_X6_16 : x_fldP RX6 16 6 1 (.object "WhoOpensOne$House") true := ⟨RX6, TX6, 9, tyX6, cl_X6, by decide, rfl, rfl, rfl, (fun _ => rfl), Or.inl (x_wt (tb 256 (by decide +kernel)) rfl)⟩
theorem fp_X6_19 : x_fldP RX6 19 6 2 (.object "WhoOpensOne$House") true := ⟨RX6, TX6, 9, tyX6, cl_X6, by decide, rfl, rfl, rfl, (fun _ => rfl), Or.inl (x_wt (tb 257 (by decide +kernel)) rfl)⟩
theorem fp_X6_24 : x_fldP RX6 24 6 4 (.array (.object "WhoOpensOne$Shelf")) true := ⟨RX6, TX6, 9, tyX6, cl_X6, by decide, rfl, rfl, rfl, (fun _ => rfl), Or.inl (x_wt (tb 259 (by decide +kernel)) rfl)⟩
theorem lk_X6_30 : x_lnk RX6 30 M_X5_init 0 := ⟨Or.inr ⟨"WhoOpensOne", tbn 97 (by decide +kernel) rfl⟩, x_wt (tb 3 (by decide +kernel)) rfl, x_wt (tb 99 (by decide +kernel)) rfl, by decide +kernel, by decide +kernel, by decide +kernel⟩
theorem fp_X6_31 : x_fldP RX6 31 6 5 (.object "WhoOpensOne$Tape") true := ⟨RX6, TX6, 9, tyX6, cl_X6, by decide, rfl, rfl, rfl, (fun _ => rfl), Or.inl (x_wt (tb 260 (by decide +kernel)) rfl)⟩
theorem lk_X6_37 : x_lnk RX6 37 M_X3_init 0 := ⟨Or.inr ⟨"WhoOpensOne", tbn 120 (by decide +kernel) rfl⟩, x_wt (tb 4 (by decide +kernel)) rfl, x_wt (tb 122 (by decide +kernel)) rfl, by decide +kernel, by decide +kernel, by decide +kernel⟩
theorem fp_X6_38 : x_fldP RX6 38 6 6 (.object "WhoOpensOne$Search") true := ⟨RX6, TX6, 9, tyX6, cl_X6, by decide, rfl, rfl, rfl, (fun _ => rfl), Or.inl (x_wt (tb 261 (by decide +kernel)) rfl)⟩
theorem lk_X6_44 : x_lnk RX6 44 M_X1_init 0 := ⟨Or.inr ⟨"WhoOpensOne", tbn 210 (by decide +kernel) rfl⟩, x_wt (tb 6 (by decide +kernel)) rfl, x_wt (tb 212 (by decide +kernel)) rfl, by decide +kernel, by decide +kernel, by decide +kernel⟩
theorem fp_X6_45 : x_fldP RX6 45 6 7 (.object "WhoOpensOne$Lasting") true := ⟨RX6, TX6, 9, tyX6, cl_X6, by decide, rfl, rfl, rfl, (fun _ => rfl), Or.inl (x_wt (tb 262 (by decide +kernel)) rfl)⟩
theorem fp_X6_49 : x_fldP RX6 49 6 8 (.array .int) true := ⟨RX6, TX6, 9, tyX6, cl_X6, by decide, rfl, rfl, rfl, (fun _ => rfl), Or.inl (x_wt (tb 263 (by decide +kernel)) rfl)⟩
theorem fl_X6_24 : x_fld RX6 24 6 4 := ⟨RX6, TX6, 9, rfl, by decide, iw_X6, Or.inl (x_wt (tb 259 (by decide +kernel)) rfl)⟩
theorem lk_X6_53 : x_lnk RX6 53 M_X4_init 0 := ⟨Or.inr ⟨"WhoOpensOne", tbn 237 (by decide +kernel) rfl⟩, x_wt (tb 7 (by decide +kernel)) rfl, x_wt (tb 239 (by decide +kernel)) rfl, by decide +kernel, by decide +kernel, by decide +kernel⟩
theorem fl_X6_49 : x_fld RX6 49 6 8 := ⟨RX6, TX6, 9, rfl, by decide, iw_X6, Or.inl (x_wt (tb 263 (by decide +kernel)) rfl)⟩
theorem lk_X6_54 : x_lnk RX6 54 M_X6_isShelf 1 := ⟨Or.inl (x_wt (tb 287 (by decide +kernel)) rfl), x_wt (tb 1 (by decide +kernel)) rfl, x_wt (tb 289 (by decide +kernel)) rfl, by decide +kernel, by decide +kernel, by decide +kernel⟩
theorem lk_X6_58 : x_lnk RX6 58 M_X6_refuse 1 := ⟨Or.inl (x_wt (tb 290 (by decide +kernel)) rfl), x_wt (tb 1 (by decide +kernel)) rfl, x_wt (tb 293 (by decide +kernel)) rfl, by decide +kernel, by decide +kernel, by decide +kernel⟩
theorem lk_X6_62 : x_lnk RX6 62 M_X4_takeRow 2 := ⟨Or.inl (x_wt (tb 294 (by decide +kernel)) rfl), x_wt (tb 7 (by decide +kernel)) rfl, x_wt (tb 297 (by decide +kernel)) rfl, by decide +kernel, by decide +kernel, by decide +kernel⟩
theorem lk_X6_77 : x_lnk RX6 77 M_X4_holdsDoor 0 := ⟨Or.inl (x_wt (tb 305 (by decide +kernel)) rfl), x_wt (tb 7 (by decide +kernel)) rfl, x_wt (tb 308 (by decide +kernel)) rfl, by decide +kernel, by decide +kernel, by decide +kernel⟩
theorem lk_X6_81 : x_lnk RX6 81 M_X4_isEmpty 0 := ⟨Or.inl (x_wt (tb 309 (by decide +kernel)) rfl), x_wt (tb 7 (by decide +kernel)) rfl, x_wt (tb 312 (by decide +kernel)) rfl, by decide +kernel, by decide +kernel, by decide +kernel⟩
theorem fl_X6_285 : x_fld RX6 285 4 1 := ⟨RX4, TX4, 3, rfl, by decide, iw_X4, Or.inr ⟨"WhoOpensOne", tbn 244 (by decide +kernel) rfl⟩⟩
theorem lk_X6_66 : x_lnk RX6 66 M_X6_rowRefusal 2 := ⟨Or.inl (x_wt (tb 302 (by decide +kernel)) rfl), x_wt (tb 1 (by decide +kernel)) rfl, x_wt (tb 304 (by decide +kernel)) rfl, by decide +kernel, by decide +kernel, by decide +kernel⟩
theorem lk_X6_70 : x_lnk RX6 70 M_X4_hasElement 1 := ⟨Or.inl (x_wt (tb 313 (by decide +kernel)) rfl), x_wt (tb 7 (by decide +kernel)) rfl, x_wt (tb 316 (by decide +kernel)) rfl, by decide +kernel, by decide +kernel, by decide +kernel⟩
theorem lk_X6_73 : x_lnk RX6 73 M_X4_put 2 := ⟨Or.inl (x_wt (tb 317 (by decide +kernel)) rfl), x_wt (tb 7 (by decide +kernel)) rfl, x_wt (tb 320 (by decide +kernel)) rfl, by decide +kernel, by decide +kernel, by decide +kernel⟩
theorem fl_X6_84 : x_fld RX6 84 4 0 := ⟨RX4, TX4, 3, rfl, by decide, iw_X4, Or.inr ⟨"WhoOpensOne", tbn 242 (by decide +kernel) rfl⟩⟩
theorem lk_X6_88 : x_lnk RX6 88 M_X4_hasStretch 2 := ⟨Or.inl (x_wt (tb 329 (by decide +kernel)) rfl), x_wt (tb 7 (by decide +kernel)) rfl, x_wt (tb 332 (by decide +kernel)) rfl, by decide +kernel, by decide +kernel, by decide +kernel⟩
theorem fl_X6_92 : x_fld RX6 92 4 2 := ⟨RX4, TX4, 3, rfl, by decide, iw_X4, Or.inr ⟨"WhoOpensOne", tbn 246 (by decide +kernel) rfl⟩⟩
theorem fl_X6_10 : x_fld RX6 10 6 0 := ⟨RX6, TX6, 9, rfl, by decide, iw_X6, Or.inl (x_wt (tb 255 (by decide +kernel)) rfl)⟩
theorem lk_X6_102 : x_lnk RX6 102 M_X0_hasDoor 1 := ⟨Or.inl (x_wt (tb 348 (by decide +kernel)) rfl), x_wt (tb 2 (by decide +kernel)) rfl, x_wt (tb 351 (by decide +kernel)) rfl, by decide +kernel, by decide +kernel, by decide +kernel⟩
theorem lk_X6_105 : x_lnk RX6 105 M_X4_clear 0 := ⟨Or.inl (x_wt (tb 352 (by decide +kernel)) rfl), x_wt (tb 7 (by decide +kernel)) rfl, x_wt (tb 355 (by decide +kernel)) rfl, by decide +kernel, by decide +kernel, by decide +kernel⟩
theorem lk_X6_108 : x_lnk RX6 108 M_X4_takeDoor 1 := ⟨Or.inl (x_wt (tb 356 (by decide +kernel)) rfl), x_wt (tb 7 (by decide +kernel)) rfl, x_wt (tb 359 (by decide +kernel)) rfl, by decide +kernel, by decide +kernel, by decide +kernel⟩
theorem lk_X6_112 : x_lnk RX6 112 M_X6_isKind 1 := ⟨Or.inl (x_wt (tb 364 (by decide +kernel)) rfl), x_wt (tb 1 (by decide +kernel)) rfl, x_wt (tb 366 (by decide +kernel)) rfl, by decide +kernel, by decide +kernel, by decide +kernel⟩
theorem fl_X6_177 : x_fld RX6 177 0 1 := ⟨RX0, TX0, 11, rfl, by decide, iw_X0, Or.inr ⟨"WhoOpensOne", tbn 36 (by decide +kernel) rfl⟩⟩
theorem lk_X6_189 : x_lnk RX6 189 M_X0_shuttable 0 := ⟨Or.inl (x_wt (tb 382 (by decide +kernel)) rfl), x_wt (tb 2 (by decide +kernel)) rfl, x_wt (tb 385 (by decide +kernel)) rfl, by decide +kernel, by decide +kernel, by decide +kernel⟩
theorem lk_X6_286 : x_lnk RX6 286 M_X0_someoneIn 1 := ⟨Or.inl (x_wt (tb 398 (by decide +kernel)) rfl), x_wt (tb 2 (by decide +kernel)) rfl, x_wt (tb 401 (by decide +kernel)) rfl, by decide +kernel, by decide +kernel, by decide +kernel⟩
theorem fl_X6_180 : x_fld RX6 180 0 2 := ⟨RX0, TX0, 11, rfl, by decide, iw_X0, Or.inr ⟨"WhoOpensOne", tbn 39 (by decide +kernel) rfl⟩⟩
theorem lk_X6_183 : x_lnk RX6 183 M_X0_weightOf 1 := ⟨Or.inl (x_wt (tb 402 (by decide +kernel)) rfl), x_wt (tb 2 (by decide +kernel)) rfl, x_wt (tb 405 (by decide +kernel)) rfl, by decide +kernel, by decide +kernel, by decide +kernel⟩
theorem lk_X6_115 : x_lnk RX6 115 M_X4_heldDoor 0 := ⟨Or.inl (x_wt (tb 369 (by decide +kernel)) rfl), x_wt (tb 7 (by decide +kernel)) rfl, x_wt (tb 372 (by decide +kernel)) rfl, by decide +kernel, by decide +kernel, by decide +kernel⟩
theorem fl_X6_119 : x_fld RX6 119 0 0 := ⟨RX0, TX0, 11, rfl, by decide, iw_X0, Or.inr ⟨"WhoOpensOne", tbn 33 (by decide +kernel) rfl⟩⟩
theorem lk_X6_122 : x_lnk RX6 122 M_X6_isUnder 2 := ⟨Or.inl (x_wt (tb 373 (by decide +kernel)) rfl), x_wt (tb 1 (by decide +kernel)) rfl, x_wt (tb 375 (by decide +kernel)) rfl, by decide +kernel, by decide +kernel, by decide +kernel⟩
theorem lk_X6_125 : x_lnk RX6 125 M_X6_saying 2 := ⟨Or.inl (x_wt (tb 378 (by decide +kernel)) rfl), x_wt (tb 1 (by decide +kernel)) rfl, x_wt (tb 381 (by decide +kernel)) rfl, by decide +kernel, by decide +kernel, by decide +kernel⟩
theorem lk_X6_129 : x_lnk RX6 129 M_X6_isRoom 1 := ⟨Or.inl (x_wt (tb 411 (by decide +kernel)) rfl), x_wt (tb 1 (by decide +kernel)) rfl, x_wt (tb 413 (by decide +kernel)) rfl, by decide +kernel, by decide +kernel, by decide +kernel⟩
theorem fl_X6_132 : x_fld RX6 132 0 4 := ⟨RX0, TX0, 11, rfl, by decide, iw_X0, Or.inr ⟨"WhoOpensOne", tbn 49 (by decide +kernel) rfl⟩⟩
theorem lk_X6_135 : x_lnk RX6 135 M_X0_addDoor 3 := ⟨Or.inl (x_wt (tb 414 (by decide +kernel)) rfl), x_wt (tb 2 (by decide +kernel)) rfl, x_wt (tb 417 (by decide +kernel)) rfl, by decide +kernel, by decide +kernel, by decide +kernel⟩
theorem fl_X6_139 : x_fld RX6 139 0 6 := ⟨RX0, TX0, 11, rfl, by decide, iw_X0, Or.inr ⟨"WhoOpensOne", tbn 57 (by decide +kernel) rfl⟩⟩
theorem lk_X6_142 : x_lnk RX6 142 M_X0_addOne 1 := ⟨Or.inl (x_wt (tb 422 (by decide +kernel)) rfl), x_wt (tb 2 (by decide +kernel)) rfl, x_wt (tb 425 (by decide +kernel)) rfl, by decide +kernel, by decide +kernel, by decide +kernel⟩
theorem fl_X6_145 : x_fld RX6 145 0 7 := ⟨RX0, TX0, 11, rfl, by decide, iw_X0, Or.inr ⟨"WhoOpensOne", tbn 61 (by decide +kernel) rfl⟩⟩
theorem fp_X6_145 : x_fldP RX6 145 0 7 .int false := ⟨RX0, TX0, 11, tyX0, cl_X0, by decide, rfl, rfl, rfl, (fun q => by cases q), Or.inr ⟨rfl, "WhoOpensOne", tbn 61 (by decide +kernel) rfl⟩⟩
theorem fl_X6_148 : x_fld RX6 148 0 8 := ⟨RX0, TX0, 11, rfl, by decide, iw_X0, Or.inr ⟨"WhoOpensOne", tbn 64 (by decide +kernel) rfl⟩⟩
theorem fp_X6_148 : x_fldP RX6 148 0 8 .int false := ⟨RX0, TX0, 11, tyX0, cl_X0, by decide, rfl, rfl, rfl, (fun q => by cases q), Or.inr ⟨rfl, "WhoOpensOne", tbn 64 (by decide +kernel) rfl⟩⟩
theorem lk_X6_151 : x_lnk RX6 151 M_X0_isOpen 1 := ⟨Or.inl (x_wt (tb 434 (by decide +kernel)) rfl), x_wt (tb 2 (by decide +kernel)) rfl, x_wt (tb 389 (by decide +kernel)) rfl, by decide +kernel, by decide +kernel, by decide +kernel⟩
theorem fl_X6_154 : x_fld RX6 154 0 5 := ⟨RX0, TX0, 11, rfl, by decide, iw_X0, Or.inr ⟨"WhoOpensOne", tbn 53 (by decide +kernel) rfl⟩⟩
theorem fp_X6_154 : x_fldP RX6 154 0 5 .int false := ⟨RX0, TX0, 11, tyX0, cl_X0, by decide, rfl, rfl, rfl, (fun q => by cases q), Or.inr ⟨rfl, "WhoOpensOne", tbn 53 (by decide +kernel) rfl⟩⟩
theorem lk_X6_157 : x_lnk RX6 157 M_X0_hasOne 1 := ⟨Or.inl (x_wt (tb 439 (by decide +kernel)) rfl), x_wt (tb 2 (by decide +kernel)) rfl, x_wt (tb 442 (by decide +kernel)) rfl, by decide +kernel, by decide +kernel, by decide +kernel⟩
theorem fl_X6_160 : x_fld RX6 160 0 3 := ⟨RX0, TX0, 11, rfl, by decide, iw_X0, Or.inr ⟨"WhoOpensOne", tbn 44 (by decide +kernel) rfl⟩⟩
theorem fl_X6_31 : x_fld RX6 31 6 5 := ⟨RX6, TX6, 9, rfl, by decide, iw_X6, Or.inl (x_wt (tb 260 (by decide +kernel)) rfl)⟩
theorem fl_X6_163 : x_fld RX6 163 5 1 := ⟨RX5, TX5, 5, rfl, by decide, iw_X5, Or.inr ⟨"WhoOpensOne", tbn 103 (by decide +kernel) rfl⟩⟩
theorem lk_X6_166 : x_lnk RX6 166 M_X5_append 2 := ⟨Or.inl (x_wt (tb 447 (by decide +kernel)) rfl), x_wt (tb 3 (by decide +kernel)) rfl, x_wt (tb 450 (by decide +kernel)) rfl, by decide +kernel, by decide +kernel, by decide +kernel⟩
theorem fp_X6_163 : x_fldP RX6 163 5 1 .int false := ⟨RX5, TX5, 5, tyX5, cl_X5, by decide, rfl, rfl, rfl, (fun q => by cases q), Or.inr ⟨rfl, "WhoOpensOne", tbn 103 (by decide +kernel) rfl⟩⟩
theorem fl_X6_16 : x_fld RX6 16 6 1 := ⟨RX6, TX6, 9, rfl, by decide, iw_X6, Or.inl (x_wt (tb 256 (by decide +kernel)) rfl)⟩
theorem lk_X6_169 : x_lnk RX6 169 M_X0_become 1 := ⟨Or.inl (x_wt (tb 459 (by decide +kernel)) rfl), x_wt (tb 2 (by decide +kernel)) rfl, x_wt (tb 462 (by decide +kernel)) rfl, by decide +kernel, by decide +kernel, by decide +kernel⟩
theorem lk_X6_173 : x_lnk RX6 173 M_X5_readInto 1 := ⟨Or.inl (x_wt (tb 463 (by decide +kernel)) rfl), x_wt (tb 3 (by decide +kernel)) rfl, x_wt (tb 466 (by decide +kernel)) rfl, by decide +kernel, by decide +kernel, by decide +kernel⟩
theorem lk_X6_186 : x_lnk RX6 186 M_X0_doorsAt 1 := ⟨Or.inl (x_wt (tb 577 (by decide +kernel)) rfl), x_wt (tb 2 (by decide +kernel)) rfl, x_wt (tb 580 (by decide +kernel)) rfl, by decide +kernel, by decide +kernel, by decide +kernel⟩
theorem lk_X6_192 : x_lnk RX6 192 M_X0_mayWalk 2 := ⟨Or.inl (x_wt (tb 585 (by decide +kernel)) rfl), x_wt (tb 2 (by decide +kernel)) rfl, x_wt (tb 588 (by decide +kernel)) rfl, by decide +kernel, by decide +kernel, by decide +kernel⟩
theorem lk_X6_195 : x_lnk RX6 195 M_X0_mayShut 2 := ⟨Or.inl (x_wt (tb 589 (by decide +kernel)) rfl), x_wt (tb 2 (by decide +kernel)) rfl, x_wt (tb 592 (by decide +kernel)) rfl, by decide +kernel, by decide +kernel, by decide +kernel⟩
theorem lk_X6_198 : x_lnk RX6 198 M_X0_leastSet 2 := ⟨Or.inl (x_wt (tb 593 (by decide +kernel)) rfl), x_wt (tb 2 (by decide +kernel)) rfl, x_wt (tb 596 (by decide +kernel)) rfl, by decide +kernel, by decide +kernel, by decide +kernel⟩
theorem lk_X6_201 : x_lnk RX6 201 M_X0_hasDoors 1 := ⟨Or.inl (x_wt (tb 615 (by decide +kernel)) rfl), x_wt (tb 2 (by decide +kernel)) rfl, x_wt (tb 618 (by decide +kernel)) rfl, by decide +kernel, by decide +kernel, by decide +kernel⟩
theorem lk_X6_204 : x_lnk RX6 204 M_X0_opensBy 3 := ⟨Or.inl (x_wt (tb 619 (by decide +kernel)) rfl), x_wt (tb 2 (by decide +kernel)) rfl, x_wt (tb 622 (by decide +kernel)) rfl, by decide +kernel, by decide +kernel, by decide +kernel⟩
theorem lk_X6_208 : x_lnk RX6 208 M_X0_countSets 2 := ⟨Or.inl (x_wt (tb 631 (by decide +kernel)) rfl), x_wt (tb 2 (by decide +kernel)) rfl, x_wt (tb 634 (by decide +kernel)) rfl, by decide +kernel, by decide +kernel, by decide +kernel⟩
theorem lk_X6_211 : x_lnk RX6 211 M_X0_goThrough 2 := ⟨Or.inl (x_wt (tb 648 (by decide +kernel)) rfl), x_wt (tb 2 (by decide +kernel)) rfl, x_wt (tb 651 (by decide +kernel)) rfl, by decide +kernel, by decide +kernel, by decide +kernel⟩
theorem lk_X6_214 : x_lnk RX6 214 M_X0_openStock 0 := ⟨Or.inl (x_wt (tb 656 (by decide +kernel)) rfl), x_wt (tb 2 (by decide +kernel)) rfl, x_wt (tb 659 (by decide +kernel)) rfl, by decide +kernel, by decide +kernel, by decide +kernel⟩
theorem lk_X6_217 : x_lnk RX6 217 M_X0_openFor 2 := ⟨Or.inl (x_wt (tb 664 (by decide +kernel)) rfl), x_wt (tb 2 (by decide +kernel)) rfl, x_wt (tb 667 (by decide +kernel)) rfl, by decide +kernel, by decide +kernel, by decide +kernel⟩
theorem lk_X6_220 : x_lnk RX6 220 M_X0_reachFrom 1 := ⟨Or.inl (x_wt (tb 672 (by decide +kernel)) rfl), x_wt (tb 2 (by decide +kernel)) rfl, x_wt (tb 675 (by decide +kernel)) rfl, by decide +kernel, by decide +kernel, by decide +kernel⟩
theorem lk_X6_223 : x_lnk RX6 223 M_X0_shutInBits 0 := ⟨Or.inl (x_wt (tb 680 (by decide +kernel)) rfl), x_wt (tb 2 (by decide +kernel)) rfl, x_wt (tb 683 (by decide +kernel)) rfl, by decide +kernel, by decide +kernel, by decide +kernel⟩
theorem fl_X6_38 : x_fld RX6 38 6 6 := ⟨RX6, TX6, 9, rfl, by decide, iw_X6, Or.inl (x_wt (tb 261 (by decide +kernel)) rfl)⟩
theorem lk_X6_236 : x_lnk RX6 236 M_X3_forgetGoals 0 := ⟨Or.inl (x_wt (tb 693 (by decide +kernel)) rfl), x_wt (tb 4 (by decide +kernel)) rfl, x_wt (tb 696 (by decide +kernel)) rfl, by decide +kernel, by decide +kernel, by decide +kernel⟩
theorem lk_X6_241 : x_lnk RX6 241 M_X3_addGoal 1 := ⟨Or.inl (x_wt (tb 697 (by decide +kernel)) rfl), x_wt (tb 4 (by decide +kernel)) rfl, x_wt (tb 700 (by decide +kernel)) rfl, by decide +kernel, by decide +kernel, by decide +kernel⟩
theorem lk_X6_244 : x_lnk RX6 244 M_X3_fewestFor 2 := ⟨Or.inl (x_wt (tb 701 (by decide +kernel)) rfl), x_wt (tb 4 (by decide +kernel)) rfl, x_wt (tb 704 (by decide +kernel)) rfl, by decide +kernel, by decide +kernel, by decide +kernel⟩
theorem lk_X6_226 : x_lnk RX6 226 M_X6_fewestTo 2 := ⟨Or.inl (x_wt (tb 689 (by decide +kernel)) rfl), x_wt (tb 1 (by decide +kernel)) rfl, x_wt (tb 692 (by decide +kernel)) rfl, by decide +kernel, by decide +kernel, by decide +kernel⟩
theorem lk_X6_229 : x_lnk RX6 229 M_X3_roomsFor 2 := ⟨Or.inl (x_wt (tb 767 (by decide +kernel)) rfl), x_wt (tb 4 (by decide +kernel)) rfl, x_wt (tb 770 (by decide +kernel)) rfl, by decide +kernel, by decide +kernel, by decide +kernel⟩
theorem lk_X6_233 : x_lnk RX6 233 M_X3_leastFirst 0 := ⟨Or.inl (x_wt (tb 777 (by decide +kernel)) rfl), x_wt (tb 4 (by decide +kernel)) rfl, x_wt (tb 780 (by decide +kernel)) rfl, by decide +kernel, by decide +kernel, by decide +kernel⟩
theorem fl_X6_45 : x_fld RX6 45 6 7 := ⟨RX6, TX6, 9, rfl, by decide, iw_X6, Or.inl (x_wt (tb 262 (by decide +kernel)) rfl)⟩
theorem lk_X6_247 : x_lnk RX6 247 M_X1_most 4 := ⟨Or.inl (x_wt (tb 798 (by decide +kernel)) rfl), x_wt (tb 6 (by decide +kernel)) rfl, x_wt (tb 801 (by decide +kernel)) rfl, by decide +kernel, by decide +kernel, by decide +kernel⟩
theorem lk_X6_289 : x_lnk RX6 289 M_X0_playAct 1 := ⟨Or.inl (x_wt (tb 854 (by decide +kernel)) rfl), x_wt (tb 2 (by decide +kernel)) rfl, x_wt (tb 857 (by decide +kernel)) rfl, by decide +kernel, by decide +kernel, by decide +kernel⟩
theorem lk_X6_252 : x_lnk RX6 252 M_X6_playActs 2 := ⟨Or.inl (x_wt (tb 850 (by decide +kernel)) rfl), x_wt (tb 1 (by decide +kernel)) rfl, x_wt (tb 853 (by decide +kernel)) rfl, by decide +kernel, by decide +kernel, by decide +kernel⟩
theorem fl_X6_255 : x_fld RX6 255 0 10 := ⟨RX0, TX0, 11, rfl, by decide, iw_X0, Or.inr ⟨"WhoOpensOne", tbn 68 (by decide +kernel) rfl⟩⟩
theorem lk_X6_258 : x_lnk RX6 258 M_X0_takeTurn 0 := ⟨Or.inl (x_wt (tb 877 (by decide +kernel)) rfl), x_wt (tb 2 (by decide +kernel)) rfl, x_wt (tb 880 (by decide +kernel)) rfl, by decide +kernel, by decide +kernel, by decide +kernel⟩
theorem lk_X6_261 : x_lnk RX6 261 M_X0_blow 0 := ⟨Or.inl (x_wt (tb 891 (by decide +kernel)) rfl), x_wt (tb 2 (by decide +kernel)) rfl, x_wt (tb 894 (by decide +kernel)) rfl, by decide +kernel, by decide +kernel, by decide +kernel⟩
theorem fl_X6_264 : x_fld RX6 264 0 9 := ⟨RX0, TX0, 11, rfl, by decide, iw_X0, Or.inr ⟨"WhoOpensOne", tbn 66 (by decide +kernel) rfl⟩⟩
theorem fp_X6_264 : x_fldP RX6 264 0 9 .int false := ⟨RX0, TX0, 11, tyX0, cl_X0, by decide, rfl, rfl, rfl, (fun q => by cases q), Or.inr ⟨rfl, "WhoOpensOne", tbn 66 (by decide +kernel) rfl⟩⟩
theorem fl_X6_19 : x_fld RX6 19 6 2 := ⟨RX6, TX6, 9, rfl, by decide, iw_X6, Or.inl (x_wt (tb 257 (by decide +kernel)) rfl)⟩
theorem fp_X6_267 : x_fldP RX6 267 6 3 .boolean false := ⟨RX6, TX6, 9, tyX6, cl_X6, by decide, rfl, rfl, rfl, (fun q => by cases q), Or.inl (x_wt (tb 258 (by decide +kernel)) rfl)⟩
theorem fl_X6_267 : x_fld RX6 267 6 3 := ⟨RX6, TX6, 9, rfl, by decide, iw_X6, Or.inl (x_wt (tb 258 (by decide +kernel)) rfl)⟩
theorem lk_X6_271 : x_lnk RX6 271 M_J6_bitCount_0f7a4 1 := ⟨Or.inl (x_wt (tb 911 (by decide +kernel)) rfl), x_wt (tb 15 (by decide +kernel)) rfl, x_wt (tb 733 (by decide +kernel)) rfl, by decide +kernel, by decide +kernel, by decide +kernel⟩
theorem lk_X6_276 : x_lnk RX6 276 M_X6_fullShelves 0 := ⟨Or.inl (x_wt (tb 912 (by decide +kernel)) rfl), x_wt (tb 1 (by decide +kernel)) rfl, x_wt (tb 915 (by decide +kernel)) rfl, by decide +kernel, by decide +kernel, by decide +kernel⟩
theorem fp_X7_7 : x_fldP RX7 7 7 0 (.array .int) true := ⟨RX7, TX7, 40, tyX7, cl_X7, by decide, rfl, rfl, rfl, (fun _ => rfl), Or.inl (x_wt (tb 926 (by decide +kernel)) rfl)⟩
theorem fp_X7_13 : x_fldP RX7 13 7 1 (.array .int) true := ⟨RX7, TX7, 40, tyX7, cl_X7, by decide, rfl, rfl, rfl, (fun _ => rfl), Or.inl (x_wt (tb 927 (by decide +kernel)) rfl)⟩
theorem fp_X7_16 : x_fldP RX7 16 7 2 (.array .int) true := ⟨RX7, TX7, 40, tyX7, cl_X7, by decide, rfl, rfl, rfl, (fun _ => rfl), Or.inl (x_wt (tb 928 (by decide +kernel)) rfl)⟩
theorem fp_X7_21 : x_fldP RX7 21 7 3 (.array (.array .long)) true := ⟨RX7, TX7, 40, tyX7, cl_X7, by decide, rfl, rfl, rfl, (fun _ => rfl), Or.inl (x_wt (tb 929 (by decide +kernel)) rfl)⟩
theorem fp_X7_24 : x_fldP RX7 24 7 4 (.array .long) true := ⟨RX7, TX7, 40, tyX7, cl_X7, by decide, rfl, rfl, rfl, (fun _ => rfl), Or.inl (x_wt (tb 930 (by decide +kernel)) rfl)⟩
theorem fp_X7_28 : x_fldP RX7 28 7 5 (.array .int) true := ⟨RX7, TX7, 40, tyX7, cl_X7, by decide, rfl, rfl, rfl, (fun _ => rfl), Or.inl (x_wt (tb 931 (by decide +kernel)) rfl)⟩
theorem fp_X7_31 : x_fldP RX7 31 7 6 (.array .int) true := ⟨RX7, TX7, 40, tyX7, cl_X7, by decide, rfl, rfl, rfl, (fun _ => rfl), Or.inl (x_wt (tb 932 (by decide +kernel)) rfl)⟩
theorem fp_X7_34 : x_fldP RX7 34 7 8 (.array .int) true := ⟨RX7, TX7, 40, tyX7, cl_X7, by decide, rfl, rfl, rfl, (fun _ => rfl), Or.inl (x_wt (tb 934 (by decide +kernel)) rfl)⟩
theorem fp_X7_39 : x_fldP RX7 39 7 10 (.array (.array .int)) true := ⟨RX7, TX7, 40, tyX7, cl_X7, by decide, rfl, rfl, rfl, (fun _ => rfl), Or.inl (x_wt (tb 936 (by decide +kernel)) rfl)⟩
theorem fp_X7_42 : x_fldP RX7 42 7 13 (.array .int) true := ⟨RX7, TX7, 40, tyX7, cl_X7, by decide, rfl, rfl, rfl, (fun _ => rfl), Or.inl (x_wt (tb 939 (by decide +kernel)) rfl)⟩
theorem fp_X7_45 : x_fldP RX7 45 7 14 .int false := ⟨RX7, TX7, 40, tyX7, cl_X7, by decide, rfl, rfl, rfl, (fun q => by cases q), Or.inl (x_wt (tb 940 (by decide +kernel)) rfl)⟩
theorem fp_X7_49 : x_fldP RX7 49 7 17 .int false := ⟨RX7, TX7, 40, tyX7, cl_X7, by decide, rfl, rfl, rfl, (fun q => by cases q), Or.inl (x_wt (tb 943 (by decide +kernel)) rfl)⟩
theorem fp_X7_52 : x_fldP RX7 52 7 25 (.array .int) true := ⟨RX7, TX7, 40, tyX7, cl_X7, by decide, rfl, rfl, rfl, (fun _ => rfl), Or.inl (x_wt (tb 951 (by decide +kernel)) rfl)⟩
theorem fp_X7_55 : x_fldP RX7 55 7 29 (.array .int) true := ⟨RX7, TX7, 40, tyX7, cl_X7, by decide, rfl, rfl, rfl, (fun _ => rfl), Or.inl (x_wt (tb 955 (by decide +kernel)) rfl)⟩
theorem fp_X7_58 : x_fldP RX7 58 7 31 (.array .int) true := ⟨RX7, TX7, 40, tyX7, cl_X7, by decide, rfl, rfl, rfl, (fun _ => rfl), Or.inl (x_wt (tb 957 (by decide +kernel)) rfl)⟩
theorem fl_X7_34 : x_fld RX7 34 7 8 := ⟨RX7, TX7, 40, rfl, by decide, iw_X7, Or.inl (x_wt (tb 934 (by decide +kernel)) rfl)⟩
theorem fl_X7_61 : x_fld RX7 61 7 9 := ⟨RX7, TX7, 40, rfl, by decide, iw_X7, Or.inl (x_wt (tb 935 (by decide +kernel)) rfl)⟩
theorem lk_X7_64 : x_lnk RX7 64 M_X7_in 3 := ⟨Or.inl (x_wt (tb 1052 (by decide +kernel)) rfl), x_wt (tb 8 (by decide +kernel)) rfl, x_wt (tb 1054 (by decide +kernel)) rfl, by decide +kernel, by decide +kernel, by decide +kernel⟩
theorem fl_X7_68 : x_fld RX7 68 7 12 := ⟨RX7, TX7, 40, rfl, by decide, iw_X7, Or.inl (x_wt (tb 938 (by decide +kernel)) rfl)⟩
theorem lk_X7_77 : x_lnk RX7 77 M_X7_refuse 1 := ⟨Or.inl (x_wt (tb 1057 (by decide +kernel)) rfl), x_wt (tb 8 (by decide +kernel)) rfl, x_wt (tb 1060 (by decide +kernel)) rfl, by decide +kernel, by decide +kernel, by decide +kernel⟩
theorem fl_X7_7 : x_fld RX7 7 7 0 := ⟨RX7, TX7, 40, rfl, by decide, iw_X7, Or.inl (x_wt (tb 926 (by decide +kernel)) rfl)⟩
theorem fl_X7_13 : x_fld RX7 13 7 1 := ⟨RX7, TX7, 40, rfl, by decide, iw_X7, Or.inl (x_wt (tb 927 (by decide +kernel)) rfl)⟩
theorem fl_X7_16 : x_fld RX7 16 7 2 := ⟨RX7, TX7, 40, rfl, by decide, iw_X7, Or.inl (x_wt (tb 928 (by decide +kernel)) rfl)⟩
theorem fl_X7_21 : x_fld RX7 21 7 3 := ⟨RX7, TX7, 40, rfl, by decide, iw_X7, Or.inl (x_wt (tb 929 (by decide +kernel)) rfl)⟩
theorem lk_X7_81 : x_lnk RX7 81 M_X7_noRow 1 := ⟨Or.inl (x_wt (tb 1065 (by decide +kernel)) rfl), x_wt (tb 8 (by decide +kernel)) rfl, x_wt (tb 1068 (by decide +kernel)) rfl, by decide +kernel, by decide +kernel, by decide +kernel⟩
theorem lk_X7_84 : x_lnk RX7 84 M_X7_fit 2 := ⟨Or.inl (x_wt (tb 1069 (by decide +kernel)) rfl), x_wt (tb 8 (by decide +kernel)) rfl, x_wt (tb 1071 (by decide +kernel)) rfl, by decide +kernel, by decide +kernel, by decide +kernel⟩
theorem fl_X7_24 : x_fld RX7 24 7 4 := ⟨RX7, TX7, 40, rfl, by decide, iw_X7, Or.inl (x_wt (tb 930 (by decide +kernel)) rfl)⟩
theorem fl_X7_28 : x_fld RX7 28 7 5 := ⟨RX7, TX7, 40, rfl, by decide, iw_X7, Or.inl (x_wt (tb 931 (by decide +kernel)) rfl)⟩
theorem lk_X7_88 : x_lnk RX7 88 M_X7_isDoor 1 := ⟨Or.inl (x_wt (tb 1088 (by decide +kernel)) rfl), x_wt (tb 8 (by decide +kernel)) rfl, x_wt (tb 1091 (by decide +kernel)) rfl, by decide +kernel, by decide +kernel, by decide +kernel⟩
theorem fl_X7_39 : x_fld RX7 39 7 10 := ⟨RX7, TX7, 40, rfl, by decide, iw_X7, Or.inl (x_wt (tb 936 (by decide +kernel)) rfl)⟩
theorem fl_X7_42 : x_fld RX7 42 7 13 := ⟨RX7, TX7, 40, rfl, by decide, iw_X7, Or.inl (x_wt (tb 939 (by decide +kernel)) rfl)⟩
theorem fl_X7_108 : x_fld RX7 108 7 11 := ⟨RX7, TX7, 40, rfl, by decide, iw_X7, Or.inl (x_wt (tb 937 (by decide +kernel)) rfl)⟩
theorem lk_X7_116 : x_lnk RX7 116 M_X7_has 2 := ⟨Or.inl (x_wt (tb 1113 (by decide +kernel)) rfl), x_wt (tb 8 (by decide +kernel)) rfl, x_wt (tb 1115 (by decide +kernel)) rfl, by decide +kernel, by decide +kernel, by decide +kernel⟩
theorem lk_X7_210 : x_lnk RX7 210 M_X7_isAt 2 := ⟨Or.inl (x_wt (tb 1116 (by decide +kernel)) rfl), x_wt (tb 8 (by decide +kernel)) rfl, x_wt (tb 1119 (by decide +kernel)) rfl, by decide +kernel, by decide +kernel, by decide +kernel⟩
theorem lk_X7_213 : x_lnk RX7 213 M_X7_mayShut 2 := ⟨Or.inl (x_wt (tb 1109 (by decide +kernel)) rfl), x_wt (tb 8 (by decide +kernel)) rfl, x_wt (tb 1112 (by decide +kernel)) rfl, by decide +kernel, by decide +kernel, by decide +kernel⟩
theorem lk_X7_94 : x_lnk RX7 94 M_X7_weightOf 1 := ⟨Or.inl (x_wt (tb 1097 (by decide +kernel)) rfl), x_wt (tb 8 (by decide +kernel)) rfl, x_wt (tb 1100 (by decide +kernel)) rfl, by decide +kernel, by decide +kernel, by decide +kernel⟩
theorem lk_X7_97 : x_lnk RX7 97 M_X7_isSomebodyIn 1 := ⟨Or.inl (x_wt (tb 1101 (by decide +kernel)) rfl), x_wt (tb 8 (by decide +kernel)) rfl, x_wt (tb 1104 (by decide +kernel)) rfl, by decide +kernel, by decide +kernel, by decide +kernel⟩
theorem lk_X7_100 : x_lnk RX7 100 M_X7_shuttable 0 := ⟨Or.inl (x_wt (tb 1105 (by decide +kernel)) rfl), x_wt (tb 8 (by decide +kernel)) rfl, x_wt (tb 1108 (by decide +kernel)) rfl, by decide +kernel, by decide +kernel, by decide +kernel⟩
theorem lk_X7_104 : x_lnk RX7 104 M_X7_isRoom 1 := ⟨Or.inl (x_wt (tb 1124 (by decide +kernel)) rfl), x_wt (tb 8 (by decide +kernel)) rfl, x_wt (tb 1126 (by decide +kernel)) rfl, by decide +kernel, by decide +kernel, by decide +kernel⟩
theorem fp_X7_108 : x_fldP RX7 108 7 11 .int false := ⟨RX7, TX7, 40, tyX7, cl_X7, by decide, rfl, rfl, rfl, (fun q => by cases q), Or.inl (x_wt (tb 937 (by decide +kernel)) rfl)⟩
theorem fp_X7_61 : x_fldP RX7 61 7 9 .int false := ⟨RX7, TX7, 40, tyX7, cl_X7, by decide, rfl, rfl, rfl, (fun q => by cases q), Or.inl (x_wt (tb 935 (by decide +kernel)) rfl)⟩
theorem fp_X7_68 : x_fldP RX7 68 7 12 .int false := ⟨RX7, TX7, 40, tyX7, cl_X7, by decide, rfl, rfl, rfl, (fun q => by cases q), Or.inl (x_wt (tb 938 (by decide +kernel)) rfl)⟩
theorem fl_X7_45 : x_fld RX7 45 7 14 := ⟨RX7, TX7, 40, rfl, by decide, iw_X7, Or.inl (x_wt (tb 940 (by decide +kernel)) rfl)⟩
theorem fl_X7_113 : x_fld RX7 113 7 15 := ⟨RX7, TX7, 40, rfl, by decide, iw_X7, Or.inl (x_wt (tb 941 (by decide +kernel)) rfl)⟩
theorem fp_X7_113 : x_fldP RX7 113 7 15 .int false := ⟨RX7, TX7, 40, tyX7, cl_X7, by decide, rfl, rfl, rfl, (fun q => by cases q), Or.inl (x_wt (tb 941 (by decide +kernel)) rfl)⟩
theorem lk_X7_120 : x_lnk RX7 120 M_X7_isOne 1 := ⟨Or.inl (x_wt (tb 1144 (by decide +kernel)) rfl), x_wt (tb 8 (by decide +kernel)) rfl, x_wt (tb 1147 (by decide +kernel)) rfl, by decide +kernel, by decide +kernel, by decide +kernel⟩
theorem fl_X7_123 : x_fld RX7 123 7 7 := ⟨RX7, TX7, 40, rfl, by decide, iw_X7, Or.inl (x_wt (tb 933 (by decide +kernel)) rfl)⟩
theorem fl_X7_31 : x_fld RX7 31 7 6 := ⟨RX7, TX7, 40, rfl, by decide, iw_X7, Or.inl (x_wt (tb 932 (by decide +kernel)) rfl)⟩
theorem fp_X7_123 : x_fldP RX7 123 7 7 .int false := ⟨RX7, TX7, 40, tyX7, cl_X7, by decide, rfl, rfl, rfl, (fun q => by cases q), Or.inl (x_wt (tb 933 (by decide +kernel)) rfl)⟩
theorem fl_X7_126 : x_fld RX7 126 7 20 := ⟨RX7, TX7, 40, rfl, by decide, iw_X7, Or.inl (x_wt (tb 946 (by decide +kernel)) rfl)⟩
theorem fp_X7_126 : x_fldP RX7 126 7 20 .int false := ⟨RX7, TX7, 40, tyX7, cl_X7, by decide, rfl, rfl, rfl, (fun q => by cases q), Or.inl (x_wt (tb 946 (by decide +kernel)) rfl)⟩
theorem fp_X7_129 : x_fldP RX7 129 7 22 .int false := ⟨RX7, TX7, 40, tyX7, cl_X7, by decide, rfl, rfl, rfl, (fun q => by cases q), Or.inl (x_wt (tb 948 (by decide +kernel)) rfl)⟩
theorem fp_X7_132 : x_fldP RX7 132 7 23 .int false := ⟨RX7, TX7, 40, tyX7, cl_X7, by decide, rfl, rfl, rfl, (fun q => by cases q), Or.inl (x_wt (tb 949 (by decide +kernel)) rfl)⟩
theorem fp_X7_135 : x_fldP RX7 135 7 21 .int false := ⟨RX7, TX7, 40, tyX7, cl_X7, by decide, rfl, rfl, rfl, (fun q => by cases q), Or.inl (x_wt (tb 947 (by decide +kernel)) rfl)⟩
theorem lk_X7_138 : x_lnk RX7 138 M_X7_isLetter 1 := ⟨Or.inl (x_wt (tb 1178 (by decide +kernel)) rfl), x_wt (tb 8 (by decide +kernel)) rfl, x_wt (tb 1180 (by decide +kernel)) rfl, by decide +kernel, by decide +kernel, by decide +kernel⟩
theorem lk_X7_141 : x_lnk RX7 141 M_X7_isDigit 1 := ⟨Or.inl (x_wt (tb 1181 (by decide +kernel)) rfl), x_wt (tb 8 (by decide +kernel)) rfl, x_wt (tb 1183 (by decide +kernel)) rfl, by decide +kernel, by decide +kernel, by decide +kernel⟩
theorem fl_X7_129 : x_fld RX7 129 7 22 := ⟨RX7, TX7, 40, rfl, by decide, iw_X7, Or.inl (x_wt (tb 948 (by decide +kernel)) rfl)⟩
theorem fl_X7_132 : x_fld RX7 132 7 23 := ⟨RX7, TX7, 40, rfl, by decide, iw_X7, Or.inl (x_wt (tb 949 (by decide +kernel)) rfl)⟩
theorem fp_X7_145 : x_fldP RX7 145 7 24 .int false := ⟨RX7, TX7, 40, tyX7, cl_X7, by decide, rfl, rfl, rfl, (fun q => by cases q), Or.inl (x_wt (tb 950 (by decide +kernel)) rfl)⟩
theorem fl_X7_135 : x_fld RX7 135 7 21 := ⟨RX7, TX7, 40, rfl, by decide, iw_X7, Or.inl (x_wt (tb 947 (by decide +kernel)) rfl)⟩
theorem lk_X7_157 : x_lnk RX7 157 M_X7_wrong 0 := ⟨Or.inl (x_wt (tb 1204 (by decide +kernel)) rfl), x_wt (tb 8 (by decide +kernel)) rfl, x_wt (tb 1207 (by decide +kernel)) rfl, by decide +kernel, by decide +kernel, by decide +kernel⟩
theorem fl_X7_52 : x_fld RX7 52 7 25 := ⟨RX7, TX7, 40, rfl, by decide, iw_X7, Or.inl (x_wt (tb 951 (by decide +kernel)) rfl)⟩
theorem lk_X7_161 : x_lnk RX7 161 M_X7_look 0 := ⟨Or.inl (x_wt (tb 1174 (by decide +kernel)) rfl), x_wt (tb 8 (by decide +kernel)) rfl, x_wt (tb 1177 (by decide +kernel)) rfl, by decide +kernel, by decide +kernel, by decide +kernel⟩
theorem lk_X7_164 : x_lnk RX7 164 M_X7_isWord 1 := ⟨Or.inl (x_wt (tb 1190 (by decide +kernel)) rfl), x_wt (tb 8 (by decide +kernel)) rfl, x_wt (tb 1193 (by decide +kernel)) rfl, by decide +kernel, by decide +kernel, by decide +kernel⟩
theorem lk_X7_168 : x_lnk RX7 168 M_X7_number 3 := ⟨Or.inl (x_wt (tb 1208 (by decide +kernel)) rfl), x_wt (tb 8 (by decide +kernel)) rfl, x_wt (tb 1211 (by decide +kernel)) rfl, by decide +kernel, by decide +kernel, by decide +kernel⟩
theorem lk_X7_173 : x_lnk RX7 173 M_X7_tells 4 := ⟨Or.inl (x_wt (tb 1200 (by decide +kernel)) rfl), x_wt (tb 8 (by decide +kernel)) rfl, x_wt (tb 1203 (by decide +kernel)) rfl, by decide +kernel, by decide +kernel, by decide +kernel⟩
theorem lk_X7_177 : x_lnk RX7 177 M_X7_door 3 := ⟨Or.inl (x_wt (tb 1212 (by decide +kernel)) rfl), x_wt (tb 8 (by decide +kernel)) rfl, x_wt (tb 1123 (by decide +kernel)) rfl, by decide +kernel, by decide +kernel, by decide +kernel⟩
theorem lk_X7_182 : x_lnk RX7 182 M_X7_doorTold 0 := ⟨Or.inl (x_wt (tb 1196 (by decide +kernel)) rfl), x_wt (tb 8 (by decide +kernel)) rfl, x_wt (tb 1199 (by decide +kernel)) rfl, by decide +kernel, by decide +kernel, by decide +kernel⟩
theorem lk_X7_187 : x_lnk RX7 187 M_X7_one 1 := ⟨Or.inl (x_wt (tb 1215 (by decide +kernel)) rfl), x_wt (tb 8 (by decide +kernel)) rfl, x_wt (tb 1130 (by decide +kernel)) rfl, by decide +kernel, by decide +kernel, by decide +kernel⟩
theorem fp_X7_193 : x_fldP RX7 193 7 26 .int false := ⟨RX7, TX7, 40, tyX7, cl_X7, by decide, rfl, rfl, rfl, (fun q => by cases q), Or.inl (x_wt (tb 952 (by decide +kernel)) rfl)⟩
theorem lk_X7_196 : x_lnk RX7 196 M_X7_statement 0 := ⟨Or.inl (x_wt (tb 1185 (by decide +kernel)) rfl), x_wt (tb 8 (by decide +kernel)) rfl, x_wt (tb 1188 (by decide +kernel)) rfl, by decide +kernel, by decide +kernel, by decide +kernel⟩
theorem fl_X7_193 : x_fld RX7 193 7 26 := ⟨RX7, TX7, 40, rfl, by decide, iw_X7, Or.inl (x_wt (tb 952 (by decide +kernel)) rfl)⟩
theorem fl_X7_246 : x_fld RX7 246 7 16 := ⟨RX7, TX7, 40, rfl, by decide, iw_X7, Or.inl (x_wt (tb 942 (by decide +kernel)) rfl)⟩
theorem fp_X7_246 : x_fldP RX7 246 7 16 .int false := ⟨RX7, TX7, 40, tyX7, cl_X7, by decide, rfl, rfl, rfl, (fun q => by cases q), Or.inl (x_wt (tb 942 (by decide +kernel)) rfl)⟩
theorem fl_X7_49 : x_fld RX7 49 7 17 := ⟨RX7, TX7, 40, rfl, by decide, iw_X7, Or.inl (x_wt (tb 943 (by decide +kernel)) rfl)⟩
theorem fl_X7_339 : x_fld RX7 339 7 19 := ⟨RX7, TX7, 40, rfl, by decide, iw_X7, Or.inl (x_wt (tb 945 (by decide +kernel)) rfl)⟩
theorem lk_X7_343 : x_lnk RX7 343 M_X7_init 0 := ⟨Or.inl (x_wt (tb 1165 (by decide +kernel)) rfl), x_wt (tb 8 (by decide +kernel)) rfl, x_wt (tb 920 (by decide +kernel)) rfl, by decide +kernel, by decide +kernel, by decide +kernel⟩
theorem fp_X7_339 : x_fldP RX7 339 7 19 (.object "WhoOpensOneModel") false := ⟨RX7, TX7, 40, tyX7, cl_X7, by decide, rfl, rfl, rfl, (fun q => by cases q), Or.inl (x_wt (tb 945 (by decide +kernel)) rfl)⟩
theorem lk_X7_206 : x_lnk RX7 206 M_X7_takeFrom 1 := ⟨Or.inl (x_wt (tb 1166 (by decide +kernel)) rfl), x_wt (tb 8 (by decide +kernel)) rfl, x_wt (tb 1169 (by decide +kernel)) rfl, by decide +kernel, by decide +kernel, by decide +kernel⟩
theorem lk_X7_199 : x_lnk RX7 199 M_X7_fresh 0 := ⟨Or.inl (x_wt (tb 1160 (by decide +kernel)) rfl), x_wt (tb 8 (by decide +kernel)) rfl, x_wt (tb 1163 (by decide +kernel)) rfl, by decide +kernel, by decide +kernel, by decide +kernel⟩
theorem lk_X7_203 : x_lnk RX7 203 M_X7_readAll 0 := ⟨Or.inl (x_wt (tb 1170 (by decide +kernel)) rfl), x_wt (tb 8 (by decide +kernel)) rfl, x_wt (tb 1173 (by decide +kernel)) rfl, by decide +kernel, by decide +kernel, by decide +kernel⟩
theorem fl_X7_145 : x_fld RX7 145 7 24 := ⟨RX7, TX7, 40, rfl, by decide, iw_X7, Or.inl (x_wt (tb 950 (by decide +kernel)) rfl)⟩
theorem lk_X7_216 : x_lnk RX7 216 M_X7_weightsOf 1 := ⟨Or.inl (x_wt (tb 1248 (by decide +kernel)) rfl), x_wt (tb 8 (by decide +kernel)) rfl, x_wt (tb 1251 (by decide +kernel)) rfl, by decide +kernel, by decide +kernel, by decide +kernel⟩
theorem lk_X7_219 : x_lnk RX7 219 M_X7_canOpen 2 := ⟨Or.inl (x_wt (tb 1240 (by decide +kernel)) rfl), x_wt (tb 8 (by decide +kernel)) rfl, x_wt (tb 1243 (by decide +kernel)) rfl, by decide +kernel, by decide +kernel, by decide +kernel⟩
theorem lk_X7_222 : x_lnk RX7 222 M_X7_isEnough 1 := ⟨Or.inl (x_wt (tb 1244 (by decide +kernel)) rfl), x_wt (tb 8 (by decide +kernel)) rfl, x_wt (tb 1247 (by decide +kernel)) rfl, by decide +kernel, by decide +kernel, by decide +kernel⟩
theorem lk_X7_227 : x_lnk RX7 227 M_X7_waysOf 3 := ⟨Or.inl (x_wt (tb 1236 (by decide +kernel)) rfl), x_wt (tb 8 (by decide +kernel)) rfl, x_wt (tb 1239 (by decide +kernel)) rfl, by decide +kernel, by decide +kernel, by decide +kernel⟩
theorem lk_X7_230 : x_lnk RX7 230 M_X7_mayWalk 2 := ⟨Or.inl (x_wt (tb 1252 (by decide +kernel)) rfl), x_wt (tb 8 (by decide +kernel)) rfl, x_wt (tb 1255 (by decide +kernel)) rfl, by decide +kernel, by decide +kernel, by decide +kernel⟩
theorem lk_X7_233 : x_lnk RX7 233 M_X7_isSet 1 := ⟨Or.inl (x_wt (tb 1260 (by decide +kernel)) rfl), x_wt (tb 8 (by decide +kernel)) rfl, x_wt (tb 1263 (by decide +kernel)) rfl, by decide +kernel, by decide +kernel, by decide +kernel⟩
theorem lk_X7_236 : x_lnk RX7 236 M_X7_mayOpenBy 3 := ⟨Or.inl (x_wt (tb 1264 (by decide +kernel)) rfl), x_wt (tb 8 (by decide +kernel)) rfl, x_wt (tb 1267 (by decide +kernel)) rfl, by decide +kernel, by decide +kernel, by decide +kernel⟩
theorem lk_X7_239 : x_lnk RX7 239 M_X7_beyond 2 := ⟨Or.inl (x_wt (tb 1276 (by decide +kernel)) rfl), x_wt (tb 8 (by decide +kernel)) rfl, x_wt (tb 1279 (by decide +kernel)) rfl, by decide +kernel, by decide +kernel, by decide +kernel⟩
theorem lk_X7_243 : x_lnk RX7 243 M_X7_stockNow 0 := ⟨Or.inl (x_wt (tb 1284 (by decide +kernel)) rfl), x_wt (tb 8 (by decide +kernel)) rfl, x_wt (tb 1287 (by decide +kernel)) rfl, by decide +kernel, by decide +kernel, by decide +kernel⟩
theorem lk_X7_249 : x_lnk RX7 249 M_X7_opens 2 := ⟨Or.inl (x_wt (tb 1292 (by decide +kernel)) rfl), x_wt (tb 8 (by decide +kernel)) rfl, x_wt (tb 1295 (by decide +kernel)) rfl, by decide +kernel, by decide +kernel, by decide +kernel⟩
theorem lk_X7_253 : x_lnk RX7 253 M_X7_reachOf 1 := ⟨Or.inl (x_wt (tb 1300 (by decide +kernel)) rfl), x_wt (tb 8 (by decide +kernel)) rfl, x_wt (tb 1303 (by decide +kernel)) rfl, by decide +kernel, by decide +kernel, by decide +kernel⟩
theorem fl_X7_256 : x_fld RX7 256 7 30 := ⟨RX7, TX7, 40, rfl, by decide, iw_X7, Or.inl (x_wt (tb 956 (by decide +kernel)) rfl)⟩
theorem fl_X7_55 : x_fld RX7 55 7 29 := ⟨RX7, TX7, 40, rfl, by decide, iw_X7, Or.inl (x_wt (tb 955 (by decide +kernel)) rfl)⟩
theorem fl_X7_259 : x_fld RX7 259 7 27 := ⟨RX7, TX7, 40, rfl, by decide, iw_X7, Or.inl (x_wt (tb 953 (by decide +kernel)) rfl)⟩
theorem fl_X7_262 : x_fld RX7 262 7 28 := ⟨RX7, TX7, 40, rfl, by decide, iw_X7, Or.inl (x_wt (tb 954 (by decide +kernel)) rfl)⟩
theorem lk_X7_265 : x_lnk RX7 265 M_X7_stateOf 3 := ⟨Or.inl (x_wt (tb 1320 (by decide +kernel)) rfl), x_wt (tb 8 (by decide +kernel)) rfl, x_wt (tb 1323 (by decide +kernel)) rfl, by decide +kernel, by decide +kernel, by decide +kernel⟩
theorem lk_X7_268 : x_lnk RX7 268 M_X7_comes 3 := ⟨Or.inl (x_wt (tb 1324 (by decide +kernel)) rfl), x_wt (tb 8 (by decide +kernel)) rfl, x_wt (tb 1327 (by decide +kernel)) rfl, by decide +kernel, by decide +kernel, by decide +kernel⟩
theorem fl_X7_271 : x_fld RX7 271 7 32 := ⟨RX7, TX7, 40, rfl, by decide, iw_X7, Or.inl (x_wt (tb 958 (by decide +kernel)) rfl)⟩
theorem fl_X7_58 : x_fld RX7 58 7 31 := ⟨RX7, TX7, 40, rfl, by decide, iw_X7, Or.inl (x_wt (tb 957 (by decide +kernel)) rfl)⟩
theorem fp_X7_259 : x_fldP RX7 259 7 27 (.array .int) false := ⟨RX7, TX7, 40, tyX7, cl_X7, by decide, rfl, rfl, rfl, (fun q => by cases q), Or.inl (x_wt (tb 953 (by decide +kernel)) rfl)⟩
theorem fp_X7_262 : x_fldP RX7 262 7 28 (.array .int) false := ⟨RX7, TX7, 40, tyX7, cl_X7, by decide, rfl, rfl, rfl, (fun q => by cases q), Or.inl (x_wt (tb 954 (by decide +kernel)) rfl)⟩
theorem fp_X7_271 : x_fldP RX7 271 7 32 .int false := ⟨RX7, TX7, 40, tyX7, cl_X7, by decide, rfl, rfl, rfl, (fun q => by cases q), Or.inl (x_wt (tb 958 (by decide +kernel)) rfl)⟩
theorem lk_X7_274 : x_lnk RX7 274 M_X7_walksOn 1 := ⟨Or.inl (x_wt (tb 1328 (by decide +kernel)) rfl), x_wt (tb 8 (by decide +kernel)) rfl, x_wt (tb 1331 (by decide +kernel)) rfl, by decide +kernel, by decide +kernel, by decide +kernel⟩
theorem lk_X7_278 : x_lnk RX7 278 M_X7_opensOn 2 := ⟨Or.inl (x_wt (tb 1332 (by decide +kernel)) rfl), x_wt (tb 8 (by decide +kernel)) rfl, x_wt (tb 1335 (by decide +kernel)) rfl, by decide +kernel, by decide +kernel, by decide +kernel⟩
theorem fp_X7_281 : x_fldP RX7 281 7 33 .int false := ⟨RX7, TX7, 40, tyX7, cl_X7, by decide, rfl, rfl, rfl, (fun q => by cases q), Or.inl (x_wt (tb 959 (by decide +kernel)) rfl)⟩
theorem fl_X7_281 : x_fld RX7 281 7 33 := ⟨RX7, TX7, 40, rfl, by decide, iw_X7, Or.inl (x_wt (tb 959 (by decide +kernel)) rfl)⟩
theorem fp_X7_256 : x_fldP RX7 256 7 30 .int false := ⟨RX7, TX7, 40, tyX7, cl_X7, by decide, rfl, rfl, rfl, (fun q => by cases q), Or.inl (x_wt (tb 956 (by decide +kernel)) rfl)⟩
theorem lk_X7_284 : x_lnk RX7 284 M_X7_findComing 1 := ⟨Or.inl (x_wt (tb 1316 (by decide +kernel)) rfl), x_wt (tb 8 (by decide +kernel)) rfl, x_wt (tb 1319 (by decide +kernel)) rfl, by decide +kernel, by decide +kernel, by decide +kernel⟩
theorem lk_X7_287 : x_lnk RX7 287 M_X7_fewest 0 := ⟨Or.inl (x_wt (tb 1336 (by decide +kernel)) rfl), x_wt (tb 8 (by decide +kernel)) rfl, x_wt (tb 1339 (by decide +kernel)) rfl, by decide +kernel, by decide +kernel, by decide +kernel⟩
theorem lk_X7_290 : x_lnk RX7 290 M_X7_comingTo 2 := ⟨Or.inl (x_wt (tb 1312 (by decide +kernel)) rfl), x_wt (tb 8 (by decide +kernel)) rfl, x_wt (tb 1315 (by decide +kernel)) rfl, by decide +kernel, by decide +kernel, by decide +kernel⟩
theorem lk_X7_293 : x_lnk RX7 293 M_X7_noTold 3 := ⟨Or.inl (x_wt (tb 1352 (by decide +kernel)) rfl), x_wt (tb 8 (by decide +kernel)) rfl, x_wt (tb 1355 (by decide +kernel)) rfl, by decide +kernel, by decide +kernel, by decide +kernel⟩
theorem fl_X7_296 : x_fld RX7 296 7 37 := ⟨RX7, TX7, 40, rfl, by decide, iw_X7, Or.inl (x_wt (tb 963 (by decide +kernel)) rfl)⟩
theorem fl_X7_299 : x_fld RX7 299 7 38 := ⟨RX7, TX7, 40, rfl, by decide, iw_X7, Or.inl (x_wt (tb 964 (by decide +kernel)) rfl)⟩
theorem fl_X7_302 : x_fld RX7 302 7 39 := ⟨RX7, TX7, 40, rfl, by decide, iw_X7, Or.inl (x_wt (tb 965 (by decide +kernel)) rfl)⟩
theorem fl_X7_309 : x_fld RX7 309 7 36 := ⟨RX7, TX7, 40, rfl, by decide, iw_X7, Or.inl (x_wt (tb 962 (by decide +kernel)) rfl)⟩
theorem fl_X7_312 : x_fld RX7 312 7 35 := ⟨RX7, TX7, 40, rfl, by decide, iw_X7, Or.inl (x_wt (tb 961 (by decide +kernel)) rfl)⟩
theorem lk_X7_315 : x_lnk RX7 315 M_X7_placeOf 4 := ⟨Or.inl (x_wt (tb 1376 (by decide +kernel)) rfl), x_wt (tb 8 (by decide +kernel)) rfl, x_wt (tb 1379 (by decide +kernel)) rfl, by decide +kernel, by decide +kernel, by decide +kernel⟩
theorem lk_X7_305 : x_lnk RX7 305 M_X7_opensBeside 6 := ⟨Or.inl (x_wt (tb 1384 (by decide +kernel)) rfl), x_wt (tb 8 (by decide +kernel)) rfl, x_wt (tb 1387 (by decide +kernel)) rfl, by decide +kernel, by decide +kernel, by decide +kernel⟩
theorem fl_X7_319 : x_fld RX7 319 7 34 := ⟨RX7, TX7, 40, rfl, by decide, iw_X7, Or.inl (x_wt (tb 960 (by decide +kernel)) rfl)⟩
theorem lk_X7_322 : x_lnk RX7 322 M_X7_mostOf 5 := ⟨Or.inl (x_wt (tb 1380 (by decide +kernel)) rfl), x_wt (tb 8 (by decide +kernel)) rfl, x_wt (tb 1383 (by decide +kernel)) rfl, by decide +kernel, by decide +kernel, by decide +kernel⟩
theorem fp_X7_312 : x_fldP RX7 312 7 35 (.array .int) false := ⟨RX7, TX7, 40, tyX7, cl_X7, by decide, rfl, rfl, rfl, (fun q => by cases q), Or.inl (x_wt (tb 961 (by decide +kernel)) rfl)⟩
theorem fp_X7_319 : x_fldP RX7 319 7 34 (.array .int) false := ⟨RX7, TX7, 40, tyX7, cl_X7, by decide, rfl, rfl, rfl, (fun q => by cases q), Or.inl (x_wt (tb 960 (by decide +kernel)) rfl)⟩
theorem fp_X7_309 : x_fldP RX7 309 7 36 .int false := ⟨RX7, TX7, 40, tyX7, cl_X7, by decide, rfl, rfl, rfl, (fun q => by cases q), Or.inl (x_wt (tb 962 (by decide +kernel)) rfl)⟩
theorem fp_X7_296 : x_fldP RX7 296 7 37 .int false := ⟨RX7, TX7, 40, tyX7, cl_X7, by decide, rfl, rfl, rfl, (fun q => by cases q), Or.inl (x_wt (tb 963 (by decide +kernel)) rfl)⟩
theorem fp_X7_299 : x_fldP RX7 299 7 38 .int false := ⟨RX7, TX7, 40, tyX7, cl_X7, by decide, rfl, rfl, rfl, (fun q => by cases q), Or.inl (x_wt (tb 964 (by decide +kernel)) rfl)⟩
theorem fp_X7_302 : x_fldP RX7 302 7 39 .int false := ⟨RX7, TX7, 40, tyX7, cl_X7, by decide, rfl, rfl, rfl, (fun q => by cases q), Or.inl (x_wt (tb 965 (by decide +kernel)) rfl)⟩
theorem lk_X7_326 : x_lnk RX7 326 M_X7_turnsOn 2 := ⟨Or.inl (x_wt (tb 1372 (by decide +kernel)) rfl), x_wt (tb 8 (by decide +kernel)) rfl, x_wt (tb 1375 (by decide +kernel)) rfl, by decide +kernel, by decide +kernel, by decide +kernel⟩
theorem lk_X7_330 : x_lnk RX7 330 M_X7_lastsBy 2 := ⟨Or.inl (x_wt (tb 1368 (by decide +kernel)) rfl), x_wt (tb 8 (by decide +kernel)) rfl, x_wt (tb 1371 (by decide +kernel)) rfl, by decide +kernel, by decide +kernel, by decide +kernel⟩
theorem lk_X7_334 : x_lnk RX7 334 M_X7_worthOf 1 := ⟨Or.inl (x_wt (tb 1393 (by decide +kernel)) rfl), x_wt (tb 8 (by decide +kernel)) rfl, x_wt (tb 1396 (by decide +kernel)) rfl, by decide +kernel, by decide +kernel, by decide +kernel⟩
theorem lk_X7_350 : x_lnk RX7 350 M_X7_does 1 := ⟨Or.inl (x_wt (tb 1418 (by decide +kernel)) rfl), x_wt (tb 8 (by decide +kernel)) rfl, x_wt (tb 1421 (by decide +kernel)) rfl, by decide +kernel, by decide +kernel, by decide +kernel⟩
theorem lk_X7_353 : x_lnk RX7 353 M_X7_goThrough 2 := ⟨Or.inl (x_wt (tb 1414 (by decide +kernel)) rfl), x_wt (tb 8 (by decide +kernel)) rfl, x_wt (tb 1417 (by decide +kernel)) rfl, by decide +kernel, by decide +kernel, by decide +kernel⟩
theorem lk_X7_358 : x_lnk RX7 358 M_X7_shutIn 0 := ⟨Or.inl (x_wt (tb 1430 (by decide +kernel)) rfl), x_wt (tb 8 (by decide +kernel)) rfl, x_wt (tb 1307 (by decide +kernel)) rfl, by decide +kernel, by decide +kernel, by decide +kernel⟩
theorem lk_X7_364 : x_lnk RX7 364 M_X7_draw 1 := ⟨Or.inl (x_wt (tb 1436 (by decide +kernel)) rfl), x_wt (tb 8 (by decide +kernel)) rfl, x_wt (tb 1439 (by decide +kernel)) rfl, by decide +kernel, by decide +kernel, by decide +kernel⟩
theorem fl_X7_367 : x_fld RX7 367 7 18 := ⟨RX7, TX7, 40, rfl, by decide, iw_X7, Or.inl (x_wt (tb 944 (by decide +kernel)) rfl)⟩
theorem fp_X7_367 : x_fldP RX7 367 7 18 (.object "WhoOpensOneModel") false := ⟨RX7, TX7, 40, tyX7, cl_X7, by decide, rfl, rfl, rfl, (fun q => by cases q), Or.inl (x_wt (tb 944 (by decide +kernel)) rfl)⟩
theorem lk_L_9 : x_lnk RL 9 M_X6_init 0 := ⟨Or.inl (x_wt (tb 18 (by decide +kernel)) rfl), x_wt (tb 1 (by decide +kernel)) rfl, x_wt (tb 20 (by decide +kernel)) rfl, by decide +kernel, by decide +kernel, by decide +kernel⟩
theorem lk_L_12 : x_lnk RL 12 M_X7_init 0 := ⟨Or.inl (x_wt (tb 918 (by decide +kernel)) rfl), x_wt (tb 8 (by decide +kernel)) rfl, x_wt (tb 920 (by decide +kernel)) rfl, by decide +kernel, by decide +kernel, by decide +kernel⟩
theorem lk_L_13 : x_lnk RL 13 M_X6_row 3 := ⟨Or.inl (x_wt (tb 283 (by decide +kernel)) rfl), x_wt (tb 1 (by decide +kernel)) rfl, x_wt (tb 286 (by decide +kernel)) rfl, by decide +kernel, by decide +kernel, by decide +kernel⟩
theorem lk_L_17 : x_lnk RL 17 M_X7_row 3 := ⟨Or.inl (x_wt (tb 1047 (by decide +kernel)) rfl), x_wt (tb 8 (by decide +kernel)) rfl, x_wt (tb 1050 (by decide +kernel)) rfl, by decide +kernel, by decide +kernel, by decide +kernel⟩
theorem lk_L_20 : x_lnk RL 20 M_X6_set 3 := ⟨Or.inl (x_wt (tb 298 (by decide +kernel)) rfl), x_wt (tb 1 (by decide +kernel)) rfl, x_wt (tb 301 (by decide +kernel)) rfl, by decide +kernel, by decide +kernel, by decide +kernel⟩
theorem lk_L_24 : x_lnk RL 24 M_X7_set 3 := ⟨Or.inl (x_wt (tb 1061 (by decide +kernel)) rfl), x_wt (tb 8 (by decide +kernel)) rfl, x_wt (tb 1064 (by decide +kernel)) rfl, by decide +kernel, by decide +kernel, by decide +kernel⟩
theorem lk_L_25 : x_lnk RL 25 M_X6_copy 5 := ⟨Or.inl (x_wt (tb 325 (by decide +kernel)) rfl), x_wt (tb 1 (by decide +kernel)) rfl, x_wt (tb 328 (by decide +kernel)) rfl, by decide +kernel, by decide +kernel, by decide +kernel⟩
theorem lk_L_29 : x_lnk RL 29 M_X7_copy 5 := ⟨Or.inl (x_wt (tb 1072 (by decide +kernel)) rfl), x_wt (tb 8 (by decide +kernel)) rfl, x_wt (tb 1075 (by decide +kernel)) rfl, by decide +kernel, by decide +kernel, by decide +kernel⟩
theorem lk_L_30 : x_lnk RL 30 M_X6_element 2 := ⟨Or.inl (x_wt (tb 336 (by decide +kernel)) rfl), x_wt (tb 1 (by decide +kernel)) rfl, x_wt (tb 339 (by decide +kernel)) rfl, by decide +kernel, by decide +kernel, by decide +kernel⟩
theorem lk_L_34 : x_lnk RL 34 M_X7_element 2 := ⟨Or.inl (x_wt (tb 1076 (by decide +kernel)) rfl), x_wt (tb 8 (by decide +kernel)) rfl, x_wt (tb 1079 (by decide +kernel)) rfl, by decide +kernel, by decide +kernel, by decide +kernel⟩
theorem lk_L_35 : x_lnk RL 35 M_X6_holds 1 := ⟨Or.inl (x_wt (tb 340 (by decide +kernel)) rfl), x_wt (tb 1 (by decide +kernel)) rfl, x_wt (tb 343 (by decide +kernel)) rfl, by decide +kernel, by decide +kernel, by decide +kernel⟩
theorem lk_L_39 : x_lnk RL 39 M_X7_holds 1 := ⟨Or.inl (x_wt (tb 1080 (by decide +kernel)) rfl), x_wt (tb 8 (by decide +kernel)) rfl, x_wt (tb 1083 (by decide +kernel)) rfl, by decide +kernel, by decide +kernel, by decide +kernel⟩
theorem lk_L_40 : x_lnk RL 40 M_X6_show 2 := ⟨Or.inl (x_wt (tb 344 (by decide +kernel)) rfl), x_wt (tb 1 (by decide +kernel)) rfl, x_wt (tb 347 (by decide +kernel)) rfl, by decide +kernel, by decide +kernel, by decide +kernel⟩
theorem lk_L_44 : x_lnk RL 44 M_X7_show 2 := ⟨Or.inl (x_wt (tb 1084 (by decide +kernel)) rfl), x_wt (tb 8 (by decide +kernel)) rfl, x_wt (tb 1087 (by decide +kernel)) rfl, by decide +kernel, by decide +kernel, by decide +kernel⟩
theorem lk_L_45 : x_lnk RL 45 M_X6_says 2 := ⟨Or.inl (x_wt (tb 360 (by decide +kernel)) rfl), x_wt (tb 1 (by decide +kernel)) rfl, x_wt (tb 363 (by decide +kernel)) rfl, by decide +kernel, by decide +kernel, by decide +kernel⟩
theorem lk_L_48 : x_lnk RL 48 M_X7_says 2 := ⟨Or.inl (x_wt (tb 1092 (by decide +kernel)) rfl), x_wt (tb 8 (by decide +kernel)) rfl, x_wt (tb 1095 (by decide +kernel)) rfl, by decide +kernel, by decide +kernel, by decide +kernel⟩
theorem lk_L_49 : x_lnk RL 49 M_X6_door 3 := ⟨Or.inl (x_wt (tb 407 (by decide +kernel)) rfl), x_wt (tb 1 (by decide +kernel)) rfl, x_wt (tb 410 (by decide +kernel)) rfl, by decide +kernel, by decide +kernel, by decide +kernel⟩
theorem lk_L_52 : x_lnk RL 52 M_X7_door 3 := ⟨Or.inl (x_wt (tb 1120 (by decide +kernel)) rfl), x_wt (tb 8 (by decide +kernel)) rfl, x_wt (tb 1123 (by decide +kernel)) rfl, by decide +kernel, by decide +kernel, by decide +kernel⟩
theorem lk_L_53 : x_lnk RL 53 M_X6_one 1 := ⟨Or.inl (x_wt (tb 418 (by decide +kernel)) rfl), x_wt (tb 1 (by decide +kernel)) rfl, x_wt (tb 421 (by decide +kernel)) rfl, by decide +kernel, by decide +kernel, by decide +kernel⟩
theorem lk_L_56 : x_lnk RL 56 M_X7_one 1 := ⟨Or.inl (x_wt (tb 1127 (by decide +kernel)) rfl), x_wt (tb 8 (by decide +kernel)) rfl, x_wt (tb 1130 (by decide +kernel)) rfl, by decide +kernel, by decide +kernel, by decide +kernel⟩
theorem lk_L_57 : x_lnk RL 57 M_X6_ask 2 := ⟨Or.inl (x_wt (tb 426 (by decide +kernel)) rfl), x_wt (tb 1 (by decide +kernel)) rfl, x_wt (tb 429 (by decide +kernel)) rfl, by decide +kernel, by decide +kernel, by decide +kernel⟩
theorem lk_L_60 : x_lnk RL 60 M_X7_ask 2 := ⟨Or.inl (x_wt (tb 1131 (by decide +kernel)) rfl), x_wt (tb 8 (by decide +kernel)) rfl, x_wt (tb 1134 (by decide +kernel)) rfl, by decide +kernel, by decide +kernel, by decide +kernel⟩
theorem lk_L_61 : x_lnk RL 61 M_X6_stand 2 := ⟨Or.inl (x_wt (tb 430 (by decide +kernel)) rfl), x_wt (tb 1 (by decide +kernel)) rfl, x_wt (tb 433 (by decide +kernel)) rfl, by decide +kernel, by decide +kernel, by decide +kernel⟩
theorem lk_L_65 : x_lnk RL 65 M_X7_stand 2 := ⟨Or.inl (x_wt (tb 1136 (by decide +kernel)) rfl), x_wt (tb 8 (by decide +kernel)) rfl, x_wt (tb 1139 (by decide +kernel)) rfl, by decide +kernel, by decide +kernel, by decide +kernel⟩
theorem lk_L_66 : x_lnk RL 66 M_X6_move 2 := ⟨Or.inl (x_wt (tb 435 (by decide +kernel)) rfl), x_wt (tb 1 (by decide +kernel)) rfl, x_wt (tb 438 (by decide +kernel)) rfl, by decide +kernel, by decide +kernel, by decide +kernel⟩
theorem lk_L_69 : x_lnk RL 69 M_X7_move 2 := ⟨Or.inl (x_wt (tb 1140 (by decide +kernel)) rfl), x_wt (tb 8 (by decide +kernel)) rfl, x_wt (tb 1143 (by decide +kernel)) rfl, by decide +kernel, by decide +kernel, by decide +kernel⟩
theorem lk_L_70 : x_lnk RL 70 M_X6_feed 2 := ⟨Or.inl (x_wt (tb 443 (by decide +kernel)) rfl), x_wt (tb 1 (by decide +kernel)) rfl, x_wt (tb 446 (by decide +kernel)) rfl, by decide +kernel, by decide +kernel, by decide +kernel⟩
theorem lk_L_73 : x_lnk RL 73 M_X7_feed 2 := ⟨Or.inl (x_wt (tb 1148 (by decide +kernel)) rfl), x_wt (tb 8 (by decide +kernel)) rfl, x_wt (tb 1151 (by decide +kernel)) rfl, by decide +kernel, by decide +kernel, by decide +kernel⟩
theorem lk_L_74 : x_lnk RL 74 M_X6_wipe 0 := ⟨Or.inl (x_wt (tb 451 (by decide +kernel)) rfl), x_wt (tb 1 (by decide +kernel)) rfl, x_wt (tb 454 (by decide +kernel)) rfl, by decide +kernel, by decide +kernel, by decide +kernel⟩
theorem lk_L_78 : x_lnk RL 78 M_X7_wipe 0 := ⟨Or.inl (x_wt (tb 1152 (by decide +kernel)) rfl), x_wt (tb 8 (by decide +kernel)) rfl, x_wt (tb 1155 (by decide +kernel)) rfl, by decide +kernel, by decide +kernel, by decide +kernel⟩
theorem lk_L_79 : x_lnk RL 79 M_X6_house 0 := ⟨Or.inl (x_wt (tb 455 (by decide +kernel)) rfl), x_wt (tb 1 (by decide +kernel)) rfl, x_wt (tb 458 (by decide +kernel)) rfl, by decide +kernel, by decide +kernel, by decide +kernel⟩
theorem lk_L_82 : x_lnk RL 82 M_X7_house 0 := ⟨Or.inl (x_wt (tb 1156 (by decide +kernel)) rfl), x_wt (tb 8 (by decide +kernel)) rfl, x_wt (tb 1159 (by decide +kernel)) rfl, by decide +kernel, by decide +kernel, by decide +kernel⟩
theorem lk_L_83 : x_lnk RL 83 M_X6_doorOf 2 := ⟨Or.inl (x_wt (tb 565 (by decide +kernel)) rfl), x_wt (tb 1 (by decide +kernel)) rfl, x_wt (tb 568 (by decide +kernel)) rfl, by decide +kernel, by decide +kernel, by decide +kernel⟩
theorem lk_L_86 : x_lnk RL 86 M_X7_doorOf 2 := ⟨Or.inl (x_wt (tb 1219 (by decide +kernel)) rfl), x_wt (tb 8 (by decide +kernel)) rfl, x_wt (tb 1222 (by decide +kernel)) rfl, by decide +kernel, by decide +kernel, by decide +kernel⟩
theorem lk_L_87 : x_lnk RL 87 M_X6_where 1 := ⟨Or.inl (x_wt (tb 569 (by decide +kernel)) rfl), x_wt (tb 1 (by decide +kernel)) rfl, x_wt (tb 572 (by decide +kernel)) rfl, by decide +kernel, by decide +kernel, by decide +kernel⟩
theorem lk_L_90 : x_lnk RL 90 M_X7_where 1 := ⟨Or.inl (x_wt (tb 1223 (by decide +kernel)) rfl), x_wt (tb 8 (by decide +kernel)) rfl, x_wt (tb 1226 (by decide +kernel)) rfl, by decide +kernel, by decide +kernel, by decide +kernel⟩
theorem lk_L_91 : x_lnk RL 91 M_X6_doors 2 := ⟨Or.inl (x_wt (tb 573 (by decide +kernel)) rfl), x_wt (tb 1 (by decide +kernel)) rfl, x_wt (tb 576 (by decide +kernel)) rfl, by decide +kernel, by decide +kernel, by decide +kernel⟩
theorem lk_L_94 : x_lnk RL 94 M_X7_doors 2 := ⟨Or.inl (x_wt (tb 1227 (by decide +kernel)) rfl), x_wt (tb 8 (by decide +kernel)) rfl, x_wt (tb 1230 (by decide +kernel)) rfl, by decide +kernel, by decide +kernel, by decide +kernel⟩
theorem lk_L_95 : x_lnk RL 95 M_X6_may 3 := ⟨Or.inl (x_wt (tb 581 (by decide +kernel)) rfl), x_wt (tb 1 (by decide +kernel)) rfl, x_wt (tb 584 (by decide +kernel)) rfl, by decide +kernel, by decide +kernel, by decide +kernel⟩
theorem lk_L_98 : x_lnk RL 98 M_X7_may 3 := ⟨Or.inl (x_wt (tb 1232 (by decide +kernel)) rfl), x_wt (tb 8 (by decide +kernel)) rfl, x_wt (tb 1235 (by decide +kernel)) rfl, by decide +kernel, by decide +kernel, by decide +kernel⟩
theorem lk_L_99 : x_lnk RL 99 M_X6_by 3 := ⟨Or.inl (x_wt (tb 611 (by decide +kernel)) rfl), x_wt (tb 1 (by decide +kernel)) rfl, x_wt (tb 614 (by decide +kernel)) rfl, by decide +kernel, by decide +kernel, by decide +kernel⟩
theorem lk_L_102 : x_lnk RL 102 M_X7_by 3 := ⟨Or.inl (x_wt (tb 1256 (by decide +kernel)) rfl), x_wt (tb 8 (by decide +kernel)) rfl, x_wt (tb 1259 (by decide +kernel)) rfl, by decide +kernel, by decide +kernel, by decide +kernel⟩
theorem lk_L_103 : x_lnk RL 103 M_X6_ways 3 := ⟨Or.inl (x_wt (tb 627 (by decide +kernel)) rfl), x_wt (tb 1 (by decide +kernel)) rfl, x_wt (tb 630 (by decide +kernel)) rfl, by decide +kernel, by decide +kernel, by decide +kernel⟩
theorem lk_L_106 : x_lnk RL 106 M_X7_ways 3 := ⟨Or.inl (x_wt (tb 1268 (by decide +kernel)) rfl), x_wt (tb 8 (by decide +kernel)) rfl, x_wt (tb 1271 (by decide +kernel)) rfl, by decide +kernel, by decide +kernel, by decide +kernel⟩
theorem lk_L_107 : x_lnk RL 107 M_X6_walk 2 := ⟨Or.inl (x_wt (tb 644 (by decide +kernel)) rfl), x_wt (tb 1 (by decide +kernel)) rfl, x_wt (tb 647 (by decide +kernel)) rfl, by decide +kernel, by decide +kernel, by decide +kernel⟩
theorem lk_L_110 : x_lnk RL 110 M_X7_walk 2 := ⟨Or.inl (x_wt (tb 1272 (by decide +kernel)) rfl), x_wt (tb 8 (by decide +kernel)) rfl, x_wt (tb 1275 (by decide +kernel)) rfl, by decide +kernel, by decide +kernel, by decide +kernel⟩
theorem lk_L_111 : x_lnk RL 111 M_X6_shut 2 := ⟨Or.inl (x_wt (tb 652 (by decide +kernel)) rfl), x_wt (tb 1 (by decide +kernel)) rfl, x_wt (tb 655 (by decide +kernel)) rfl, by decide +kernel, by decide +kernel, by decide +kernel⟩
theorem lk_L_114 : x_lnk RL 114 M_X7_shut 2 := ⟨Or.inl (x_wt (tb 1280 (by decide +kernel)) rfl), x_wt (tb 8 (by decide +kernel)) rfl, x_wt (tb 1283 (by decide +kernel)) rfl, by decide +kernel, by decide +kernel, by decide +kernel⟩
theorem lk_L_115 : x_lnk RL 115 M_X6_open 3 := ⟨Or.inl (x_wt (tb 660 (by decide +kernel)) rfl), x_wt (tb 1 (by decide +kernel)) rfl, x_wt (tb 663 (by decide +kernel)) rfl, by decide +kernel, by decide +kernel, by decide +kernel⟩
theorem lk_L_118 : x_lnk RL 118 M_X7_open 3 := ⟨Or.inl (x_wt (tb 1288 (by decide +kernel)) rfl), x_wt (tb 8 (by decide +kernel)) rfl, x_wt (tb 1291 (by decide +kernel)) rfl, by decide +kernel, by decide +kernel, by decide +kernel⟩
theorem lk_L_119 : x_lnk RL 119 M_X6_reach 1 := ⟨Or.inl (x_wt (tb 668 (by decide +kernel)) rfl), x_wt (tb 1 (by decide +kernel)) rfl, x_wt (tb 671 (by decide +kernel)) rfl, by decide +kernel, by decide +kernel, by decide +kernel⟩
theorem lk_L_122 : x_lnk RL 122 M_X7_reach 1 := ⟨Or.inl (x_wt (tb 1296 (by decide +kernel)) rfl), x_wt (tb 8 (by decide +kernel)) rfl, x_wt (tb 1299 (by decide +kernel)) rfl, by decide +kernel, by decide +kernel, by decide +kernel⟩
theorem lk_L_123 : x_lnk RL 123 M_X6_shutIn 0 := ⟨Or.inl (x_wt (tb 676 (by decide +kernel)) rfl), x_wt (tb 1 (by decide +kernel)) rfl, x_wt (tb 679 (by decide +kernel)) rfl, by decide +kernel, by decide +kernel, by decide +kernel⟩
theorem lk_L_126 : x_lnk RL 126 M_X7_shutIn 0 := ⟨Or.inl (x_wt (tb 1304 (by decide +kernel)) rfl), x_wt (tb 8 (by decide +kernel)) rfl, x_wt (tb 1307 (by decide +kernel)) rfl, by decide +kernel, by decide +kernel, by decide +kernel⟩
theorem lk_L_127 : x_lnk RL 127 M_X6_coming 2 := ⟨Or.inl (x_wt (tb 685 (by decide +kernel)) rfl), x_wt (tb 1 (by decide +kernel)) rfl, x_wt (tb 688 (by decide +kernel)) rfl, by decide +kernel, by decide +kernel, by decide +kernel⟩
theorem lk_L_130 : x_lnk RL 130 M_X7_coming 2 := ⟨Or.inl (x_wt (tb 1308 (by decide +kernel)) rfl), x_wt (tb 8 (by decide +kernel)) rfl, x_wt (tb 1311 (by decide +kernel)) rfl, by decide +kernel, by decide +kernel, by decide +kernel⟩
theorem lk_L_131 : x_lnk RL 131 M_X6_all 1 := ⟨Or.inl (x_wt (tb 763 (by decide +kernel)) rfl), x_wt (tb 1 (by decide +kernel)) rfl, x_wt (tb 766 (by decide +kernel)) rfl, by decide +kernel, by decide +kernel, by decide +kernel⟩
theorem lk_L_134 : x_lnk RL 134 M_X7_all 1 := ⟨Or.inl (x_wt (tb 1340 (by decide +kernel)) rfl), x_wt (tb 8 (by decide +kernel)) rfl, x_wt (tb 1343 (by decide +kernel)) rfl, by decide +kernel, by decide +kernel, by decide +kernel⟩
theorem lk_L_135 : x_lnk RL 135 M_X6_first 2 := ⟨Or.inl (x_wt (tb 773 (by decide +kernel)) rfl), x_wt (tb 1 (by decide +kernel)) rfl, x_wt (tb 776 (by decide +kernel)) rfl, by decide +kernel, by decide +kernel, by decide +kernel⟩
theorem lk_L_138 : x_lnk RL 138 M_X7_first 2 := ⟨Or.inl (x_wt (tb 1344 (by decide +kernel)) rfl), x_wt (tb 8 (by decide +kernel)) rfl, x_wt (tb 1347 (by decide +kernel)) rfl, by decide +kernel, by decide +kernel, by decide +kernel⟩
theorem lk_L_139 : x_lnk RL 139 M_X6_errands 3 := ⟨Or.inl (x_wt (tb 781 (by decide +kernel)) rfl), x_wt (tb 1 (by decide +kernel)) rfl, x_wt (tb 784 (by decide +kernel)) rfl, by decide +kernel, by decide +kernel, by decide +kernel⟩
theorem lk_L_142 : x_lnk RL 142 M_X7_errands 3 := ⟨Or.inl (x_wt (tb 1348 (by decide +kernel)) rfl), x_wt (tb 8 (by decide +kernel)) rfl, x_wt (tb 1351 (by decide +kernel)) rfl, by decide +kernel, by decide +kernel, by decide +kernel⟩
theorem lk_L_143 : x_lnk RL 143 M_X6_lost 0 := ⟨Or.inl (x_wt (tb 786 (by decide +kernel)) rfl), x_wt (tb 1 (by decide +kernel)) rfl, x_wt (tb 789 (by decide +kernel)) rfl, by decide +kernel, by decide +kernel, by decide +kernel⟩
theorem lk_L_146 : x_lnk RL 146 M_X7_lost 0 := ⟨Or.inl (x_wt (tb 1356 (by decide +kernel)) rfl), x_wt (tb 8 (by decide +kernel)) rfl, x_wt (tb 1359 (by decide +kernel)) rfl, by decide +kernel, by decide +kernel, by decide +kernel⟩
theorem lk_L_147 : x_lnk RL 147 M_X6_stock 0 := ⟨Or.inl (x_wt (tb 790 (by decide +kernel)) rfl), x_wt (tb 1 (by decide +kernel)) rfl, x_wt (tb 793 (by decide +kernel)) rfl, by decide +kernel, by decide +kernel, by decide +kernel⟩
theorem lk_L_150 : x_lnk RL 150 M_X7_stock 0 := ⟨Or.inl (x_wt (tb 1360 (by decide +kernel)) rfl), x_wt (tb 8 (by decide +kernel)) rfl, x_wt (tb 1363 (by decide +kernel)) rfl, by decide +kernel, by decide +kernel, by decide +kernel⟩
theorem lk_L_151 : x_lnk RL 151 M_X6_lasts 0 := ⟨Or.inl (x_wt (tb 794 (by decide +kernel)) rfl), x_wt (tb 1 (by decide +kernel)) rfl, x_wt (tb 797 (by decide +kernel)) rfl, by decide +kernel, by decide +kernel, by decide +kernel⟩
theorem lk_L_154 : x_lnk RL 154 M_X7_lasts 0 := ⟨Or.inl (x_wt (tb 1364 (by decide +kernel)) rfl), x_wt (tb 8 (by decide +kernel)) rfl, x_wt (tb 1367 (by decide +kernel)) rfl, by decide +kernel, by decide +kernel, by decide +kernel⟩
theorem lk_L_155 : x_lnk RL 155 M_X6_worth 1 := ⟨Or.inl (x_wt (tb 829 (by decide +kernel)) rfl), x_wt (tb 1 (by decide +kernel)) rfl, x_wt (tb 832 (by decide +kernel)) rfl, by decide +kernel, by decide +kernel, by decide +kernel⟩
theorem lk_L_158 : x_lnk RL 158 M_X7_worth 1 := ⟨Or.inl (x_wt (tb 1388 (by decide +kernel)) rfl), x_wt (tb 8 (by decide +kernel)) rfl, x_wt (tb 1391 (by decide +kernel)) rfl, by decide +kernel, by decide +kernel, by decide +kernel⟩
theorem lk_L_159 : x_lnk RL 159 M_X6_spare 0 := ⟨Or.inl (x_wt (tb 834 (by decide +kernel)) rfl), x_wt (tb 1 (by decide +kernel)) rfl, x_wt (tb 837 (by decide +kernel)) rfl, by decide +kernel, by decide +kernel, by decide +kernel⟩
theorem lk_L_162 : x_lnk RL 162 M_X7_spare 0 := ⟨Or.inl (x_wt (tb 1397 (by decide +kernel)) rfl), x_wt (tb 8 (by decide +kernel)) rfl, x_wt (tb 1400 (by decide +kernel)) rfl, by decide +kernel, by decide +kernel, by decide +kernel⟩
theorem lk_L_163 : x_lnk RL 163 M_X6_endless 0 := ⟨Or.inl (x_wt (tb 838 (by decide +kernel)) rfl), x_wt (tb 1 (by decide +kernel)) rfl, x_wt (tb 841 (by decide +kernel)) rfl, by decide +kernel, by decide +kernel, by decide +kernel⟩
theorem lk_L_166 : x_lnk RL 166 M_X7_endless 0 := ⟨Or.inl (x_wt (tb 1401 (by decide +kernel)) rfl), x_wt (tb 8 (by decide +kernel)) rfl, x_wt (tb 1404 (by decide +kernel)) rfl, by decide +kernel, by decide +kernel, by decide +kernel⟩
theorem lk_L_167 : x_lnk RL 167 M_X6_boxes 1 := ⟨Or.inl (x_wt (tb 842 (by decide +kernel)) rfl), x_wt (tb 1 (by decide +kernel)) rfl, x_wt (tb 845 (by decide +kernel)) rfl, by decide +kernel, by decide +kernel, by decide +kernel⟩
theorem lk_L_170 : x_lnk RL 170 M_X7_boxes 1 := ⟨Or.inl (x_wt (tb 1405 (by decide +kernel)) rfl), x_wt (tb 8 (by decide +kernel)) rfl, x_wt (tb 1408 (by decide +kernel)) rfl, by decide +kernel, by decide +kernel, by decide +kernel⟩
theorem lk_L_171 : x_lnk RL 171 M_X6_judge 2 := ⟨Or.inl (x_wt (tb 846 (by decide +kernel)) rfl), x_wt (tb 1 (by decide +kernel)) rfl, x_wt (tb 849 (by decide +kernel)) rfl, by decide +kernel, by decide +kernel, by decide +kernel⟩
theorem lk_L_174 : x_lnk RL 174 M_X7_judge 2 := ⟨Or.inl (x_wt (tb 1410 (by decide +kernel)) rfl), x_wt (tb 8 (by decide +kernel)) rfl, x_wt (tb 1413 (by decide +kernel)) rfl, by decide +kernel, by decide +kernel, by decide +kernel⟩
theorem lk_L_175 : x_lnk RL 175 M_X6_told 3 := ⟨Or.inl (x_wt (tb 869 (by decide +kernel)) rfl), x_wt (tb 1 (by decide +kernel)) rfl, x_wt (tb 872 (by decide +kernel)) rfl, by decide +kernel, by decide +kernel, by decide +kernel⟩
theorem lk_L_178 : x_lnk RL 178 M_X7_told 3 := ⟨Or.inl (x_wt (tb 1425 (by decide +kernel)) rfl), x_wt (tb 8 (by decide +kernel)) rfl, x_wt (tb 1428 (by decide +kernel)) rfl, by decide +kernel, by decide +kernel, by decide +kernel⟩
theorem lk_L_179 : x_lnk RL 179 M_X6_evening 1 := ⟨Or.inl (x_wt (tb 873 (by decide +kernel)) rfl), x_wt (tb 1 (by decide +kernel)) rfl, x_wt (tb 876 (by decide +kernel)) rfl, by decide +kernel, by decide +kernel, by decide +kernel⟩
theorem lk_L_182 : x_lnk RL 182 M_X7_evening 1 := ⟨Or.inl (x_wt (tb 1431 (by decide +kernel)) rfl), x_wt (tb 8 (by decide +kernel)) rfl, x_wt (tb 1434 (by decide +kernel)) rfl, by decide +kernel, by decide +kernel, by decide +kernel⟩
theorem lk_L_183 : x_lnk RL 183 M_X6_night 0 := ⟨Or.inl (x_wt (tb 887 (by decide +kernel)) rfl), x_wt (tb 1 (by decide +kernel)) rfl, x_wt (tb 890 (by decide +kernel)) rfl, by decide +kernel, by decide +kernel, by decide +kernel⟩
theorem lk_L_186 : x_lnk RL 186 M_X7_night 0 := ⟨Or.inl (x_wt (tb 1441 (by decide +kernel)) rfl), x_wt (tb 8 (by decide +kernel)) rfl, x_wt (tb 1444 (by decide +kernel)) rfl, by decide +kernel, by decide +kernel, by decide +kernel⟩
theorem lk_L_187 : x_lnk RL 187 M_X6_seed 1 := ⟨Or.inl (x_wt (tb 895 (by decide +kernel)) rfl), x_wt (tb 1 (by decide +kernel)) rfl, x_wt (tb 898 (by decide +kernel)) rfl, by decide +kernel, by decide +kernel, by decide +kernel⟩
theorem lk_L_190 : x_lnk RL 190 M_X7_seed 1 := ⟨Or.inl (x_wt (tb 1445 (by decide +kernel)) rfl), x_wt (tb 8 (by decide +kernel)) rfl, x_wt (tb 1448 (by decide +kernel)) rfl, by decide +kernel, by decide +kernel, by decide +kernel⟩
theorem lk_L_191 : x_lnk RL 191 M_X6_image 0 := ⟨Or.inl (x_wt (tb 899 (by decide +kernel)) rfl), x_wt (tb 1 (by decide +kernel)) rfl, x_wt (tb 902 (by decide +kernel)) rfl, by decide +kernel, by decide +kernel, by decide +kernel⟩
theorem lk_L_194 : x_lnk RL 194 M_X7_image 0 := ⟨Or.inl (x_wt (tb 1449 (by decide +kernel)) rfl), x_wt (tb 8 (by decide +kernel)) rfl, x_wt (tb 1452 (by decide +kernel)) rfl, by decide +kernel, by decide +kernel, by decide +kernel⟩
theorem lk_L_195 : x_lnk RL 195 M_X6_back 0 := ⟨Or.inl (x_wt (tb 903 (by decide +kernel)) rfl), x_wt (tb 1 (by decide +kernel)) rfl, x_wt (tb 906 (by decide +kernel)) rfl, by decide +kernel, by decide +kernel, by decide +kernel⟩
theorem lk_L_198 : x_lnk RL 198 M_X7_back 0 := ⟨Or.inl (x_wt (tb 1453 (by decide +kernel)) rfl), x_wt (tb 8 (by decide +kernel)) rfl, x_wt (tb 1456 (by decide +kernel)) rfl, by decide +kernel, by decide +kernel, by decide +kernel⟩
theorem lk_L_199 : x_lnk RL 199 M_X6_status 1 := ⟨Or.inl (x_wt (tb 907 (by decide +kernel)) rfl), x_wt (tb 1 (by decide +kernel)) rfl, x_wt (tb 910 (by decide +kernel)) rfl, by decide +kernel, by decide +kernel, by decide +kernel⟩
theorem lk_L_202 : x_lnk RL 202 M_X7_status 1 := ⟨Or.inl (x_wt (tb 1457 (by decide +kernel)) rfl), x_wt (tb 8 (by decide +kernel)) rfl, x_wt (tb 1460 (by decide +kernel)) rfl, by decide +kernel, by decide +kernel, by decide +kernel⟩
