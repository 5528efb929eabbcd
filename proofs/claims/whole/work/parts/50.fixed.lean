/-! The law's start: what is fixed, out of what the Statement gives. -/
theorem x_str1 {args : Array Value} {s : State} {A : Nat → Prop} {own tx : String} {idx : Nat} {bs : List Int32} (hl : bs.length < 2 ^ 31) (h1 : (Cond.exactly (.string own idx) "java/lang/String").before args s = true) (h2 : (Cond.eq (.field (.string own idx) "java/lang/String" "coder" "B") (.int 0)).before args s = true) (h3 : (Cond.arrayOf (.field (.string own idx) "java/lang/String" "value" "[B") .byte).before args s = true)
    (h4 : (Cond.eq (.length (.field (.string own idx) "java/lang/String" "value" "[B")) (.int (Int32.ofNat bs.length))).before args s = true) (h5 : ∀ j : Nat, j < bs.length → (Cond.eq (.elem (.field (.string own idx) "java/lang/String" "value" "[B") (.int (Int32.ofNat j))) (.int (bs.getD j 0))).before args s = true) (h6 : (Cond.stringRef own idx tx).before args s = true) (hA : ∀ a : Nat, a < s.heap.size → ¬ A a) :
    ∃ q t : Nat, vk_R own idx tx q s ∧ va_O "java/lang/String" q A s s.heap ∧ va_OF "java/lang/String" "coder" "B" (.int 0) q A s s.heap ∧ va_OF "java/lang/String" "value" "[B" (.ref t) q A s s.heap ∧ va_T .byte t bs.length (fun j => .int (bs.getD j 0)) A s s.heap := by
  obtain ⟨aK, aV, hS, he⟩ := vk_Sof (args := args) (s := s) (N := 1) (tm := fun _ => .string own idx) (len := [bs.length]) (byt := [bs]) (A := A) (fun i hi => by rw [show i = 0 by omega]; exact hl) (fun i hi => h1) (fun i hi => h2) (fun i hi => h3) (fun i hi => by rw [show i = 0 by omega]; exact h4) (fun i hi => by rw [show i = 0 by omega]; exact h5) (fun i j hi hj hij => absurd (show i = j by omega) hij) hA
  obtain ⟨g1, g2, g3, g4⟩ := hS.1 0 (by omega)
  exact ⟨aK 0, aV 0, vk_R.of h6 (he 0 (by omega)), g1, g2, g3, g4⟩
set_option maxRecDepth 100000 in
set_option maxHeartbeats 4000000 in
theorem x_fixed {s : State} {b L : Nat} {xs : Nat → Int32} (hts : ∀ w ∈ lw_tbl, w.before #[Value.ref b] s = true) (hX : va_X b L xs s s.heap) (hbl : b < s.heap.size) (hgv : (Jvm.Cond.and given_1 narrow_1).before #[Value.ref b] s = true) : ∃ σ : Nat → Nat, σ 0 = b ∧ x_FS s.heap.size σ L xs s s.heap := by
  have hs := flat_of_before _ hgv
  have hA : ∀ a : Nat, a < s.heap.size → ¬ (fun q => s.heap.size ≤ q) a := fun a h => Nat.not_le.mpr h
  have lenW : (Term.length (.static "WhoOpensOne" "WEIGHTS" "[I")).eval #[Value.ref b] s none [] s = some (.int (Int32.ofNat 6)) := va_eqt (hs _ (by decide +kernel))
  have elW : ∀ j : Nat, j < 6 → (Term.elem (.static "WhoOpensOne" "WEIGHTS" "[I") (.int (Int32.ofNat j))).eval #[Value.ref b] s none [] s = some (.int (x_tW j)) := by
    intro j hj
    rcases (show j = 0 ∨ j = 1 ∨ j = 2 ∨ j = 3 ∨ j = 4 ∨ j = 5 by omega) with rfl | rfl | rfl | rfl | rfl | rfl
    · exact va_eqt (hs _ (by decide +kernel))
    · exact va_eqt (hs _ (by decide +kernel))
    · exact va_eqt (hs _ (by decide +kernel))
    · exact va_eqt (hs _ (by decide +kernel))
    · exact va_eqt (hs _ (by decide +kernel))
    · exact va_eqt (hs _ (by decide +kernel))
  obtain ⟨tW, evW, TW⟩ := va_Tof (ty := .int) (f := fun j => .int (x_tW j)) (A := fun q => s.heap.size ≤ q) (by decide) (hs (.arrayOf (.static "WhoOpensOne" "WEIGHTS" "[I") .int) (by decide +kernel)) lenW elW hA
  have ZW := va_Zof (A := fun q => s.heap.size ≤ q) (hts (.laysStatic "WhoOpensOne" "WEIGHTS" "[I") (tb 368 (by decide +kernel))) (hts (.initialized "WhoOpensOne") (tb 1 (by decide +kernel))) evW hA
  have lenU : (Term.length (.static "WhoOpensOne" "UNDER" "[I")).eval #[Value.ref b] s none [] s = some (.int (Int32.ofNat 6)) := va_eqt (hs _ (by decide +kernel))
  have elU : ∀ j : Nat, j < 6 → (Term.elem (.static "WhoOpensOne" "UNDER" "[I") (.int (Int32.ofNat j))).eval #[Value.ref b] s none [] s = some (.int (x_tU j)) := by
    intro j hj
    rcases (show j = 0 ∨ j = 1 ∨ j = 2 ∨ j = 3 ∨ j = 4 ∨ j = 5 by omega) with rfl | rfl | rfl | rfl | rfl | rfl
    · exact va_eqt (hs _ (by decide +kernel))
    · exact va_eqt (hs _ (by decide +kernel))
    · exact va_eqt (hs _ (by decide +kernel))
    · exact va_eqt (hs _ (by decide +kernel))
    · exact va_eqt (hs _ (by decide +kernel))
    · exact va_eqt (hs _ (by decide +kernel))
  obtain ⟨tU, evU, TU⟩ := va_Tof (ty := .int) (f := fun j => .int (x_tU j)) (A := fun q => s.heap.size ≤ q) (by decide) (hs (.arrayOf (.static "WhoOpensOne" "UNDER" "[I") .int) (by decide +kernel)) lenU elU hA
  have ZU := va_Zof (A := fun q => s.heap.size ≤ q) (hts (.laysStatic "WhoOpensOne" "UNDER" "[I") (tb 377 (by decide +kernel))) (hts (.initialized "WhoOpensOne") (tb 1 (by decide +kernel))) evU hA
  obtain ⟨q0, t0, S0⟩ := x_str1 (args := #[Value.ref b]) (s := s) (A := fun q => s.heap.size ≤ q) (own := "WhoOpensOne$Tape") (idx := 49) (tx := "door") (bs := [100, 111, 111, 114]) (by decide) (hs _ (by decide +kernel)) (hs _ (by decide +kernel)) (hs _ (by decide +kernel)) (hs _ (by decide +kernel)) (fun j hj => by
    rcases (show j = 0 ∨ j = 1 ∨ j = 2 ∨ j = 3 by simp at hj; omega) with rfl | rfl | rfl | rfl
    all_goals exact hs _ (by decide +kernel)) (hts _ (tb 479 (by decide +kernel))) hA
  obtain ⟨q1, t1, S1⟩ := x_str1 (args := #[Value.ref b]) (s := s) (A := fun q => s.heap.size ≤ q) (own := "WhoOpensOne$Tape") (idx := 63) (tx := "one") (bs := [111, 110, 101]) (by decide) (hs _ (by decide +kernel)) (hs _ (by decide +kernel)) (hs _ (by decide +kernel)) (hs _ (by decide +kernel)) (fun j hj => by
    rcases (show j = 0 ∨ j = 1 ∨ j = 2 by simp at hj; omega) with rfl | rfl | rfl
    all_goals exact hs _ (by decide +kernel)) (hts _ (tb 543 (by decide +kernel))) hA
  obtain ⟨q2, t2, S2⟩ := x_str1 (args := #[Value.ref b]) (s := s) (A := fun q => s.heap.size ≤ q) (own := "WhoOpensOne$Tape") (idx := 71) (tx := "law") (bs := [108, 97, 119]) (by decide) (hs _ (by decide +kernel)) (hs _ (by decide +kernel)) (hs _ (by decide +kernel)) (hs _ (by decide +kernel)) (fun j hj => by
    rcases (show j = 0 ∨ j = 1 ∨ j = 2 by simp at hj; omega) with rfl | rfl | rfl
    all_goals exact hs _ (by decide +kernel)) (hts _ (tb 549 (by decide +kernel))) hA
  obtain ⟨q3, t3, S3⟩ := x_str1 (args := #[Value.ref b]) (s := s) (A := fun q => s.heap.size ≤ q) (own := "WhoOpensOne$Tape") (idx := 76) (tx := "wind") (bs := [119, 105, 110, 100]) (by decide) (hs _ (by decide +kernel)) (hs _ (by decide +kernel)) (hs _ (by decide +kernel)) (hs _ (by decide +kernel)) (fun j hj => by
    rcases (show j = 0 ∨ j = 1 ∨ j = 2 ∨ j = 3 by simp at hj; omega) with rfl | rfl | rfl | rfl
    all_goals exact hs _ (by decide +kernel)) (hts _ (tb 554 (by decide +kernel))) hA
  obtain ⟨q4, t4, S4⟩ := x_str1 (args := #[Value.ref b]) (s := s) (A := fun q => s.heap.size ≤ q) (own := "WhoOpensOne$Tape") (idx := 81) (tx := "moves") (bs := [109, 111, 118, 101, 115]) (by decide) (hs _ (by decide +kernel)) (hs _ (by decide +kernel)) (hs _ (by decide +kernel)) (hs _ (by decide +kernel)) (fun j hj => by
    rcases (show j = 0 ∨ j = 1 ∨ j = 2 ∨ j = 3 ∨ j = 4 by simp at hj; omega) with rfl | rfl | rfl | rfl | rfl
    all_goals exact hs _ (by decide +kernel)) (hts _ (tb 559 (by decide +kernel))) hA
  obtain ⟨q5, t5, S5⟩ := x_str1 (args := #[Value.ref b]) (s := s) (A := fun q => s.heap.size ≤ q) (own := "WhoOpensOne$Tape") (idx := 96) (tx := "open") (bs := [111, 112, 101, 110]) (by decide) (hs _ (by decide +kernel)) (hs _ (by decide +kernel)) (hs _ (by decide +kernel)) (hs _ (by decide +kernel)) (fun j hj => by
    rcases (show j = 0 ∨ j = 1 ∨ j = 2 ∨ j = 3 by simp at hj; omega) with rfl | rfl | rfl | rfl
    all_goals exact hs _ (by decide +kernel)) (hts _ (tb 542 (by decide +kernel))) hA
  obtain ⟨q6, t6, S6⟩ := x_str1 (args := #[Value.ref b]) (s := s) (A := fun q => s.heap.size ≤ q) (own := "WhoOpensOneModel") (idx := 172) (tx := "door") (bs := [100, 111, 111, 114]) (by decide) (hs _ (by decide +kernel)) (hs _ (by decide +kernel)) (hs _ (by decide +kernel)) (hs _ (by decide +kernel)) (fun j hj => by
    rcases (show j = 0 ∨ j = 1 ∨ j = 2 ∨ j = 3 by simp at hj; omega) with rfl | rfl | rfl | rfl
    all_goals exact hs _ (by decide +kernel)) (hts _ (tb 1189 (by decide +kernel))) hA
  obtain ⟨q7, t7, S7⟩ := x_str1 (args := #[Value.ref b]) (s := s) (A := fun q => s.heap.size ≤ q) (own := "WhoOpensOneModel") (idx := 185) (tx := "one") (bs := [111, 110, 101]) (by decide) (hs _ (by decide +kernel)) (hs _ (by decide +kernel)) (hs _ (by decide +kernel)) (hs _ (by decide +kernel)) (fun j hj => by
    rcases (show j = 0 ∨ j = 1 ∨ j = 2 by simp at hj; omega) with rfl | rfl | rfl
    all_goals exact hs _ (by decide +kernel)) (hts _ (tb 1214 (by decide +kernel))) hA
  obtain ⟨q8, t8, S8⟩ := x_str1 (args := #[Value.ref b]) (s := s) (A := fun q => s.heap.size ≤ q) (own := "WhoOpensOneModel") (idx := 189) (tx := "law") (bs := [108, 97, 119]) (by decide) (hs _ (by decide +kernel)) (hs _ (by decide +kernel)) (hs _ (by decide +kernel)) (hs _ (by decide +kernel)) (fun j hj => by
    rcases (show j = 0 ∨ j = 1 ∨ j = 2 by simp at hj; omega) with rfl | rfl | rfl
    all_goals exact hs _ (by decide +kernel)) (hts _ (tb 1216 (by decide +kernel))) hA
  obtain ⟨q9, t9, S9⟩ := x_str1 (args := #[Value.ref b]) (s := s) (A := fun q => s.heap.size ≤ q) (own := "WhoOpensOneModel") (idx := 190) (tx := "wind") (bs := [119, 105, 110, 100]) (by decide) (hs _ (by decide +kernel)) (hs _ (by decide +kernel)) (hs _ (by decide +kernel)) (hs _ (by decide +kernel)) (fun j hj => by
    rcases (show j = 0 ∨ j = 1 ∨ j = 2 ∨ j = 3 by simp at hj; omega) with rfl | rfl | rfl | rfl
    all_goals exact hs _ (by decide +kernel)) (hts _ (tb 1217 (by decide +kernel))) hA
  obtain ⟨q10, t10, S10⟩ := x_str1 (args := #[Value.ref b]) (s := s) (A := fun q => s.heap.size ≤ q) (own := "WhoOpensOneModel") (idx := 191) (tx := "moves") (bs := [109, 111, 118, 101, 115]) (by decide) (hs _ (by decide +kernel)) (hs _ (by decide +kernel)) (hs _ (by decide +kernel)) (hs _ (by decide +kernel)) (fun j hj => by
    rcases (show j = 0 ∨ j = 1 ∨ j = 2 ∨ j = 3 ∨ j = 4 by simp at hj; omega) with rfl | rfl | rfl | rfl | rfl
    all_goals exact hs _ (by decide +kernel)) (hts _ (tb 1218 (by decide +kernel))) hA
  obtain ⟨q11, t11, S11⟩ := x_str1 (args := #[Value.ref b]) (s := s) (A := fun q => s.heap.size ≤ q) (own := "WhoOpensOneModel") (idx := 180) (tx := "open") (bs := [111, 112, 101, 110]) (by decide) (hs _ (by decide +kernel)) (hs _ (by decide +kernel)) (hs _ (by decide +kernel)) (hs _ (by decide +kernel)) (fun j hj => by
    rcases (show j = 0 ∨ j = 1 ∨ j = 2 ∨ j = 3 by simp at hj; omega) with rfl | rfl | rfl | rfl
    all_goals exact hs _ (by decide +kernel)) (hts _ (tb 1213 (by decide +kernel))) hA
  have ZC := va_Zof (A := fun q => s.heap.size ≤ q) (hts (.laysStatic "java/lang/String" "COMPACT_STRINGS" "Z") (tb 493 (by decide +kernel))) (hts (.initialized "java/lang/String") (tb 10 (by decide +kernel))) (va_eqi (z := 1) (hs _ (by decide +kernel))) hA
  have ZF := va_Zqof (A := fun q => s.heap.size ≤ q) (hts (.laysStatic "jdk/internal/util/Preconditions" "SIOOBE_FORMATTER" "Ljava/util/function/BiFunction;") (tb 509 (by decide +kernel))) (hts (.initialized "jdk/internal/util/Preconditions") (tb 12 (by decide +kernel))) (hs _ (by decide +kernel)) hA
  refine ⟨fun j => match j with
    | 0 => b
    | 1 => tW
    | 2 => tU
    | 3 => q0
    | 4 => q1
    | 5 => q2
    | 6 => q3
    | 7 => q4
    | 8 => q5
    | 9 => q6
    | 10 => q7
    | 11 => q8
    | 12 => q9
    | 13 => q10
    | 14 => q11
    | _ => 0, rfl, fun w hw => ?_, ⟨hX, hbl, hbl⟩, ⟨ZW, TW⟩, ⟨ZU, TU⟩, fun i q hq => ?_, ZC, ZF, va_AO.of (hts _ (tb 94 (by decide +kernel))), (show x_AO (.array .int) s from hts (.arrayOver (.array .int)) (tb 925 (by decide +kernel))), (show x_AO (.array .long) s from hts (.arrayOver (.array .long)) (tb 923 (by decide +kernel)))⟩
  · obtain ⟨h1, h2⟩ := List.mem_filter.mp hw
    refine va_Nw.of ?_ (hts w (List.mem_append_right _ h1))
    cases w <;> first | rfl | cases h2
  · match i, hq with
    | 0, hq => cases hq; exact ⟨t0, S0⟩
    | 1, hq => cases hq; exact ⟨t1, S1⟩
    | 2, hq => cases hq; exact ⟨t2, S2⟩
    | 3, hq => cases hq; exact ⟨t3, S3⟩
    | 4, hq => cases hq; exact ⟨t4, S4⟩
    | 5, hq => cases hq; exact ⟨t5, S5⟩
    | 6, hq => cases hq; exact ⟨t6, S6⟩
    | 7, hq => cases hq; exact ⟨t7, S7⟩
    | 8, hq => cases hq; exact ⟨t8, S8⟩
    | 9, hq => cases hq; exact ⟨t9, S9⟩
    | 10, hq => cases hq; exact ⟨t10, S10⟩
    | 11, hq => cases hq; exact ⟨t11, S11⟩
    | i + 12, hq => simp [x_tx] at hq
