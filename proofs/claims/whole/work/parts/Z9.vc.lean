theorem x_pure_holds : x_pure := by
  intro S hS
  obtain ⟨hz, cc, ss, e, h1, h2⟩ := lw_loop (S := S) (n := 700000 + 9) hS (by decide) 512 0 (700000 + 9) hS0 D00 (fun _ => 0) A00 (by omega) (by decide) (by decide) jj0 ⟨by decide, by decide⟩
  have k1 : cc ≤ 171940 := Nat.le_trans (Nat.le_add_left _ _) h1
  have k2 : ss ≤ 227378 := Nat.le_trans (Nat.le_add_left _ _) h2
  refine ⟨700000 + 9, hz, 1 + (47 + (1 + (35 + (cc + 0)))), 9 + (2312 + (40 + (1237 + (ss + 0)))), ?_, by omega, by omega⟩
  have e6 := x6_init (k := 700000)
  have e7 := x7_init (h := h48)
  unfold nul7 at e7
  unfold f_L_law
  rw [show f_X6_init (700000 + 9) (([] : xH) ++ [.inr (6, [.null, .null, .null, .int 0, .null, .null, .null, .null, .null])]) (([] : xH).length + 16) = some (h48, 47, 2312) from e6, Option.bind_some]
  dsimp only
  rw [Option.bind_some, e7, Option.bind_some]
  dsimp only
  rw [Option.bind_some, show f_L_law_L18 S (700000 + 9) (([] : xH).length + 16) (h48.length + 16) (700000 + 9) 0 (h48 ++ new7 (h48.length + 16)) = some (.inr hz, cc, ss) from e, Option.bind_some]
  rfl
theorem i_vc : Claimed_1_1 ∧ Claimed_1_2 := ⟨lw_limb x_pure_holds limb_1_1 (fun args s t => by simp [limb_1_1, Cond.after, Cond.holds, Cond.value]), lw_limb x_pure_holds limb_1_2 (fun args s t => Cond.after_iff.mpr (by
  first | (rw [show limb_1_2 = Cond.eq .result (.int 1) from rfl, Cond.eq_ints (x := 1) (y := 1) rfl rfl]; simp; done) | (simp [limb_1_2, Cond.value, Term.eval]; done)))⟩
