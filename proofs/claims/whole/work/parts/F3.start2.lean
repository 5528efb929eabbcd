/-! What holds at the start. -/
def hS0 : xH := h48 ++ new7 64
def D00 : DS := (42, 43, 44, 0, 0, 0, 1)
def A00 : AS := (H00, none, (fun _ => (-1, 0, fun _ => 0)), (fun _ => 0), (0, fun _ => 0))
theorem ok_H00 : HOk H00 := ⟨by decide, by decide, fun j hj => absurd hj (Nat.not_lt_zero _), fun j hj => absurd hj (Nat.not_lt_zero _), ⟨2, by decide, by decide, rfl⟩, ⟨0, by decide, rfl⟩, fun k _ _ => b_0 k⟩
theorem HAt.st0 {h : xH} {b : Nat} (h1 : x_get h b 0 0 = some (.ref (b + 1)) ∧ x_get h b 0 1 = some (.ref (b + 2)) ∧ x_get h b 0 2 = some (.ref (b + 3)) ∧ x_get h b 0 3 = some (.ref (b + 4)) ∧ x_get h b 0 4 = some (.int 0) ∧ x_get h b 0 5 = some (.int 0) ∧ x_get h b 0 6 = some (.int 0) ∧ x_get h b 0 7 = some (.int 2) ∧ x_get h b 0 8 = some (.int 0) ∧ x_get h b 0 9 = some (.int 1) ∧ x_get h b 0 10 = some (.int 0)) (a1 : At h (b + 1) 14 (fun _ => 0)) (a2 : At h (b + 2) 14 (fun _ => 0)) (a3 : At h (b + 3) 14 (fun _ => 0)) (a4 : At h (b + 4) 4 (fun _ => 0)) : HAt h b H00 := by
  obtain ⟨g0, g1, g2, g3, g4, g5, g6, g7, g8, g9, g10⟩ := h1
  refine ⟨fun k hk => ?_, fun _ => 0, fun _ => 0, fun _ => 0, fun _ => 0, a1, a2, a3, a4, fun j hj => absurd hj (Nat.not_lt_zero _), fun j hj => absurd hj (Nat.not_lt_zero _)⟩
  rcases (show k = 0 ∨ k = 1 ∨ k = 2 ∨ k = 3 ∨ k = 4 ∨ k = 5 ∨ k = 6 ∨ k = 7 ∨ k = 8 ∨ k = 9 ∨ k = 10 by omega) with rfl | rfl | rfl | rfl | rfl | rfl | rfl | rfl | rfl | rfl | rfl
  · exact g0
  · exact g1
  · exact g2
  · exact g3
  · exact g4
  · exact g5
  · exact g6
  · exact g7
  · exact g8
  · exact g9
  · exact g10
theorem j8 {P : Nat → Prop} (h0 : P 0) (h1 : P 1) (h2 : P 2) (h3 : P 3) (h4 : P 4) (h5 : P 5) (h6 : P 6) (h7 : P 7) : ∀ j, j < 8 → P j := fun j hj => by
  rcases (show j = 0 ∨ j = 1 ∨ j = 2 ∨ j = 3 ∨ j = 4 ∨ j = 5 ∨ j = 6 ∨ j = 7 by omega) with rfl | rfl | rfl | rfl | rfl | rfl | rfl | rfl <;> assumption
theorem cb0 : CB hS0 A00 := fun k hk => by
  rcases (show k = 0 ∨ k = 1 ∨ k = 2 ∨ k = 3 ∨ k = 4 ∨ k = 5 ∨ k = 6 ∨ k = 7 ∨ k = 8 by omega) with rfl | rfl | rfl | rfl | rfl | rfl | rfl | rfl | rfl <;> rfl
theorem hs17 : HAt hS0 17 H00 := HAt.st0 ⟨rfl, rfl, rfl, rfl, rfl, rfl, rfl, rfl, rfl, rfl, rfl⟩ rfl rfl rfl rfl
theorem hs22 : HAt hS0 22 H00 := HAt.st0 ⟨rfl, rfl, rfl, rfl, rfl, rfl, rfl, rfl, rfl, rfl, rfl⟩ rfl rfl rfl rfl
theorem hs27 : HAt hS0 27 H00 := HAt.st0 ⟨rfl, rfl, rfl, rfl, rfl, rfl, rfl, rfl, rfl, rfl, rfl⟩ rfl rfl rfl rfl
theorem cs0 : CS hS0 (zS A00) := ⟨⟨shQ0, rfl, j8 rfl rfl rfl rfl rfl rfl rfl rfl⟩, j8 ⟨rfl, rfl, rfl, fun _ => 0, rfl, fun z => absurd z sh_m1⟩ ⟨rfl, rfl, rfl, fun _ => 0, rfl, fun z => absurd z sh_m1⟩ ⟨rfl, rfl, rfl, fun _ => 0, rfl, fun z => absurd z sh_m1⟩ ⟨rfl, rfl, rfl, fun _ => 0, rfl, fun z => absurd z sh_m1⟩ ⟨rfl, rfl, rfl, fun _ => 0, rfl, fun z => absurd z sh_m1⟩ ⟨rfl, rfl, rfl, fun _ => 0, rfl, fun z => absurd z sh_m1⟩ ⟨rfl, rfl, rfl, fun _ => 0, rfl, fun z => absurd z sh_m1⟩ ⟨rfl, rfl, rfl, fun _ => 0, rfl, fun z => absurd z sh_m1⟩⟩
theorem tb0 : TB ((0, fun _ => 0) : TP) (fun _ => 0) := ⟨⟨Nat.zero_le _, fun j hj => absurd hj (Nat.not_lt_zero _)⟩, fun j hj => absurd hj (Nat.not_lt_zero _)⟩
theorem ct0 : CT hS0 (zT A00) := ⟨fun _ => 0, fun _ => 0, ⟨rfl, fun k h1 h2 => by
  rcases (show k = 1 ∨ k = 2 ∨ k = 3 ∨ k = 4 by omega) with rfl | rfl | rfl | rfl <;> rfl, rfl⟩, rfl, tb0⟩
theorem cq0 : CQ hS0 D00 := by
  refine ⟨fun k => if k = 5 then 1 else 0, fun _ => 0, fun _ => 0, fun _ _ => 0, fun _ => 0, fun _ => 0, fun _ => 0, ⟨fun k hk => ?_, rfl, fun k h1 h2 => ?_, fun k hk => ?_, rfl⟩, fun j hj => absurd hj (Nat.not_lt_zero _), rfl, ⟨rfl, rfl, rfl, rfl, fun k hk => ?_, rfl, rfl, rfl⟩, rfl, fun j hj => absurd hj (Nat.not_lt_zero _), ?_, by decide, by decide⟩
  · rcases (show k = 0 ∨ k = 1 ∨ k = 2 ∨ k = 3 by omega) with rfl | rfl | rfl | rfl <;> rfl
  · rcases (show k = 5 ∨ k = 6 ∨ k = 7 ∨ k = 8 ∨ k = 9 ∨ k = 10 ∨ k = 11 by omega) with rfl | rfl | rfl | rfl | rfl | rfl | rfl <;> rfl
  · rcases (show k = 0 ∨ k = 1 ∨ k = 2 ∨ k = 3 by omega) with rfl | rfl | rfl | rfl <;> rfl
  · rcases (show k = 1 ∨ k = 5 ∨ k = 6 ∨ k = 7 ∨ k = 8 ∨ k = 9 ∨ k = 10 by omega) with rfl | rfl | rfl | rfl | rfl | rfl | rfl <;> rfl
  · unfold sep3 dp ds dq D00
    decide
theorem cl0 : CL hS0 := ⟨fun _ => 0, fun _ => 0, rfl, fun k h1 h2 => by
  rcases (show k = 1 ∨ k = 2 ∨ k = 3 ∨ k = 4 ∨ k = 5 ∨ k = 6 by omega) with rfl | rfl | rfl | rfl | rfl | rfl <;> rfl, rfl⟩
theorem ci0 : CI hS0 D00 A00 := ⟨cb0, hs17, ⟨_, hs22⟩, ⟨_, hs27, fun x e => by cases e⟩, cs0, ct0, cq0, cl0, rfl, by unfold DOk fixd dp ds dq D00; decide⟩
theorem ms0 : MIs hS0 (zS A00) := ⟨fun _ => 0, fun _ => 0, fun _ => 0, fun _ => 0, fun _ _ => 0, ⟨rfl, rfl, rfl, rfl, ⟨_, rfl, fun j hj => if_pos hj⟩, j8 rfl rfl rfl rfl rfl rfl rfl rfl, _, rfl⟩, fun j hj => ⟨fun _ => rfl, fun k hk z => absurd ⟨k, hk, z⟩ sh_m1, fun d hd z => absurd (show (-1 : Int32) = nI (10 + d) from z).symm (nI_nm1 (by omega))⟩⟩
theorem mt0 : MTp hS0 (zT A00) := ⟨fun _ => 0, fun _ => 0, fun _ => 0, ⟨rfl, rfl, fun k hk => by
  rcases (show k = 7 ∨ k = 20 ∨ k = 21 ∨ k = 22 ∨ k = 23 ∨ k = 24 ∨ k = 26 by omega) with rfl | rfl | rfl | rfl | rfl | rfl | rfl <;> rfl, rfl, rfl⟩, rfl, tb0⟩
theorem mi0 : MIn hS0 (fun _ => 0) A00 := ⟨fun k hk => by
  rcases (show k = 0 ∨ k = 1 ∨ k = 2 ∨ k = 3 ∨ k = 4 ∨ k = 5 ∨ k = 8 by omega) with rfl | rfl | rfl | rfl | rfl | rfl | rfl <;> rfl, new_MH (h := h48), ms0, mt0, ⟨fun _ => 0, rfl, fun _ _ => rfl⟩, ⟨rfl, fun _ => Nat.zero_ne_one⟩, Or.inl ⟨rfl, fun _ => (show (0 : Nat) ≠ 2 by decide)⟩, ⟨rfl, rfl, ⟨0, 0, 0, rfl, rfl, rfl⟩, ⟨_, _, rfl, rfl⟩, Or.inl ⟨rfl, rfl, fun _ => (show (0 : Nat) ≠ 3 by decide)⟩⟩, ⟨⟨fun _ => 0, fun k h1 h2 => by
  rcases (show k = 36 ∨ k = 37 ∨ k = 38 ∨ k = 39 by omega) with rfl | rfl | rfl | rfl <;> rfl⟩, Or.inl ⟨rfl, rfl, fun _ => (show (0 : Nat) ≠ 4 by decide)⟩⟩, fun _ _ => rfl⟩
theorem jj0 : JJ hS0 D00 (fun _ => 0) A00 := ⟨ci0, mi0, ⟨rfl, rfl, rfl⟩, ok_H00, fun K e => (by cases e), fun j hj => Or.inl ⟨rfl, rfl⟩, tb0.1, fun j hj d hd z => absurd (show (-1 : Int32) = nI (10 + d) from z).symm (nI_nm1 (by omega))⟩
