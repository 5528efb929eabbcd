/-! status. -/
theorem smB_up {f : Nat → Nat} {a : Nat} : ∀ c, (∀ k, a ≤ k → f k = 0) → smB f (a + c) = smB f a
  | 0, _ => rfl
  | c + 1, h => by
    show smB f (a + c) + f (a + c) = smB f a
    rw [smB_up c h, h _ (Nat.le_add_right _ _), Nat.add_zero]
theorem bt_y {y i : Nat} (hi : i < 32) : (if bt (nI y) i then 1 else 0) = y / 2 ^ i % 2 := by
  have e : bt (nI y) i = y.testBit i := by
    show (BitVec.ofNat 32 y).getLsbD i = _
    rw [BitVec.getLsbD_ofNat, decide_eq_true hi, Bool.true_and]
  rw [e, Nat.testBit_eq_decide_div_mod_eq]
  by_cases z : y / 2 ^ i % 2 = 1
  · rw [decide_eq_true z, z]; rfl
  · rw [decide_eq_false z]
    have : y / 2 ^ i % 2 = 0 := by omega
    rw [this]; rfl
theorem pop_14 (y : Nat) : smB (fun i => if bt (nI y) i then 1 else 0) 14 = popN y := by
  rw [smB_congr (g := fun i => y / 2 ^ i % 2) 14 (fun j hj => bt_y (by omega))]
  rfl
section Mk
variable {h h' g g' : xH} {w w' : Nat → Nat} {A : AS} {D : DS} {n : Nat}
theorem c_bits {H : HS} (ok : HOk H) : f_J6_bitCount_0f7a4 (hO H) = some (nI (smB (fun i => if bt (hO H) i then 1 else 0) (hD H))) := by
  have h14 := ok.1
  have hb := ok.2.2.2.2.2.2
  have lt := tn_lt (D := 14) (x := hO H) (by decide) (fun k h1 h2 => hb k (by omega) h2)
  have e := nI_tn (hO H)
  have up := smB_up (f := fun i => if bt (hO H) i then 1 else 0) (a := hD H) (14 - hD H) (fun k hk => by
    by_cases h32 : k < 32
    · rw [hb k hk h32]; rfl
    · rw [b_big (by omega)]; rfl)
  rw [show hD H + (14 - hD H) = 14 by omega] at up
  rw [← up]
  conv => rhs; rw [← e]
  rw [pop_14, ← bc_n lt, e]
theorem m_bits {H : HS} {m : Nat} (q : MH g m H) (ok : HOk H) (hn : 20 ≤ n) : f_X7_status_L59 g m n 0 0 = some (nI (smB (fun i => if bt (hO H) i then 1 else 0) (hD H))) := by
  have h14 := ok.1
  exact lpE (L := fun k s i => f_X7_status_L59 g m k s (nI i)) (g := fun i => nI (smB (fun i => if bt (hO H) i then 1 else 0) i)) (D := hD H) (n := n) (by omega)
    (fun k => by
      show f_X7_status_L59 g m (k + 1) _ (nI (hD H)) = _
      rw [f_X7_status_L59, q.D, Option.bind_some, if_pos (nI_le (Nat.le_refl _) (by omega))])
    (fun k i hi => by
      show f_X7_status_L59 g m (k + 1) (nI (smB (fun i => if bt (hO H) i then 1 else 0) i)) (nI i) = f_X7_status_L59 g m k (nI (smB (fun i => if bt (hO H) i then 1 else 0) i + if bt (hO H) i then 1 else 0)) (nI (i + 1))
      rw [f_X7_status_L59, q.D, Option.bind_some, if_neg (nI_ge hi (by omega)), q.O, Option.bind_some, Option.bind_some, Option.bind_some, b_get _ (by omega), nI_1]
      cases bt (hO H) i
      · show f_X7_status_L59 g m k (nI _ + 0) (nI (i + 1)) = _
        rw [nI_add0]; rfl
      · show f_X7_status_L59 g m k (nI _ + 1) (nI (i + 1)) = _
        rw [nI_1]; rfl)
theorem st16 : ∀ i, i < 5 → ¬ nI (12 + i) < 12 ∧ ¬ (17 : Int32) ≤ nI (12 + i) ∧ nI (12 + i) - 12 = nI i ∧ nI (12 + i) - 10 = nI (2 + i) := by decide +kernel
/-- status -/
theorem b_status (q : CI h D A) (ok : AOk A) (p : Int32) (hn : 20 ≤ n) : BVl w A (f_X6_status n h 16 p) (fun g => f_X7_status n g 64 p) := by
  obtain ⟨v, fb, ta, v1, tb⟩ := q.2.2.2.2.2.1
  have g1 : x_gI h 33 5 1 = some (nI (zT A).1) := by rw [g_I (ta.2.1 1 (by decide) (by decide)), v1]
  have g8 : x_gI h 17 0 8 = some (hW (zH A)) := g_I (q.H.1 8 (by decide))
  by_cases p0 : p = 0
  · exact ⟨nI (hD (zH A)), by simp only [f_X6_status, eq_true p0, if_true, q.g0, q.H.D, Option.bind_some], fun g qg => by simp only [f_X7_status, eq_true p0, if_true, qg.H.D, Option.bind_some]⟩
  by_cases p1 : p = 1
  · exact ⟨nI (smB (fun i => if bt (hO (zH A)) i then 1 else 0) (hD (zH A))), by simp only [f_X6_status, eq_false p0, eq_true p1, if_true, if_false, q.g0, q.H.O, c_bits ok.1, Option.bind_some], fun g qg => by simp only [f_X7_status, eq_false p0, eq_true p1, if_true, if_false, m_bits qg.H ok.1 hn, Option.bind_some]⟩
  by_cases p2 : p = 2
  · exact ⟨nI (hP (zH A)), by simp only [f_X6_status, eq_false p0, eq_false p1, eq_true p2, if_true, if_false, q.g0, q.H.P, Option.bind_some], fun g qg => by simp only [f_X7_status, eq_false p0, eq_false p1, eq_true p2, if_true, if_false, qg.H.P, Option.bind_some]⟩
  by_cases p3 : p = 3
  · exact ⟨hL (zH A), by simp only [f_X6_status, eq_false p0, eq_false p1, eq_false p2, eq_true p3, if_true, if_false, q.g0, q.H.Lw, Option.bind_some], fun g qg => by simp only [f_X7_status, eq_false p0, eq_false p1, eq_false p2, eq_true p3, if_true, if_false, qg.H.Lw, Option.bind_some]⟩
  by_cases p4 : p = 4
  · exact ⟨hW (zH A), by simp only [f_X6_status, eq_false p0, eq_false p1, eq_false p2, eq_false p3, eq_true p4, if_true, if_false, q.g0, g8, Option.bind_some], fun g qg => by simp only [f_X7_status, eq_false p0, eq_false p1, eq_false p2, eq_false p3, eq_true p4, if_true, if_false, show x_gI g 64 7 15 = some (hW (zH A)) from g_I (qg.H.1 15 (by decide) (by decide)), Option.bind_some]⟩
  by_cases p5 : p = 5
  · exact ⟨hN (zH A), by simp only [f_X6_status, eq_false p0, eq_false p1, eq_false p2, eq_false p3, eq_false p4, eq_true p5, if_true, if_false, q.g0, q.H.N, Option.bind_some], fun g qg => by simp only [f_X7_status, eq_false p0, eq_false p1, eq_false p2, eq_false p3, eq_false p4, eq_true p5, if_true, if_false, qg.H.N, Option.bind_some]⟩
  by_cases p6 : p = 6
  · exact ⟨nI (zT A).1, by simp only [f_X6_status, eq_false p0, eq_false p1, eq_false p2, eq_false p3, eq_false p4, eq_false p5, eq_true p6, if_true, if_false, q.g5, g1, Option.bind_some], fun g qg => by
      obtain ⟨vm, fbm, ft, mt, m7, tbm⟩ := qg.2.2.2.1
      have g7 := mt.2.2.1 7 (Or.inl rfl)
      rw [m7] at g7
      simp only [f_X7_status, eq_false p0, eq_false p1, eq_false p2, eq_false p3, eq_false p4, eq_false p5, eq_true p6, if_true, if_false, g_I g7, Option.bind_some]⟩
  by_cases p7 : p = 7
  · exact ⟨hS (zH A), by simp only [f_X6_status, eq_false p0, eq_false p1, eq_false p2, eq_false p3, eq_false p4, eq_false p5, eq_false p6, eq_true p7, if_true, if_false, q.g0, q.H.S, Option.bind_some], fun g qg => by simp only [f_X7_status, eq_false p0, eq_false p1, eq_false p2, eq_false p3, eq_false p4, eq_false p5, eq_false p6, eq_true p7, if_true, if_false, qg.H.S, Option.bind_some]⟩
  by_cases p8 : p = 8
  · exact ⟨nI (smB (zFull A) 8), by simp only [f_X6_status, eq_false p0, eq_false p1, eq_false p2, eq_false p3, eq_false p4, eq_false p5, eq_false p6, eq_false p7, eq_true p8, if_true, if_false, q.ob, c_full q hn, Option.bind_some], fun g qg => by simp only [f_X7_status, eq_false p0, eq_false p1, eq_false p2, eq_false p3, eq_false p4, eq_false p5, eq_false p6, eq_false p7, eq_true p8, if_true, if_false, m_full qg ok hn, Option.bind_some]⟩
  have inn : ∀ g : xH, f_X7_in g p.toInt64 12 16 = some (bI (decide (12 ≤ p.toInt) && decide (p.toInt ≤ 16))) := fun g => m_in (a := 12) (c := 16) (by decide) (by decide) p
  by_cases l12 : p.toInt < 12
  · refine ⟨-1, ?_, fun g qg => ?_⟩
    · simp only [f_X6_status, eq_false p0, eq_false p1, eq_false p2, eq_false p3, eq_false p4, eq_false p5, eq_false p6, eq_false p7, eq_false p8, if_false, eq_true (show p < 12 from (ltN (k := 12) (by decide) p).mpr l12), if_true]
    · simp only [f_X7_status, eq_false p0, eq_false p1, eq_false p2, eq_false p3, eq_false p4, eq_false p5, eq_false p6, eq_false p7, eq_false p8, if_false, inn, Option.bind_some, decide_eq_false (show ¬ 12 ≤ p.toInt by omega), Bool.false_and, i0]
  have n12 : ¬ p < 12 := fun z => l12 ((ltN (k := 12) (by decide) p).mp z)
  by_cases l16 : p.toInt ≤ 16
  · obtain ⟨i, hi, rfl⟩ : ∃ i, i < 5 ∧ p = nI (12 + i) := ⟨(p.toInt - 12).toNat, by omega, Int32.toInt_inj.mp (by rw [nI_toInt (by omega)]; omega)⟩
    obtain ⟨z1, z2, z3, z4⟩ := st16 i hi
    refine ⟨zR A i, ?_, fun g qg => ?_⟩
    · simp only [f_X6_status, eq_false p0, eq_false p1, eq_false p2, eq_false p3, eq_false p4, eq_false p5, eq_false p6, eq_false p7, eq_false p8, if_false, eq_false z1, eq_false z2, q.g8, z3, At.ld q.2.2.2.2.2.2.2.2.1 hi (by decide), Option.bind_some]
    · obtain ⟨fr, q1, q2⟩ := qg.2.2.2.2.1
      simp only [f_X7_status, eq_false p0, eq_false p1, eq_false p2, eq_false p3, eq_false p4, eq_false p5, eq_false p6, eq_false p7, eq_false p8, if_false, inn, Option.bind_some, decide_eq_true (show 12 ≤ (nI (12 + i)).toInt by omega), decide_eq_true l16, Bool.and_self, i1, show x_gR g 64 7 8 = some 80 from qg.g (k := 8) (by omega), z4, At.ld q1 (show 2 + i < 8 by omega) (by decide), q2 i hi]
  · have n17 : (17 : Int32) ≤ p := Int32.not_lt.mp fun z => l16 (by have := (ltN (k := 17) (by decide) p).mp z; omega)
    refine ⟨-1, ?_, fun g qg => ?_⟩
    · simp only [f_X6_status, eq_false p0, eq_false p1, eq_false p2, eq_false p3, eq_false p4, eq_false p5, eq_false p6, eq_false p7, eq_false p8, if_false, eq_false n12, eq_true n17, if_true]
    · simp only [f_X7_status, eq_false p0, eq_false p1, eq_false p2, eq_false p3, eq_false p4, eq_false p5, eq_false p6, eq_false p7, eq_false p8, if_false, inn, Option.bind_some, decide_eq_false l16, Bool.and_false, i0]
end Mk
