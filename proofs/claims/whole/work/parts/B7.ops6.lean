/-! doors, wipe, holds, show. -/
section Bop
variable {h : xH} {D : DS} {w : Nat → Nat} {A : AS} {X : Option (Int32 × xH)} {Y : xH → Option (Int32 × xH)} {n : Nat}
theorem m_doors1 {g : xH} {m : Nat} {H : HS} {r : Int32} (q : MH g m H) (ok : HOk H) (hn : 20 ≤ n) : f_X7_doors_L37 g m 1 r n 0 0 = some (sDoorsAt H r) := by
  have h14 := ok.1
  have := lpE (L := fun k s i => f_X7_doors_L37 g m 1 r k s (nI i)) (g := mkB (fun d => sAt H d r)) (D := hD H) (n := n) (fin := sDoorsAt H r) (by omega)
    (fun k => by
      show f_X7_doors_L37 g m 1 r (k + 1) _ (nI (hD H)) = _
      rw [f_X7_doors_L37, q.D, Option.bind_some, if_pos (nI_le (Nat.le_refl _) (by omega))]; rfl)
    (fun k i hi => by
      show f_X7_doors_L37 g m 1 r (k + 1) _ (nI i) = f_X7_doors_L37 g m 1 r k _ (nI (i + 1))
      rw [f_X7_doors_L37, q.D, Option.bind_some, if_neg (nI_ge hi (by omega)), if_pos rfl, q.ob, Option.bind_some, m_isAt q ok hi, Option.bind_some, mkB]
      cases sAt H i r
      · rw [i0, Option.bind_some, Option.bind_some, nI_1, i_or0]; rfl
      · rw [i1, Option.bind_some, Option.bind_some, nI_1]; rfl)
  exact this
theorem m_doorsN {g : xH} {m : Nat} {H : HS} {x r : Int32} (q : MH g m H) (hx : ¬ x = 1) (hn : 20 ≤ n) : f_X7_doors_L37 g m x r n 0 0 = some 0 := by
  obtain ⟨k, rfl⟩ : ∃ k, n = k + 1 := ⟨n - 1, by omega⟩
  rw [f_X7_doors_L37, q.D, Option.bind_some, if_neg hx]
  split <;> rfl
theorem b_doors (q : CI h D A) (ok : AOk A) (p1 p2 : Int32) (hn : 20 ≤ n) : BSt h D w A (f_X6_doors n h 16 p1 p2) (fun g => f_X7_doors n g 64 p1 p2) := by
  have m3 : ∀ g : xH, f_X7_in g p1.toInt64 0 2 = some (bI (sIs 3 p1)) := fun g => m_is (by decide) (by decide) p1
  by_cases c3 : sIs 3 p1 = true
  · obtain ⟨j, hj, rfl⟩ := (sIs_iff (by decide) p1).mp c3
    have : j = 0 ∨ j = 1 ∨ j = 2 := by omega
    rcases this with rfl | rfl | rfl
    · refine b_val q ok (hO (zH A)) ?_ (fun g qg => ?_)
      · simp only [f_X6_doors, eq_true (show nI 0 = (0 : Int32) from rfl), if_true, q.g0, Option.bind_some, q.H.O]
      · simp only [f_X7_doors, f_X7_doors_J32, m3, c3, i1, Option.bind_some, eq_false (show ¬ nI 0 = (1 : Int32) by decide), eq_true (show nI 0 = (0 : Int32) from rfl), if_true, if_false, m_doorsN qg.H (show ¬ nI 0 = (1 : Int32) by decide) hn, qg.H.O]
    · by_cases c8 : sIs 8 p2 = true
      · refine b_val q ok (sDoorsAt (zH A) p2) ?_ (fun g qg => ?_)
        · simp only [f_X6_doors, eq_false (show ¬ nI 1 = (0 : Int32) by decide), eq_true (show nI 1 = (1 : Int32) from rfl), if_true, if_false, c_isR, c8, i1, q.g0, Option.bind_some, q.H.ob, h_doorsAt q.H ok.H hn]
        · have e1 : f_X7_doors_L37 g 64 (nI 1) p2 n 0 0 = some (sDoorsAt (zH A) p2) := m_doors1 qg.H ok.H hn
          simp only [f_X7_doors, f_X7_doors_J32, m3, c3, i1, Option.bind_some, eq_false (show ¬ nI 1 = (0 : Int32) by decide), eq_true (show nI 1 = (1 : Int32) from rfl), if_true, if_false, m_isR, c8, e1]
      · refine b_ref2 q ok ?_ (fun g qg => ?_)
        · simp only [f_X6_doors, f_X6_doors_J33, refC, eq_false (show ¬ nI 1 = (0 : Int32) by decide), eq_true (show nI 1 = (1 : Int32) from rfl), if_true, if_false, c_isR, sIs_no c8, i0, Option.bind_some, eq_false (show ¬ nI 1 = (2 : Int32) by decide)]
        · simp only [f_X7_doors, refM7, m3, c3, i1, i0, Option.bind_some, eq_true (show nI 1 = (1 : Int32) from rfl), if_true, m_isR, sIs_no c8]
    · refine b_val q ok (sShutM (zH A)) ?_ (fun g qg => ?_)
      · simp only [f_X6_doors, f_X6_doors_J33, eq_false (show ¬ nI 2 = (0 : Int32) by decide), eq_false (show ¬ nI 2 = (1 : Int32) by decide), eq_true (show nI 2 = (2 : Int32) from rfl), if_true, if_false, q.g0, q.H.ob, Option.bind_some, h_shuttable q.H ok.H hn]
      · simp only [f_X7_doors, f_X7_doors_J32, m3, c3, i1, Option.bind_some, eq_false (show ¬ nI 2 = (1 : Int32) by decide), eq_false (show ¬ nI 2 = (0 : Int32) by decide), if_true, if_false, m_doorsN qg.H (show ¬ nI 2 = (1 : Int32) by decide) hn, qg.ob, m_shuttable qg.H ok.H hn]
  · have n0 : ∀ j, j < 3 → ¬ p1 = nI j := fun j hj z => c3 ((sIs_iff (by decide) p1).mpr ⟨j, hj, z⟩)
    refine b_ref2 q ok ?_ (fun g qg => ?_)
    · simp only [f_X6_doors, f_X6_doors_J33, refC, eq_false (show ¬ p1 = 0 from n0 0 (by decide)), eq_false (show ¬ p1 = 1 from n0 1 (by decide)), eq_false (show ¬ p1 = 2 from n0 2 (by decide)), if_false]
    · simp only [f_X7_doors, refM7, m3, sIs_no c3, i0, Option.bind_some]
/-- wipe -/
theorem b_wipe (q : CI h D A) (ok : AOk A) : BSt h D w A (f_X6_wipe h 16) (fun g => f_X7_wipe g 64) := by
  obtain ⟨v, fb, a, v1, b⟩ := q.2.2.2.2.2.1
  obtain ⟨h1, e1, a1, f1⟩ := a.put (k := 1) (by decide) (by decide) 0
  have t0 : TOk ((0, (zT A).2) : TP) := ⟨Nat.zero_le _, fun j hj => absurd hj (Nat.not_lt_zero _)⟩
  obtain ⟨c1, c2⟩ := q.tape (t := (0, (zT A).2)) ⟨_, fb, a1, pk_us, t0, fun j hj => absurd hj (Nat.not_lt_zero _)⟩ (Fr.mono f1 (fun _ _ z => z) (fun _ z => z.elim))
  refine ⟨nI (zT A).1, setT A (0, (zT A).2), ⟨h1, ?_, c1, c2⟩, fun g qg => ?_, ok.1, ok.2.1, ok.2.2.1, t0, ok.2.2.2.2⟩
  · simp only [f_X6_wipe, q.g5, Option.bind_some, a.g (k := 1) (by decide) (by decide), v1, e1]
  · obtain ⟨v', fb', ft', a', v7, b'⟩ := qg.2.2.2.1
    obtain ⟨g1, e2, a2, f2⟩ := a'.put (k := 7) (by omega) 0
    obtain ⟨d1, d2⟩ := qg.tape (t := (0, (zT A).2)) (H := zH A) (qg.H.frN f2) ⟨_, fb', ft', a2, pk_us, t0, fun j hj => absurd hj (Nat.not_lt_zero _)⟩ (FrNH.ofN f2)
    refine ⟨g1, ?_, d1, d2⟩
    simp only [f_X7_wipe, a'.g (k := 7) (by omega), Option.bind_some, v7, e2]
/-- a shelf of the class -/
theorem CI.ldS (q : CI h D A) {j : Nat} (hj : j < 8) : x_ldQ h 32 (nI j) = some (48 + 2 * j) := by
  obtain ⟨fo, a, e⟩ := q.2.2.2.2.1.1
  exact a.ld rfl hj (by decide) (e j hj)
theorem CI.s1 (q : CI h D A) {j : Nat} (hj : j < 8) : CS1 h j (zS A j) := q.2.2.2.2.1.2 j hj
theorem CS1.g0 {j : Nat} {s : SH} (q : CS1 h j s) : x_gI h (48 + 2 * j) 4 0 = some s.1 := g_I q.1
theorem CS1.g1 {j : Nat} {s : SH} (q : CS1 h j s) : x_gI h (48 + 2 * j) 4 1 = some s.2.1 := g_I q.2.1
theorem CS1.g2 {j : Nat} {s : SH} (q : CS1 h j s) : x_gR h (48 + 2 * j) 4 2 = some (49 + 2 * j) := g_R q.2.2.1
theorem CS1.ob {j : Nat} {s : SH} (q : CS1 h j s) : x_ob h (48 + 2 * j) 4 = some () := g_ob q.1
/-- both answer the same, and nothing changes -/
def BVl {α : Type} (w : Nat → Nat) (A : AS) (X : Option α) (Y : xH → Option α) : Prop := ∃ r, X = some r ∧ ∀ g, MIn g w A → Y g = some r
theorem b_holds (q : CI h D A) (ok : AOk A) (p : Int32) : BVl w A (f_X6_holds h 16 p) (fun g => f_X7_holds g 64 p) := by
  by_cases c : sIs 8 p = true
  · obtain ⟨j, hj, rfl⟩ := (sIs_iff (by decide) p).mp c
    refine ⟨(zS A j).1, ?_, fun g qg => ?_⟩
    · simp only [f_X6_holds, c_is8, c, i1, Option.bind_some, q.g4, q.ldS hj, (q.s1 hj).g0]
    · obtain ⟨f0, f1, f2, f5, gg, ⟨a0, a1, a2, a5, -⟩, s⟩ := qg.2.2.1
      obtain ⟨s0, s1, s2⟩ := s j hj
      have r0 : x_gR g 64 7 0 = some 65 := qg.g (k := 0) (by omega)
      have r1 : x_gR g 64 7 1 = some 66 := qg.g (k := 1) (by omega)
      have r5 : x_gR g 64 7 5 = some 78 := qg.g (k := 5) (by omega)
      rcases ok.2.2.1 j hj with ⟨z1, z2⟩ | ⟨k, z, hk, hz, z1, z2⟩ | ⟨d, hd, z1, z2⟩
      · simp only [f_X7_holds, m_is8, c, i1, Option.bind_some, r0, a0.ld hj (by decide), s0 z1, if_true, z1]
      · obtain ⟨b1, b2, -⟩ := s1 k hk z1
        simp only [f_X7_holds, m_is8, c, i1, Option.bind_some, r0, a0.ld hj (by decide), b1, eq_false (show ¬ (1 : Int32) = 0 by decide), if_true, if_false, r1, a1.ld hj (by decide), b2, z1]
      · obtain ⟨b1, b2⟩ := s2 d hd z1
        have e10 : (10 : Int32) + nI d = nI (10 + d) := nI_add 10 d
        simp only [f_X7_holds, m_is8, c, i1, Option.bind_some, r0, a0.ld hj (by decide), b1, eq_false (show ¬ (2 : Int32) = 0 by decide), eq_false (show ¬ (2 : Int32) = 1 by decide), if_false, r5, a5.ld hj (by decide), b2, z1, e10]
  · refine ⟨-1, ?_, fun g qg => ?_⟩
    · simp only [f_X6_holds, c_is8, sIs_no c, i0, Option.bind_some]
    · simp only [f_X7_holds, m_is8, sIs_no c, i0, Option.bind_some]
end Bop
