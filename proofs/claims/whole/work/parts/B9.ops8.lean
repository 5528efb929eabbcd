/-! row, element, set. -/
section Bop
variable {h h' : xH} {D : DS} {w : Nat → Nat} {A : AS} {X : Option (Int32 × xH)} {Y : xH → Option (Int32 × xH)} {n : Nat}
theorem c_hasEl {a z : Nat} (e : x_gI h a 4 1 = some (nI z)) (p : Int32) : f_X4_hasElement h a p = some (bI (sIs z p)) := by
  unfold f_X4_hasElement sIs
  rw [e, Option.bind_some]
  by_cases h1 : p < 0
  · rw [if_pos h1, decide_eq_true h1]; rfl
  · rw [if_neg h1, decide_eq_false h1]
    by_cases h2 : nI z ≤ p
    · rw [if_pos h2, decide_eq_true h2]; rfl
    · rw [if_neg h2, decide_eq_false h2]; rfl
theorem sIs_0 (p : Int32) : sIs 0 p = false := by
  apply sIs_no
  intro z
  obtain ⟨j, hj, -⟩ := (sIs_iff (by decide) p).mp z
  omega
theorem SHk.sz {s : SH} (q : SHk s) : ∃ z, z ≤ 40 ∧ s.2.1 = nI z ∧ ((∃ k, k < 5 ∧ s.1 = nI k) ∨ (z = 0 ∧ ¬ ∃ k, k < 5 ∧ s.1 = nI k)) := by
  rcases q with ⟨e1, e2⟩ | ⟨k, z, hk, hz, e1, e2⟩ | ⟨d, hd, e1, e2⟩
  · exact ⟨0, by omega, e2, Or.inr ⟨rfl, by rw [e1]; exact sh_m1⟩⟩
  · exact ⟨z, hz, e2, Or.inl ⟨k, hk, e1⟩⟩
  · exact ⟨0, by omega, e2, Or.inr ⟨rfl, by rw [e1]; exact sh_d hd⟩⟩
/-- row -/
theorem b_row (q : CI h D A) (ok : AOk A) (p1 p2 p3 : Int32) (hn : 50 ≤ n) : BSt h D w A (f_X6_row n h 16 p1 p2 p3) (fun g => f_X7_row n g 64 p1 p2 p3) := by
  have m5 : ∀ g : xH, f_X7_in g p2.toInt64 0 4 = some (bI (sIs 5 p2)) := fun g => m_is (by decide) (by decide) p2
  have m41 : ∀ g : xH, f_X7_in g p3.toInt64 0 40 = some (bI (sIs 41 p3)) := fun g => m_is (by decide) (by decide) p3
  by_cases c1 : sIs 8 p1 = true
  · by_cases c2 : sIs 5 p2 = true
    · obtain ⟨k, hk, e2⟩ := (sIs_iff (by decide) p2).mp c2
      have l1 : ¬ p2 < 0 := by rw [e2]; exact nI_pos (by omega)
      have l2 : ¬ (4 : Int32) < p2 := by rw [e2]; exact nI_nlt (a := 4) (by omega) (by omega)
      by_cases c3 : sIs 41 p3 = true
      · obtain ⟨z, hz, e3⟩ := (sIs_iff (by decide) p3).mp c3
        have l3 : ¬ p3 < 0 := by rw [e3]; exact nI_pos (by omega)
        have l4 : p3 ≤ 40 := by rw [e3]; exact nI_le (b := 40) (by omega) (by decide)
        obtain ⟨j, hj, rfl⟩ := (sIs_iff (by decide) p1).mp c1
        obtain ⟨h1, h2, f, e4, e5, g0, g1, g2, g3, fr⟩ := c_put2 (q.s1 hj) p2 p3
        obtain ⟨h3, e6, ⟨f', g4, z0⟩, fr2⟩ := c_zero g2 g3 hn
        obtain ⟨d1, d2⟩ := q.shelf (s := (p2, p3, fun _ => 0)) hj ⟨fr2.1 _ _ _ _ id g0, fr2.1 _ _ _ _ id g1, fr2.1 _ _ _ _ id g2, f', g4, fun _ i hi => z0 i hi⟩ (Fr.trans (Fr.mono fr (fun _ _ z => z) (fun _ z => z.elim)) (Fr.mono fr2 (fun _ _ z => z.elim) (fun _ z => z)))
        refine ⟨1, setS A j (p2, p3, fun _ => 0), ⟨h3, ?_, d1, d2⟩, fun g qg => ?_, setS_ok ok (Or.inr (Or.inl ⟨k, z, hk, by omega, e2, e3⟩)) (fun d hd y => absurd ⟨k, hk, (show nI (10 + d) = nI k from (show p2 = nI (10 + d) from y).symm.trans e2)⟩ (sh_d hd))⟩
        · simp only [f_X6_row, c_is8, c1, i1, Option.bind_some, eq_false l1, eq_false l2, eq_false l3, if_false, eq_true l4, if_true, q.g4, q.ldS hj, (q.s1 hj).ob, f_X4_takeRow, e4, e5, e6]
        · obtain ⟨f0, f1, f2, f5, gg, ⟨a0, a1, a2, a5, ⟨fo, ao1, ao2⟩, al, gv, gv1⟩, s⟩ := qg.2.2.1
          have r0 : x_gR g 64 7 0 = some 65 := qg.g (k := 0) (by omega)
          obtain ⟨k1, x1, b0, u1⟩ := w_st a0 hj (by decide) 1
          obtain ⟨k2, x2, b1, u2⟩ := w_st (u1.2 _ _ (fun z => by omega) a1) hj (by decide) p2
          obtain ⟨k3, x3, b2, u3⟩ := w_st (u2.2 _ _ (fun z => by omega) (u1.2 _ _ (fun z => by omega) a2)) hj (by decide) p3
          have u : Fr (fun _ _ => False) (fun y => 65 ≤ y ∧ y < 68) g k3 := Fr.trans (Fr.mono u1 (fun _ _ z => z) (fun _ z => by omega)) (Fr.trans (Fr.mono u2 (fun _ _ z => z) (fun _ z => by omega)) (Fr.mono u3 (fun _ _ z => z) (fun _ z => by omega)))
          have r1 : x_gR k1 64 7 1 = some 66 := g_R (u1.1 _ _ _ _ id (qg.1 1 (by omega)))
          have r2 : x_gR k2 64 7 2 = some 67 := g_R (u2.1 _ _ _ _ id (u1.1 _ _ _ _ id (qg.1 2 (by omega))))
          have r3 : x_get k3 64 7 3 = some (.ref 68) := u.1 _ _ _ _ id (qg.1 3 (by omega))
          obtain ⟨k4, x4, ⟨f', b3, z0'⟩, u4⟩ := m_zero r3 hj (u.2 _ _ (fun z => by omega) ao1) (ao2 j hj) (u.2 _ _ (fun z => by omega) (al j hj)) hn
          have uu : Fr (fun _ _ => False) (fun y => 65 ≤ y ∧ y < 79) g k4 := Fr.trans (Fr.mono u (fun _ _ z => z) (fun _ z => by omega)) (Fr.mono u4 (fun _ _ z => z) (fun _ z => by omega))
          obtain ⟨d1, d2⟩ := qg.shelf (j := j) (s := (p2, p3, fun _ => 0)) (h' := k4) ⟨upd f0 j 1, upd f1 j p2, upd f2 j p3, f5, fun i => if i = j then f' else gg i, ⟨u4.2 _ _ (fun z => by omega) (u3.2 _ _ (fun z => by omega) (u2.2 _ _ (fun z => by omega) b0)), u4.2 _ _ (fun z => by omega) (u3.2 _ _ (fun z => by omega) b1), u4.2 _ _ (fun z => by omega) b2, u4.2 _ _ (fun z => by omega) (u.2 _ _ (fun z => by omega) a5), ⟨fo, u4.2 _ _ (fun z => by omega) (u.2 _ _ (fun z => by omega) ao1), ao2⟩, fun i hi => by
            dsimp only
            by_cases e : i = j
            · rw [if_pos e, e]; exact b3
            · rw [if_neg e]; exact u4.2 _ _ (fun z => by omega) (u.2 _ _ (fun z => by omega) (al i hi)), gv, u4.2 _ _ (fun z => by omega) (u.2 _ _ (fun z => by omega) gv1)⟩, fun i hi => by
            dsimp only
            by_cases e : i = j
            · rw [if_pos e, e]
              refine ⟨fun y => ?_, fun k' hk' y => ?_, fun d hd y => ?_⟩
              · exact absurd (show nI k = -1 from e2.symm.trans y) (nI_nm1 (by omega))
              · exact ⟨pk_us, pk_us.trans y, pk_us, fun i hi => by dsimp only; rw [if_pos rfl]; exact z0' i hi⟩
              · exact absurd ⟨k, hk, (show nI (10 + d) = nI k from (show p2 = nI (10 + d) from y).symm.trans e2)⟩ (sh_d hd)
            · rw [if_neg e]
              obtain ⟨s0, s1, s2⟩ := s i hi
              refine ⟨fun z => by rw [pk_un e]; exact s0 z, fun k hk z => ?_, fun d hd z => by rw [pk_un e]; exact s2 d hd z⟩
              dsimp only
              rw [pk_un e, pk_un e, pk_un e, if_neg e]
              exact s1 k hk z⟩ uu
          refine ⟨k4, ?_, d1, d2⟩
          simp only [f_X7_row, m_is8, c1, i1, Option.bind_some, m5, c2, m41, c3, r0, x1, r1, x2, r2, x3, x4]
      · have c5 := sIs_nt (by decide) c3
        refine b_ref2 q ok ?_ (fun g qg => ?_)
        · by_cases l3 : p3 < 0
          · simp only [f_X6_row, refC, c_is8, c1, i1, Option.bind_some, eq_false l1, eq_false l2, if_false, eq_true l3, if_true]
          · have l4 : ¬ p3 ≤ 40 := fun z => by
              have z1 := (leN (k := 40) (by decide) p3).mp z
              rw [lt0] at l3
              omega
            simp only [f_X6_row, refC, c_is8, c1, i1, Option.bind_some, eq_false l1, eq_false l2, if_false, eq_false l3, eq_false l4]
        · simp only [f_X7_row, refM7, m_is8, c1, i1, i0, Option.bind_some, m5, c2, m41, sIs_no c3]
    · have c5 := sIs_nt (by decide) c2
      refine b_ref2 q ok ?_ (fun g qg => ?_)
      · by_cases l1 : p2 < 0
        · simp only [f_X6_row, refC, c_is8, c1, i1, Option.bind_some, eq_true l1, if_true]
        · have l2 : (4 : Int32) < p2 := by
            rw [lt0] at l1
            exact (Nlt (k := 4) (by decide) p2).mpr (by omega)
          simp only [f_X6_row, refC, c_is8, c1, i1, Option.bind_some, eq_false l1, if_false, eq_true l2, if_true]
      · simp only [f_X7_row, refM7, m_is8, c1, i1, i0, Option.bind_some, m5, sIs_no c2]
  · refine b_ref2 q ok ?_ (fun g qg => ?_)
    · simp only [f_X6_row, refC, c_is8, sIs_no c1, i0, Option.bind_some]
    · simp only [f_X7_row, refM7, m_is8, sIs_no c1, i0, Option.bind_some]
/-- element -/
theorem b_element (q : CI h D A) (ok : AOk A) (p1 p2 : Int32) : BVl w A (f_X6_element h 16 p1 p2) (fun g => f_X7_element g 64 p1 p2) := by
  by_cases c : sIs 8 p1 = true
  · obtain ⟨j, hj, rfl⟩ := (sIs_iff (by decide) p1).mp c
    obtain ⟨z, hz, ez, alt⟩ := (ok.2.2.1 j hj).sz
    have eg : x_gI h (48 + 2 * j) 4 1 = some (nI z) := by rw [(q.s1 hj).g1, ez]
    by_cases c2 : sIs z p2 = true
    · rcases alt with ⟨k, hk, ek⟩ | ⟨z0, -⟩
      · obtain ⟨i, hi, rfl⟩ := (sIs_iff (by omega) p2).mp c2
        refine ⟨(zS A j).2.2 i, ?_, fun g qg => ?_⟩
        · obtain ⟨-, -, -, f, a4, a5⟩ := q.s1 hj
          simp only [f_X6_element, c_is8, c, i1, Option.bind_some, q.g4, q.ldS hj, (q.s1 hj).ob, c_hasEl eg, c2, (q.s1 hj).g2, a4.ld (show i < 40 by omega) (by decide), a5 ⟨k, hk, ek⟩ i (by omega)]
        · obtain ⟨f0, f1, f2, f5, gg, ⟨a0, a1, a2, a5, ⟨fo, ao1, ao2⟩, al, gv, gv1⟩, s⟩ := qg.2.2.1
          have r0 : x_gR g 64 7 0 = some 65 := qg.g (k := 0) (by omega)
          have r2 : x_gR g 64 7 2 = some 67 := qg.g (k := 2) (by omega)
          have r3 : x_gR g 64 7 3 = some 68 := qg.g (k := 3) (by omega)
          obtain ⟨b1, b2, b3, b4⟩ := (s j hj).2.1 k hk ek
          have mz : f_X7_in g (nI i).toInt64 0 (nI z - 1).toInt64 = some (bI (sIs z (nI i))) := m_is (by omega) (nI_predI (by omega)) _
          simp only [f_X7_element, m_is8, c, i1, Option.bind_some, r0, a0.ld hj (by decide), b1, if_true, r2, a2.ld hj (by decide), b3, ez, mz, c2, r3, AtQ.ld ao1 rfl hj (by decide) (ao2 j hj), (al j hj).ld (show i < 40 by omega) (by decide), b4 i (by omega)]
      · rw [z0, sIs_0] at c2
        cases c2
    · refine ⟨0, ?_, fun g qg => ?_⟩
      · simp only [f_X6_element, c_is8, c, i1, i0, Option.bind_some, q.g4, q.ldS hj, (q.s1 hj).ob, c_hasEl eg, sIs_no c2]
      · obtain ⟨f0, f1, f2, f5, gg, ⟨a0, a1, a2, a5, ⟨fo, ao1, ao2⟩, al, gv, gv1⟩, s⟩ := qg.2.2.1
        have r0 : x_gR g 64 7 0 = some 65 := qg.g (k := 0) (by omega)
        have r2 : x_gR g 64 7 2 = some 67 := qg.g (k := 2) (by omega)
        obtain ⟨s0, s1, s2⟩ := s j hj
        rcases ok.2.2.1 j hj with ⟨z1, z2⟩ | ⟨k, zz, hk, hzz, z1, z2⟩ | ⟨d, hd, z1, z2⟩
        · simp only [f_X7_element, m_is8, c, i1, Option.bind_some, r0, a0.ld hj (by decide), s0 z1, eq_false (show ¬ (0 : Int32) = 1 by decide), if_false]
        · obtain ⟨b1, b2, b3, b4⟩ := s1 k hk z1
          have mz : f_X7_in g p2.toInt64 0 (nI z - 1).toInt64 = some (bI (sIs z p2)) := m_is (by omega) (nI_predI (by omega)) _
          simp only [f_X7_element, m_is8, c, i1, i0, Option.bind_some, r0, a0.ld hj (by decide), b1, if_true, r2, a2.ld hj (by decide), b3, ez, mz, sIs_no c2]
        · obtain ⟨b1, b2⟩ := s2 d hd z1
          simp only [f_X7_element, m_is8, c, i1, Option.bind_some, r0, a0.ld hj (by decide), b1, eq_false (show ¬ (2 : Int32) = 1 by decide), if_false]
  · refine ⟨0, ?_, fun g qg => ?_⟩
    · simp only [f_X6_element, c_is8, sIs_no c, i0, Option.bind_some]
    · simp only [f_X7_element, m_is8, sIs_no c, i0, Option.bind_some]
end Bop
