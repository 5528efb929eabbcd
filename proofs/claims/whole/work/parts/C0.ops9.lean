/-! set, shutIn, stock. -/
section Bop
variable {h h' : xH} {D : DS} {w : Nat → Nat} {A : AS} {X : Option (Int32 × xH)} {Y : xH → Option (Int32 × xH)} {n : Nat}
theorem fitE {g : xH} {a k : Nat} (hk : k < 5) (e : x_gI h a 4 0 = some (nI k)) (p : Int64) : f_X4_narrow h a p = f_X7_fit g (nI k) p ∧ ∃ v, f_X7_fit g (nI k) p = some v := by
  have : k = 0 ∨ k = 1 ∨ k = 2 ∨ k = 3 ∨ k = 4 := by omega
  unfold f_X4_narrow f_X7_fit
  rw [e, Option.bind_some]
  rcases this with rfl | rfl | rfl | rfl | rfl
  · exact ⟨rfl, _, rfl⟩
  · exact ⟨rfl, _, rfl⟩
  · exact ⟨rfl, _, rfl⟩
  · exact ⟨rfl, _, rfl⟩
  · refine ⟨rfl, ?_⟩
    by_cases c : lg_cmp p 0 = 0
    · exact ⟨0, if_pos c⟩
    · exact ⟨1, if_neg c⟩
theorem c_rr1 {j : Nat} {s : SH} (q : CS1 h j s) (e : s.1 = -1) (x : Int32) : f_X6_rowRefusal h (48 + 2 * j) x = some (-4) := by
  simp only [f_X6_rowRefusal, q.ob, Option.bind_some, f_X4_holdsDoor, q.g0, e, eq_true (show (-1 : Int32) < 10 by decide), if_true, f_X4_isEmpty, eq_self, eq_false (show ¬ (1 : Int32) = 0 by decide), if_false]
theorem c_rr2 {j k : Nat} {s : SH} (q : CS1 h j s) (hk : k < 5) (e : s.1 = nI k) (x : Int32) : f_X6_rowRefusal h (48 + 2 * j) x = some (if x ≤ s.2.1 then 0 else -2) := by
  have e1 := eq_true (show nI k < 10 from nI_lt (b := 10) (by omega) (by decide))
  have e2 := eq_false (show ¬ nI k = -1 from nI_nm1 (by omega))
  simp only [f_X6_rowRefusal, q.ob, Option.bind_some, f_X4_holdsDoor, q.g0, e, e1, if_true, f_X4_isEmpty, eq_self, e2, if_false, q.g1]
  split <;> rfl
theorem c_rr3 {j d : Nat} {s : SH} (q : CS1 h j s) (hd : d < 14) (e : s.1 = nI (10 + d)) (x : Int32) : f_X6_rowRefusal h (48 + 2 * j) x = some (-3) := by
  have e1 := eq_false (show ¬ nI (10 + d) < 10 from nI_nlt (b := 10) (by omega) (by omega))
  simp only [f_X6_rowRefusal, q.ob, Option.bind_some, f_X4_holdsDoor, q.g0, e, e1, if_false, eq_false (show ¬ (1 : Int32) = 0 by decide)]
theorem m_nr {g : xH} (qg : MIn g w A) {j : Nat} (hj : j < 8) {s0 : Int32} {f0 : Nat → Int32} (a0 : At g 65 8 f0) (e : f0 j = s0) : f_X7_noRow g 64 (nI j) = if s0 = 2 then refM7 g (-3) else if s0 = 0 then refM7 g (-4) else some (0, g) := by
  have r0 : x_gR g 64 7 0 = some 65 := qg.g (k := 0) (by omega)
  have c : sIs 8 (nI j) = true := (sIs_iff (by decide) _).mpr ⟨j, hj, rfl⟩
  simp only [f_X7_noRow, m_is8, c, i1, Option.bind_some, r0, a0.ld hj (by decide), e]
  rfl
theorem ref_pass {g : xH} (qg : MIn g w A) {i : Nat} (hi : i < 5) {p : Int32} (hp : -p = nI (2 + i)) (hp0 : ¬ p = 0) (F : Int32 × xH → Option (Int32 × xH)) : ((refM7 g p).bind fun q2 => if q2.1 = 0 then F q2 else some (q2.1, q2.2)) = refM7 g p := by
  obtain ⟨g1, e, -, -⟩ := m_refuse qg hi hp
  rw [show refM7 g p = some (p, g1) from e, Option.bind_some, if_neg (show ¬ (p, g1).1 = 0 from hp0)]
theorem b_set (q : CI h D A) (ok : AOk A) (p1 p2 : Int32) (p3 : Int64) : BSt h D w A (f_X6_set h 16 p1 p2 p3) (fun g => f_X7_set g 64 p1 p2 p3) := by
  by_cases c : sIs 8 p1 = true
  · obtain ⟨j, hj, rfl⟩ := (sIs_iff (by decide) p1).mp c
    have qs := q.s1 hj
    rcases ok.2.2.1 j hj with ⟨z1, z2⟩ | ⟨k, z, hk, hz, z1, z2⟩ | ⟨d, hd, z1, z2⟩
    · refine b_ref4 q ok ?_ (fun g qg => ?_)
      · simp only [f_X6_set, refC, c_is8, c, i1, Option.bind_some, q.g4, q.ldS hj, c_rr1 qs z1, eq_false (show ¬ (-4 : Int32) = 0 by decide), if_false]
      · obtain ⟨f0, f1, f2, f5, gg, ⟨a0, -⟩, s⟩ := qg.2.2.1
        have := m_nr qg hj a0 ((s j hj).1 z1)
        rw [if_neg (by decide), if_pos rfl] at this
        show f_X7_set g 64 (nI j) p2 p3 = _
        unfold f_X7_set
        rw [qg.ob, Option.bind_some, this]
        exact ref_pass qg (i := 2) (p := -4) (by decide) (by decide) (by decide) _
    · have rr := c_rr2 qs hk z1 0
      rw [if_pos (by rw [z2]; exact nI_le (a := 0) (by omega) (by omega))] at rr
      have eg : x_gI h (48 + 2 * j) 4 1 = some (nI z) := by rw [qs.g1, z2]
      by_cases c2 : sIs z p2 = true
      · obtain ⟨i, hi, rfl⟩ := (sIs_iff (by omega) p2).mp c2
        have e0 : x_gI h (48 + 2 * j) 4 0 = some (nI k) := by rw [qs.g0, z1]
        obtain ⟨fe, v, fv⟩ := fitE (h := h) (g := h) hk e0 p3
        obtain ⟨q1, q2, q3, f, q4, q5⟩ := id qs
        obtain ⟨h1, e1, g1, f1⟩ := w_stL q4 (j := i) (by omega) (by decide) v
        obtain ⟨d1, d2⟩ := q.shelf (s := ((zS A j).1, (zS A j).2.1, vp_updL (zS A j).2.2 i v)) hj ⟨f1.1 _ _ _ _ id q1, f1.1 _ _ _ _ id q2, f1.1 _ _ _ _ id q3, _, g1, fun y i' hi' => by
          by_cases e : i' = i
          · rw [e, uL_s]; exact uL_s.symm
          · rw [uL_n e, q5 y i' hi']; exact (uL_n e).symm⟩ (Fr.mono f1 (fun _ _ z => z.elim) (fun _ z => z))
        refine ⟨1, _, ⟨h1, ?_, d1, d2⟩, fun g qg => ?_, setS_ok ok (Or.inr (Or.inl ⟨k, z, hk, hz, z1, z2⟩)) (fun d hd y => ok.2.2.2.2 j hj d hd y)⟩
        · simp only [f_X6_set, c_is8, c, i1, Option.bind_some, q.g4, q.ldS hj, rr, if_true, eq_self, qs.ob, c_hasEl eg, c2, f_X4_put, qs.g2, fe, fv, e1]
        · obtain ⟨f0, f1', f2, f5, gg, ⟨a0, a1, a2, a5, ⟨fo, ao1, ao2⟩, al, gv, gv1⟩, s⟩ := qg.2.2.1
          obtain ⟨b1, b2, b3, b4⟩ := (s j hj).2.1 k hk z1
          have nr := m_nr qg hj a0 b1
          rw [if_neg (by decide), if_neg (by decide)] at nr
          have r1 : x_gR g 64 7 1 = some 66 := qg.g (k := 1) (by omega)
          have r2 : x_gR g 64 7 2 = some 67 := qg.g (k := 2) (by omega)
          have r3 : x_gR g 64 7 3 = some 68 := qg.g (k := 3) (by omega)
          have mz : f_X7_in g (nI i).toInt64 0 (nI z - 1).toInt64 = some (bI (sIs z (nI i))) := m_is (by omega) (nI_predI (by omega)) _
          obtain ⟨k1, x1, b5, u1⟩ := w_stL (al j hj) (j := i) (by omega) (by decide) v
          have fv' : f_X7_fit g (nI k) p3 = some v := fv
          obtain ⟨d1, d2⟩ := qg.shelf (j := j) (s := ((zS A j).1, (zS A j).2.1, vp_updL (zS A j).2.2 i v)) (h' := k1) ⟨f0, f1', f2, f5, fun t => if t = j then vp_updL (gg j) i v else gg t, ⟨u1.2 _ _ (fun z => by omega) a0, u1.2 _ _ (fun z => by omega) a1, u1.2 _ _ (fun z => by omega) a2, u1.2 _ _ (fun z => by omega) a5, ⟨fo, u1.2 _ _ (fun z => by omega) ao1, ao2⟩, fun t ht => by
            dsimp only
            by_cases e : t = j
            · rw [if_pos e, e]; exact b5
            · rw [if_neg e]; exact u1.2 _ _ (fun z => by omega) (al t ht), gv, u1.2 _ _ (fun z => by omega) gv1⟩, fun t ht => by
            dsimp only
            by_cases e : t = j
            · rw [if_pos e, e]
              obtain ⟨s0, s1, s2⟩ := s j hj
              refine ⟨s0, fun k' hk' y => ?_, s2⟩
              obtain ⟨y1, y2, y3, y4⟩ := s1 k' hk' y
              refine ⟨y1, y2, y3, fun i' hi' => ?_⟩
              dsimp only
              rw [if_pos rfl]
              by_cases e : i' = i
              · rw [e, uL_s, uL_s]
              · rw [uL_n e, uL_n e]; exact y4 i' hi'
            · rw [if_neg e]
              obtain ⟨s0, s1, s2⟩ := s t ht
              refine ⟨s0, fun k' hk' y => ?_, s2⟩
              dsimp only
              rw [if_neg e]
              exact s1 k' hk' y⟩ (Fr.mono u1 (fun _ _ z => z) (fun _ z => by omega))
          refine ⟨k1, ?_, d1, d2⟩
          simp only [f_X7_set, qg.ob, Option.bind_some, nr, eq_self, if_true, r2, a2.ld hj (by decide), b3, z2, mz, c2, i1, r3, AtQ.ld ao1 rfl hj (by decide) (ao2 j hj), r1, a1.ld hj (by decide), b2, fv', x1]
      · refine b_ref2 q ok ?_ (fun g qg => ?_)
        · simp only [f_X6_set, refC, c_is8, c, i1, i0, Option.bind_some, q.g4, q.ldS hj, rr, if_true, eq_self, qs.ob, c_hasEl eg, sIs_no c2]
        · obtain ⟨f0, f1', f2, f5, gg, ⟨a0, a1, a2, a5, -⟩, s⟩ := qg.2.2.1
          obtain ⟨b1, b2, b3, b4⟩ := (s j hj).2.1 k hk z1
          have nr := m_nr qg hj a0 b1
          rw [if_neg (by decide), if_neg (by decide)] at nr
          have r2 : x_gR g 64 7 2 = some 67 := qg.g (k := 2) (by omega)
          have mz : f_X7_in g p2.toInt64 0 (nI z - 1).toInt64 = some (bI (sIs z p2)) := m_is (by omega) (nI_predI (by omega)) _
          simp only [f_X7_set, refM7, qg.ob, Option.bind_some, nr, eq_self, if_true, r2, a2.ld hj (by decide), b3, z2, mz, sIs_no c2, i0]
    · refine b_ref3 q ok ?_ (fun g qg => ?_)
      · simp only [f_X6_set, refC, c_is8, c, i1, Option.bind_some, q.g4, q.ldS hj, c_rr3 qs hd z1, eq_false (show ¬ (-3 : Int32) = 0 by decide), if_false]
      · obtain ⟨f0, f1, f2, f5, gg, ⟨a0, -⟩, s⟩ := qg.2.2.1
        have := m_nr qg hj a0 ((s j hj).2.2 d hd z1).1
        rw [if_pos rfl] at this
        show f_X7_set g 64 (nI j) p2 p3 = _
        unfold f_X7_set
        rw [qg.ob, Option.bind_some, this]
        exact ref_pass qg (i := 1) (p := -3) (by decide) (by decide) (by decide) _
  · refine b_ref2 q ok ?_ (fun g qg => ?_)
    · simp only [f_X6_set, refC, c_is8, sIs_no c, i0, Option.bind_some]
    · have nr : f_X7_noRow g 64 p1 = refM7 g (-2) := by
        simp only [f_X7_noRow, refM7, m_is8, sIs_no c, i0, Option.bind_some]
      show f_X7_set g 64 p1 p2 p3 = _
      unfold f_X7_set
      rw [qg.ob, Option.bind_some, nr]
      exact ref_pass qg (i := 0) (p := -2) (by decide) (by decide) (by decide) _
theorem b_shutIn (q : CI h D A) (ok : AOk A) (hn : 20 ≤ n) : BVl w A (f_X6_shutIn n h 16) (fun g => f_X7_shutIn n g 64) := ⟨sShutIn (zH A), by simp only [f_X6_shutIn, q.g0, q.H.ob, Option.bind_some, h_shutInBits q.H ok.H hn], fun g qg => m_shutIn qg.H ok.H hn⟩
end Bop
