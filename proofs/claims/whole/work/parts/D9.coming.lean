/-! coming, first, all, lost. -/
section Mk
variable {h h' g g' : xH} {w w' : Nat → Nat} {A : AS} {D : DS} {n : Nat}
theorem b_coming (j : JJ h D w A) (l : lim D 4) (p1 p2 : Int32) (hn : 700000 ≤ n) : JGt h D w A 4 (f_X6_coming n h 16 p1 p2) (fun g => f_X7_coming n g 64 p1 p2) := by
  obtain ⟨q, jm, jw, ok⟩ := id j
  have h14 := ok.1.1
  have h4 := ok.1.2.1
  by_cases c : sIs (hP (zH A)) p1 = true
  · by_cases c2 : sIs 8 p2 = true
    · by_cases h9 : hD (zH A) ≤ 9
      · obtain ⟨p, hp, rfl⟩ := (sIs_iff (by omega) p1).mp c
        obtain ⟨r, hr, rfl⟩ := (sIs_iff (by decide) p2).mp c2
        have l9 : nI (hD (zH A)) ≤ (9 : Int32) := nI_le (b := 9) h9 (by decide)
        obtain ⟨h1, b, cc, ss, D1, w1, e1, x1, an⟩ := j_to (n := n) j (p := p) (r := r) ⟨by have := l.1; omega, by have := l.2; omega⟩ h9 hp hr (by omega)
        refine jg_of (k := 4) (r := b) ok (h1 := h1) (D1 := D1) (w1 := w1) (c := cc) (s := ss) ?_ ⟨x1.1, ⟨by have := x1.2.1.1; omega, by have := x1.2.1.2; omega⟩, x1.2.2⟩ (fun g w nz qg => ?_)
        · unfold f_X6_coming
          rw [q.g0, Option.bind_some, q.H.ob, Option.bind_some, h_hasOne q.H, c, Option.bind_some, i1, c_isR, c2, Option.bind_some, i1, Option.bind_some, q.H.D, Option.bind_some, if_pos l9, q.ob, Option.bind_some, e1, Option.bind_some, xad, Nat.add_zero, Nat.add_zero]
        · obtain ⟨g1, w1, c3, s3, b', e3, x3, an3, -⟩ := m_to (n := n) (p := p) (r := r) qg (Or.inl nz) ok h9 hp hr hn
          refine ⟨g1, w1, c3, s3, ?_, x3⟩
          show f_X7_coming n g 64 (nI p) (nI r) = _
          unfold f_X7_coming
          rw [qg.ob, Option.bind_some, m_isOne qg.H ok.1, c, Option.bind_some, i1, m_isR, c2, Option.bind_some, i1, qg.H.D, Option.bind_some, if_pos l9, Option.bind_some, e3, Option.bind_some, xad, Nat.add_zero, Nat.add_zero, (ans_eq an an3).1]
      · have l9 : ¬ nI (hD (zH A)) ≤ (9 : Int32) := nI_ge (b := hD (zH A)) (a := 9) (by omega) (by omega)
        refine jg_5 j ?_ (fun g w qg => ?_)
        · simp only [f_X6_coming, refCC, q.g0, q.H.ob, h_hasOne q.H, c, i1, c_isR, c2, q.H.D, Option.bind_some, eq_false l9, if_false]
        · simp only [f_X7_coming, refMM, qg.ob, m_isOne qg.H ok.1, c, i1, m_isR, c2, qg.H.D, Option.bind_some, eq_false l9, if_false]
    · refine jg_2 j ?_ (fun g w qg => ?_)
      · simp only [f_X6_coming, refCC, q.g0, q.H.ob, h_hasOne q.H, c, i1, c_isR, sIs_no c2, i0, Option.bind_some]
      · simp only [f_X7_coming, refMM, qg.ob, m_isOne qg.H ok.1, c, i1, m_isR, sIs_no c2, i0, Option.bind_some]
  · refine jg_2 j ?_ (fun g w qg => ?_)
    · simp only [f_X6_coming, refCC, q.g0, q.H.ob, h_hasOne q.H, sIs_no c, i0, Option.bind_some]
    · simp only [f_X7_coming, refMM, qg.ob, m_isOne qg.H ok.1, sIs_no c, i0, Option.bind_some]
theorem b_first (j : JJ h D w A) (l : lim D 4) (p1 p2 : Int32) (hn : 700000 ≤ n) : JGt h D w A 4 (f_X6_first n h 16 p1 p2) (fun g => f_X7_first n g 64 p1 p2) := by
  obtain ⟨q, jm, jw, ok⟩ := id j
  have h14 := ok.1.1
  have h4 := ok.1.2.1
  by_cases c : sIs (hP (zH A)) p1 = true
  · by_cases c2 : sIs 8 p2 = true
    · by_cases h9 : hD (zH A) ≤ 9
      · obtain ⟨p, hp, rfl⟩ := (sIs_iff (by omega) p1).mp c
        obtain ⟨r, hr, rfl⟩ := (sIs_iff (by decide) p2).mp c2
        have l9 : nI (hD (zH A)) ≤ (9 : Int32) := nI_le (b := 9) h9 (by decide)
        obtain ⟨h1, b, cc, ss, D1, w1, e1, x1, an⟩ := j_to (n := n) j (p := p) (r := r) ⟨by have := l.1; omega, by have := l.2; omega⟩ h9 hp hr (by omega)
        have eC : f_X6_first n h 16 (nI p) (nI r) = x_add cc ss (if b ≤ 0 then some ((-1, h1), 0, 0) else (f_X3_leastFirst h1 35).bind fun q17 => some ((q17, h1), 0, 0)) := by
          unfold f_X6_first
          rw [q.g0, Option.bind_some, q.H.ob, Option.bind_some, h_hasOne q.H, c, Option.bind_some, i1, c_isR, c2, Option.bind_some, i1, Option.bind_some, q.H.D, Option.bind_some, if_pos l9, q.ob, Option.bind_some, e1, Option.bind_some, x1.1.1.g6, Option.bind_some, o35 x1.1.1, Option.bind_some]
        have eM : ∀ {g w g1 w1 c3 s3}, MIn g w A → f_X7_comingTo n g 64 (nI p) (nI r) = some ((b, g1), c3, s3) → MX g w g1 w1 A c3 s3 → f_X7_first n g 64 (nI p) (nI r) = x_add c3 s3 (if b ≤ 0 then some ((-1, g1), 0, 0) else (x_gI g1 64 7 33).bind fun x13 => some ((x13, g1), 0, 0)) := fun {g w g1 w1 c3 s3} qg e3 x3 => by
          unfold f_X7_first
          rw [qg.ob, Option.bind_some, m_isOne qg.H ok.1, c, Option.bind_some, i1, m_isR, c2, Option.bind_some, i1, qg.H.D, Option.bind_some, if_pos l9, Option.bind_some, e3, Option.bind_some]
        have x1' : JR D w h1 D1 w1 A 4 cc ss := ⟨x1.1, ⟨by have := x1.2.1.1; omega, by have := x1.2.1.2; omega⟩, x1.2.2⟩
        by_cases b0 : b ≤ 0
        · refine jg_of (k := 4) (r := -1) ok (h1 := h1) (D1 := D1) (w1 := w1) (c := cc) (s := ss) ?_ x1' (fun g w nz qg => ?_)
          · rw [eC, if_pos b0, xad, Nat.add_zero, Nat.add_zero]
          · obtain ⟨g1, w1, c3, s3, b', e3, x3, an3, -⟩ := m_to (n := n) (p := p) (r := r) qg (Or.inl nz) ok h9 hp hr hn
            rw [← (ans_eq an an3).1] at e3
            refine ⟨g1, w1, c3, s3, ?_, x3⟩
            show f_X7_first n g 64 (nI p) (nI r) = _
            rw [eM qg e3 x3, if_pos b0, xad, Nat.add_zero, Nat.add_zero]
        · have kx : ∃ k f, b = nI k ∧ k ≤ 16384 ∧ 0 < k ∧ Best (gOf A p (fun _ => r) 1) k f ∧ f_X3_leastFirst h1 35 = some (nI f) := by
            rcases an with ⟨z1, -⟩ | ⟨k, f, z1, z2, z3, z4⟩
            · exact absurd (by rw [z1]; decide) b0
            · have : 0 < k := by
                rcases Nat.eq_zero_or_pos k with z | z
                · exact absurd (by rw [z1, z]; decide) b0
                · exact z
              exact ⟨k, f, z1, z2, this, z3, z4 this⟩
          obtain ⟨k, f, z1, z2, z3, z4, z5⟩ := kx
          refine jg_of (k := 4) (r := nI f) ok (h1 := h1) (D1 := D1) (w1 := w1) (c := cc) (s := ss) ?_ x1' (fun g w nz qg => ?_)
          · rw [eC, if_neg b0, z5, Option.bind_some, xad, Nat.add_zero, Nat.add_zero]
          · obtain ⟨g1, w1, c3, s3, b', e3, x3, an3, -⟩ := m_to (n := n) (p := p) (r := r) qg (Or.inl nz) ok h9 hp hr hn
            rw [← (ans_eq an an3).1] at e3
            refine ⟨g1, w1, c3, s3, ?_, x3⟩
            show f_X7_first n g 64 (nI p) (nI r) = _
            have y : x_gI g1 64 7 33 = some (nI f) := by
              rcases an3 with ⟨y1, y2⟩ | ⟨k', f', y1, y2, y3, y4⟩
              · obtain ⟨x, r, z⟩ := z4.1
                exact absurd z (y2 _ _ _ _)
              · rw [y4, (z4.uniq y3).2]
            rw [eM qg e3 x3, if_neg b0, y, Option.bind_some, xad, Nat.add_zero, Nat.add_zero]
      · have l9 : ¬ nI (hD (zH A)) ≤ (9 : Int32) := nI_ge (b := hD (zH A)) (a := 9) (by omega) (by omega)
        refine jg_5 j ?_ (fun g w qg => ?_)
        · simp only [f_X6_first, refCC, q.g0, q.H.ob, h_hasOne q.H, c, i1, c_isR, c2, q.H.D, Option.bind_some, eq_false l9, if_false]
        · simp only [f_X7_first, refMM, qg.ob, m_isOne qg.H ok.1, c, i1, m_isR, c2, qg.H.D, Option.bind_some, eq_false l9, if_false]
    · refine jg_2 j ?_ (fun g w qg => ?_)
      · simp only [f_X6_first, refCC, q.g0, q.H.ob, h_hasOne q.H, c, i1, c_isR, sIs_no c2, i0, Option.bind_some]
      · simp only [f_X7_first, refMM, qg.ob, m_isOne qg.H ok.1, c, i1, m_isR, sIs_no c2, i0, Option.bind_some]
  · refine jg_2 j ?_ (fun g w qg => ?_)
    · simp only [f_X6_first, refCC, q.g0, q.H.ob, h_hasOne q.H, sIs_no c, i0, Option.bind_some]
    · simp only [f_X7_first, refMM, qg.ob, m_isOne qg.H ok.1, sIs_no c, i0, Option.bind_some]
theorem b_all (j : JJ h D w A) (l : lim D 4) (p1 : Int32) (hn : 700000 ≤ n) : JGt h D w A 4 (f_X6_all n h 16 p1) (fun g => f_X7_all n g 64 p1) := by
  obtain ⟨q, jm, jw, ok⟩ := id j
  have h14 := ok.1.1
  have h4 := ok.1.2.1
  by_cases c : sIs (hP (zH A)) p1 = true
  · by_cases h9 : hD (zH A) ≤ 9
    · obtain ⟨p, hp, rfl⟩ := (sIs_iff (by omega) p1).mp c
      have l9 : nI (hD (zH A)) ≤ (9 : Int32) := nI_le (b := 9) h9 (by decide)
      obtain ⟨h1, b, cc, ss, D1, w1, e1, x1, bb⟩ := j_rooms (n := n) j (p := p) ⟨by have := l.1; omega, by have := l.2; omega⟩ h9 hp (by omega)
      refine jg_of (k := 4) (r := b) ok (h1 := h1) (D1 := D1) (w1 := w1) (c := cc) (s := ss) ?_ ⟨x1.1, ⟨by have := x1.2.1.1; omega, by have := x1.2.1.2; omega⟩, x1.2.2⟩ (fun g w nz qg => ?_)
      · unfold f_X6_all
        rw [q.g0, Option.bind_some, q.H.ob, Option.bind_some, h_hasOne q.H, c, Option.bind_some, i1, Option.bind_some, q.H.D, Option.bind_some, if_pos l9, q.g6, Option.bind_some, Option.bind_some, o35 q, Option.bind_some, e1, Option.bind_some, xad, Nat.add_zero, Nat.add_zero]
      · obtain ⟨y29, y31, ⟨x, em, y, y30, y32, y33⟩, ⟨fg, fe, y6, y7⟩, -⟩ := qg.2.2.2.2.2.2.2.1
        obtain ⟨g2, e2, p2, f2⟩ := w_put y30 (.int 0)
        have f : Fr (fun a k => a = 64 ∧ k = 30) (fun a => a = 98) g g2 := Fr.mono f2 (fun _ _ z => z) (fun _ z => z.elim)
        have a2 := f2.2 _ _ (fun z => z) y6
        obtain ⟨t1, t2⟩ := qg.goal f p2 a2
        have nz2 : Nz g2 w := nz.fr qg f (fun a k h z => by omega) (fun a h z => by omega)
        obtain ⟨g3, w3, c3, s3, af, ab, em', fe', T, y', e3, x3, sx, fin, -, -⟩ := m_find (n := n) (p := p) (m := 0) (gl := fun _ => 0) t1 (Or.inl nz2) ok h9 hp (by decide) (fun _ z => absurd z (Nat.not_lt_zero _)) p2 ⟨_, a2, fun _ z => absurd z (Nat.not_lt_zero _)⟩ hn
        obtain ⟨v, e4, bv⟩ := sx_all (N := n) sx (gOf_ok ok h9 hp (by decide)) fin rfl (by omega)
        have bvv : v = b := by
          apply b_ext
          intro k hk
          have o0 := gOf_ok (gl := fun _ => 0) (m := 0) ok h9 hp (by decide)
          have o8 := gOf_ok (gl := fun _ => 8) (m := 1) ok h9 hp (by decide)
          have : bt v k = true ↔ bt b k = true := by
            rw [bv k hk, bb k]
            constructor
            · rintro ⟨n, f, x, z⟩
              exact ⟨n, f, 0, x, (R_nogoal (G' := gOf A p (fun _ => 8) 1) o0 o8 rfl rfl rfl rfl rfl rfl rfl z).2⟩
            · rintro ⟨n, f, t, x, z⟩
              exact ⟨n, f, x, (R_nogoal' (G := gOf A p (fun _ => 0) 0) o0 o8 rfl rfl rfl rfl rfl rfl rfl z).2⟩
          cases z1 : bt v k <;> cases z2 : bt b k <;> simp_all
        refine ⟨g3, w3, 0 + c3, 0 + s3, ?_, (MX.of t1 t2).trans x3⟩
        show f_X7_all n g 64 (nI p) = _
        unfold f_X7_all
        rw [qg.ob, Option.bind_some, m_isOne qg.H ok.1, c, Option.bind_some, i1, qg.H.D, Option.bind_some, if_pos l9, e2, Option.bind_some, t1.ob, Option.bind_some, e3, Option.bind_some]
        dsimp only
        rw [e4, Option.bind_some, xad, bvv, Nat.add_zero, Nat.add_zero, Nat.zero_add, Nat.zero_add]
    · have l9 : ¬ nI (hD (zH A)) ≤ (9 : Int32) := nI_ge (b := hD (zH A)) (a := 9) (by omega) (by omega)
      refine jg_5 j ?_ (fun g w qg => ?_)
      · simp only [f_X6_all, refCC, q.g0, q.H.ob, h_hasOne q.H, c, i1, q.H.D, Option.bind_some, eq_false l9, if_false]
      · simp only [f_X7_all, refMM, qg.ob, m_isOne qg.H ok.1, c, i1, qg.H.D, Option.bind_some, eq_false l9, if_false]
  · refine jg_2 j ?_ (fun g w qg => ?_)
    · simp only [f_X6_all, refCC, q.g0, q.H.ob, h_hasOne q.H, sIs_no c, i0, Option.bind_some]
    · simp only [f_X7_all, refMM, qg.ob, m_isOne qg.H ok.1, sIs_no c, i0, Option.bind_some]
end Mk
