/-! errands, whole. -/
theorem e4I : (4 : Int32).toInt64.toInt = ((4 : Nat) : Int) := by decide
theorem n4 {p : Int32} (c : ¬ sIs 5 p = true) (h0 : ¬ p < 0) : ¬ p ≤ 4 := fun z => by
  apply c
  rw [sIs_toInt (by decide)]
  rw [lt0] at h0
  have := (leN (k := 4) (by decide) p).mp z
  simp only [Bool.and_eq_true, decide_eq_true_eq]
  omega
section Mk
variable {h h' g g' : xH} {w w' : Nat → Nat} {A : AS} {D : DS} {n : Nat}
theorem b_errR {p j k z m : Nat} (jj : JJ h D w A) (l : lim D 4) (hp : p < hP (zH A)) (hj : j < 8) (hm : m ≤ 4) (hk : k < 5) (z1 : (zS A j).1 = nI k) (z2 : (zS A j).2.1 = nI z) (hz : z ≤ 40) (hmz : m ≤ z) (h9 : hD (zH A) ≤ 9) (hn : 700000 ≤ n) : JGt h D w A 4 (f_X6_errands n h 16 (nI p) (nI j) (nI m)) (fun g => f_X7_errands n g 64 (nI p) (nI j) (nI m)) := by
  obtain ⟨q, jm, jw, ok⟩ := id jj
  have h4 := ok.1.2.1
  have c : sIs (hP (zH A)) (nI p) = true := (sIs_iff (by omega) _).mpr ⟨p, hp, rfl⟩
  have c2 : sIs 8 (nI j) = true := (sIs_iff (by omega) _).mpr ⟨j, hj, rfl⟩
  have l9 : nI (hD (zH A)) ≤ (9 : Int32) := nI_le (b := 9) h9 (by decide)
  have rr := c_rr2 (q.s1 hj) hk z1 (nI m)
  rw [z2, if_pos (nI_le hmz (by omega))] at rr
  obtain ⟨v, fg, sg⟩ := q.2.2.2.2.2.2.1
  obtain ⟨h1, e1, sg1, f1⟩ := sg_forget sg
  have j1 := jr_same jj f1 sg1
  obtain ⟨h2, w2, j2, a2, b2⟩ := c_errL (p1 := nI p) hj hk z1 hm m 0 n h1 _ _ _ (by omega) (by omega) j1.1 sg1 pk_us (fun y hy => absurd hy (Nat.not_lt_zero _))
  have eC : f_X6_errands n h 16 (nI p) (nI j) (nI m) = (f_X6_errands_L91 16 (nI p) (nI m) (48 + 2 * j) n 0 h1).bind fun q28 => match q28 with
              | .inl r29 => some (r29, 0, 0)
              | .inr e30 =>
                (x_gR e30 16 6 6).bind fun a31 =>
                (x_gR e30 16 6 0).bind fun a32 =>
                (x_ob e30 a31 3).bind fun u33 =>
                (f_X3_fewestFor n e30 a31 a32 (nI p)).bind fun q34 =>
                x_add q34.2.1 q34.2.2 <|
                some ((q34.1.1, q34.1.2), 0, 0) := by
    unfold f_X6_errands
    rw [q.g0, Option.bind_some, q.H.ob, Option.bind_some, h_hasOne q.H, c, Option.bind_some, i1, c_is8, c2, Option.bind_some, i1, if_neg (show ¬ nI m < 0 from nI_pos (by omega)), if_pos (show nI m ≤ 4 from nI_le (b := 4) hm (by decide)), q.g4, Option.bind_some, q.ldS hj, Option.bind_some, rr, Option.bind_some, if_pos rfl, Option.bind_some, q.H.D, Option.bind_some, if_pos l9, q.g6, Option.bind_some, o35 q, Option.bind_some, e1, Option.bind_some]
    rfl
  have eM : ∀ {g w}, MIn g w A → f_X7_errands n g 64 (nI p) (nI j) (nI m) = (f_X7_errands_L51 64 (nI p) (nI j) (nI m) n 0 g).bind fun q20 => match q20 with
        | .inl r21 => some (r21, 0, 0)
        | .inr e22 =>
          (x_put e22 64 7 30 (.int (nI m))).bind fun h23 =>
          (x_ob h23 64 7).bind fun u24 =>
          (f_X7_findComing n h23 64 (nI p)).bind fun q25 =>
          x_add q25.2.1 q25.2.2 <|
          (x_ob q25.1 64 7).bind fun u28 =>
          (f_X7_fewest n q25.1 64).bind fun q29 =>
          some ((q29.1, q29.2), 0, 0) := fun {g w} qg => by
    unfold f_X7_errands
    rw [qg.ob, Option.bind_some, m_isOne qg.H ok.1, c, Option.bind_some, i1, Option.bind_some, mt_5 qg hj (K := 4) (by decide) e4I hm hk z1 z2 hz, if_pos hmz, Option.bind_some]
    dsimp only
    rw [if_pos rfl, qg.H.D, Option.bind_some, if_pos l9]
    rfl
  have mm : ∀ {g w}, MIn g w A → ∃ g', MIn g' w A ∧ FrR w g g' ∧ Fr (fun _ _ => False) (fun a => a = 98) g g' ∧ (erB (zS A j).2.2 m 0 = false → f_X7_errands_L51 64 (nI p) (nI j) (nI m) n 0 g = some (.inl (-1, g'))) ∧ (erB (zS A j).2.2 m 0 = true → f_X7_errands_L51 64 (nI p) (nI j) (nI m) n 0 g = some (.inr g') ∧ ∃ fg', At g' 98 4 fg' ∧ ∀ y, y < m → fg' y = nI ((zS A j).2.2 y).toInt.toNat) := fun {g w} qg => by
    obtain ⟨fg0, fe0, y6, -⟩ := qg.2.2.2.2.2.2.2.1.2.2.2.1
    exact m_errL (p1 := nI p) hj hk z1 hm m 0 n g fg0 (by omega) (by omega) qg y6 (fun y hy => absurd hy (Nat.not_lt_zero _))
  cases er : erB (zS A j).2.2 m 0 with
  | false =>
    have j12 := j1.trans j2
    refine jg_of (k := 4) (r := -1) ok (h1 := h2) (D1 := D) (w1 := w2) (c := 0) (s := 0) ?_ ⟨j12.1, fx_mono (Nat.zero_le _) j12.2.1, j12.2.2⟩ (fun g w nz qg => ?_)
    · rw [eC, show f_X6_errands_L91 16 (nI p) (nI m) (48 + 2 * j) n 0 h1 = _ from a2 er, Option.bind_some]
    · obtain ⟨g', t1, t2, -, t4, -⟩ := mm qg
      refine ⟨g', w, 0, 0, ?_, MX.of t1 t2⟩
      show f_X7_errands n g 64 (nI p) (nI j) (nI m) = _
      rw [eM qg, t4 er, Option.bind_some]
  | true =>
    obtain ⟨e2, v2, fg2, sg2, v21, hg2⟩ := b2 er
    have all := erB_all m 0 er
    have hl : ∀ y, y < m → ((zS A j).2.2 y).toInt.toNat < 32 := fun y hy => by
      have := (rm_ex (all y (Nat.zero_le _) (by omega))).1
      omega
    obtain ⟨h3, b, c3, s3, D3, w3, e3, j3, an⟩ := j_few (n := n) (p := p) (m := m) (gl := fun y => ((zS A j).2.2 y).toInt.toNat) j2.1 (lim_mono (by decide) l) h9 hp hm sg2 v21 hg2 hl (by omega)
    have j123 := (j1.trans j2).trans j3
    simp only [Nat.zero_add] at j123
    refine jg_of (k := 4) (r := b) ok (h1 := h3) (D1 := D3) (w1 := w3) (c := c3) (s := s3) ?_ ⟨j123.1, fx_mono (by decide) j123.2.1, j123.2.2⟩ (fun g w nz qg => ?_)
    · rw [eC, show f_X6_errands_L91 16 (nI p) (nI m) (48 + 2 * j) n 0 h1 = _ from e2, Option.bind_some]
      dsimp only
      rw [j2.1.1.g6, Option.bind_some, j2.1.1.g0, Option.bind_some, o35 j2.1.1, Option.bind_some, e3, Option.bind_some, xad, Nat.add_zero, Nat.add_zero]
    · obtain ⟨g1, t1, t2, t3, -, t5⟩ := mm qg
      obtain ⟨u1, fg1, u2, u3⟩ := t5 er
      obtain ⟨-, -, ⟨x, em, y, y30, -, -⟩, -, -⟩ := t1.2.2.2.2.2.2.2.1
      obtain ⟨g2, e4, p4, f4⟩ := w_put y30 (.int (nI m))
      have a4 := f4.2 _ _ (fun z => z) u2
      have f : Fr (fun a k => a = 64 ∧ k = 30) (fun a => a = 98) g1 g2 := Fr.mono f4 (fun _ _ z => z) (fun _ z => z.elim)
      obtain ⟨t6, t7⟩ := t1.goal f p4 a4
      have nz1 : Nz g1 w := nz.fr qg t3 (fun a k h z => z) (fun a h z => by omega)
      have nz2 : Nz g2 w := nz1.fr t1 f (fun a k h z => by omega) (fun a h z => by omega)
      obtain ⟨g3, w3, c5, s5, b', e5, x5, an5, -⟩ := m_ff (n := n) (p := p) (m := m) (gl := fun y => ((zS A j).2.2 y).toInt.toNat) t6 (Or.inl nz2) ok h9 hp hm hl p4 ⟨_, a4, u3⟩ hn
      refine ⟨g3, w3, 0 + c5, 0 + s5, ?_, ((MX.of t1 t2).st t6 t7).trans x5⟩
      show f_X7_errands n g 64 (nI p) (nI j) (nI m) = _
      rw [eM qg, u1, Option.bind_some]
      dsimp only
      rw [e4, Option.bind_some, t6.ob, Option.bind_some, (ans_eq an an5).1, Nat.zero_add, Nat.zero_add]
      exact e5
/-- errands -/
theorem b_errands (jj : JJ h D w A) (l : lim D 4) (p1 p2 p3 : Int32) (hn : 700000 ≤ n) : JGt h D w A 4 (f_X6_errands n h 16 p1 p2 p3) (fun g => f_X7_errands n g 64 p1 p2 p3) := by
  obtain ⟨q, jm, jw, ok⟩ := id jj
  have h14 := ok.1.1
  have h4 := ok.1.2.1
  have eM : ∀ {g w}, MIn g w A → sIs (hP (zH A)) p1 = true → ∀ {i : Nat} {p : Int32}, i < 5 → -p = nI (2 + i) → ¬ p = 0 → f_X7_noTold g 64 p2 p3 4 = refM7 g p → f_X7_errands n g 64 p1 p2 p3 = refMM g p := fun {g w} qg c {i p} hi hp hp0 e => by
    unfold f_X7_errands
    rw [qg.ob, Option.bind_some, m_isOne qg.H ok.1, c, Option.bind_some, i1, Option.bind_some, e]
    exact ref_pass' qg hi hp hp0 _
  by_cases c : sIs (hP (zH A)) p1 = true
  · by_cases c2 : sIs 8 p2 = true
    · by_cases c3 : sIs 5 p3 = true
      · obtain ⟨p, hp, rfl⟩ := (sIs_iff (by omega) p1).mp c
        obtain ⟨j, hj, rfl⟩ := (sIs_iff (by decide) p2).mp c2
        obtain ⟨m, hm, rfl⟩ := (sIs_iff (by decide) p3).mp c3
        have n0 : ¬ nI m < 0 := nI_pos (by omega)
        have l4 : nI m ≤ (4 : Int32) := nI_le (b := 4) (show m ≤ 4 by omega) (by decide)
        have qs := q.s1 hj
        rcases ok.2.2.1 j hj with ⟨z1, z2⟩ | ⟨k, z, hk, hz, z1, z2⟩ | ⟨d, hd, z1, z2⟩
        · refine jg_ref jj (i := 2) (p := -4) (by decide) (by decide) (by decide) ?_ (fun g w qg => eM qg c (i := 2) (by decide) (by decide) (by decide) (mt_3 qg hj (K := 4) (by decide) e4I c3 z1))
          simp only [f_X6_errands, refCC, q.g0, q.H.ob, h_hasOne q.H, c, i1, c_is8, c2, eq_false n0, eq_true l4, if_true, if_false, q.g4, q.ldS hj, c_rr1 qs z1, eq_false (show ¬ (-4 : Int32) = 0 by decide), Option.bind_some]
        · have rr := c_rr2 qs hk z1 (nI m)
          by_cases hmz : m ≤ z
          · by_cases h9 : hD (zH A) ≤ 9
            · exact b_errR jj l hp hj (by omega) hk z1 z2 hz hmz h9 hn
            · rw [z2, if_pos (nI_le hmz (by omega))] at rr
              have l9 : ¬ nI (hD (zH A)) ≤ (9 : Int32) := nI_ge (b := hD (zH A)) (a := 9) (by omega) (by omega)
              refine jg_5 jj ?_ (fun g w qg => ?_)
              · unfold f_X6_errands
                rw [q.g0, Option.bind_some, q.H.ob, Option.bind_some, h_hasOne q.H, c, Option.bind_some, i1, c_is8, c2, Option.bind_some, i1, if_neg n0, if_pos l4, q.g4, Option.bind_some, q.ldS hj, Option.bind_some, rr, Option.bind_some, if_pos rfl, Option.bind_some, q.H.D, Option.bind_some, if_neg l9]
                rfl
              · show f_X7_errands n g 64 (nI p) (nI j) (nI m) = _
                unfold f_X7_errands
                rw [qg.ob, Option.bind_some, m_isOne qg.H ok.1, c, Option.bind_some, i1, Option.bind_some, mt_5 qg hj (K := 4) (by decide) e4I (by omega) hk z1 z2 hz, if_pos hmz, Option.bind_some]
                dsimp only
                rw [if_pos rfl, qg.H.D, Option.bind_some, if_neg l9]
                rfl
          · rw [z2, if_neg (nI_ge (b := m) (show z < m by omega) (by omega))] at rr
            refine jg_2 jj ?_ (fun g w qg => eM qg c (i := 0) (by decide) (by decide) (by decide) (by rw [mt_5 qg hj (K := 4) (by decide) e4I (by omega) hk z1 z2 hz, if_neg hmz]))
            simp only [f_X6_errands, refCC, q.g0, q.H.ob, h_hasOne q.H, c, i1, c_is8, c2, eq_false n0, eq_true l4, if_true, if_false, q.g4, q.ldS hj, rr, eq_false (show ¬ (-2 : Int32) = 0 by decide), Option.bind_some]
        · refine jg_ref jj (i := 1) (p := -3) (by decide) (by decide) (by decide) ?_ (fun g w qg => eM qg c (i := 1) (by decide) (by decide) (by decide) (mt_4 qg hj (K := 4) (by decide) e4I c3 hd z1))
          simp only [f_X6_errands, refCC, q.g0, q.H.ob, h_hasOne q.H, c, i1, c_is8, c2, eq_false n0, eq_true l4, if_true, if_false, q.g4, q.ldS hj, c_rr3 qs hd z1, eq_false (show ¬ (-3 : Int32) = 0 by decide), Option.bind_some]
      · refine jg_2 jj ?_ (fun g w qg => eM qg c (i := 0) (by decide) (by decide) (by decide) (mt_2 qg (K := 4) (by decide) e4I c2 c3))
        by_cases n0 : p3 < 0
        · simp only [f_X6_errands, refCC, q.g0, q.H.ob, h_hasOne q.H, c, i1, c_is8, c2, eq_true n0, if_true, Option.bind_some]
        · simp only [f_X6_errands, refCC, q.g0, q.H.ob, h_hasOne q.H, c, i1, c_is8, c2, eq_false n0, eq_false (n4 c3 n0), if_false, Option.bind_some]
    · refine jg_2 jj ?_ (fun g w qg => eM qg c (i := 0) (by decide) (by decide) (by decide) (mt_1 qg c2))
      simp only [f_X6_errands, refCC, q.g0, q.H.ob, h_hasOne q.H, c, i1, c_is8, sIs_no c2, i0, Option.bind_some]
  · refine jg_2 jj ?_ (fun g w qg => ?_)
    · simp only [f_X6_errands, refCC, q.g0, q.H.ob, h_hasOne q.H, sIs_no c, i0, Option.bind_some]
    · simp only [f_X7_errands, refMM, qg.ob, m_isOne qg.H ok.1, sIs_no c, i0, Option.bind_some]
end Mk
