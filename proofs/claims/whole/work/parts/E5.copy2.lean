/-! copy. -/
section Mk
variable {h h' g g' : xH} {w w' : Nat → Nat} {A : AS} {D : DS} {n : Nat}
theorem cs_e {j : Nat} {s : SH} (q : CS1 h j s) (e : s.1 = -1) : f_X4_holdsDoor h (48 + 2 * j) = some 0 ∧ f_X4_isEmpty h (48 + 2 * j) = some 1 := by
  have g := q.g0
  rw [e] at g
  unfold f_X4_holdsDoor f_X4_isEmpty
  rw [g]
  exact ⟨rfl, rfl⟩
theorem cs_r {j k : Nat} {s : SH} (q : CS1 h j s) (hk : k < 5) (e : s.1 = nI k) : f_X4_holdsDoor h (48 + 2 * j) = some 0 ∧ f_X4_isEmpty h (48 + 2 * j) = some 0 := by
  have g := q.g0
  rw [e] at g
  unfold f_X4_holdsDoor f_X4_isEmpty
  rw [g, Option.bind_some, Option.bind_some, if_pos (k_10 k hk), if_neg (nI_nm1 (by omega))]
  exact ⟨rfl, rfl⟩
theorem cs_d {j d : Nat} {s : SH} (q : CS1 h j s) (hd : d < 14) (e : s.1 = nI (10 + d)) : f_X4_holdsDoor h (48 + 2 * j) = some 1 ∧ f_X4_isEmpty h (48 + 2 * j) = some 0 ∧ f_X4_heldDoor h (48 + 2 * j) = some (nI d) := by
  have g := q.g0
  rw [e] at g
  unfold f_X4_holdsDoor f_X4_isEmpty f_X4_heldDoor
  rw [g, Option.bind_some, Option.bind_some, Option.bind_some, if_neg (d_n10 d hd), if_neg (nI_nm1 (by omega)), d_sub d hd]
  exact ⟨rfl, rfl, rfl⟩
/-- what the reference has on a shelf -/
def m0 (s : SH) : Int32 := if s.1 = -1 then 0 else if s.1 < 10 then 1 else 2
theorem m_sh0 (q : MIn g w A) (ok : AOk A) {j : Nat} (hj : j < 8) : x_gR g 64 7 0 = some 65 ∧ x_ld g 65 (nI j) = some (m0 (zS A j)) := by
  obtain ⟨f0, f1, f2, f5, gg, ⟨a0, -⟩, s⟩ := q.2.2.1
  refine ⟨q.g (k := 0) (by omega), ?_⟩
  rw [At.ld a0 hj (by decide)]
  obtain ⟨s1, s2, s3⟩ := s j hj
  unfold m0
  rcases ok.2.2.1 j hj with ⟨z1, z2⟩ | ⟨k, z, hk, hz, z1, z2⟩ | ⟨d, hd, z1, z2⟩
  · rw [if_pos z1, s1 z1]
  · rw [if_neg (by rw [z1]; exact nI_nm1 (by omega)), if_pos (by rw [z1]; exact k_10 k hk), (s2 k hk z1).1]
  · rw [if_neg (by rw [z1]; exact nI_nm1 (by omega)), if_neg (by rw [z1]; exact d_n10 d hd), (s3 d hd z1).1]
theorem m0_e {s : SH} (e : s.1 = -1) : m0 s = 0 := if_pos e
theorem m0_r {s : SH} {k : Nat} (hk : k < 5) (e : s.1 = nI k) : m0 s = 1 := by
  unfold m0
  rw [if_neg (by rw [e]; exact nI_nm1 (by omega)), if_pos (by rw [e]; exact k_10 k hk)]
theorem m0_d {s : SH} {d : Nat} (hd : d < 14) (e : s.1 = nI (10 + d)) : m0 s = 2 := by
  unfold m0
  rw [if_neg (by rw [e]; exact nI_nm1 (by omega)), if_neg (by rw [e]; exact d_n10 d hd)]
theorem m_J93 {ja jb k za zb : Nat} {p3 p4 p5 : Int32} (q : MIn g w A) (ok : AOk A) (ha : ja < 8) (hb : jb < 8) (hk : k < 5) (a1 : (zS A ja).1 = nI k) (b1 : (zS A jb).1 = nI k) (a2 : (zS A ja).2.1 = nI za) (b2 : (zS A jb).2.1 = nI zb) : f_X7_copy_J93 n g 64 (nI ja) (nI jb) p3 p4 p5 = if (strB za p3 p5 && strB zb p4 p5) = true then (f_X7_copy_L191 64 (nI ja) (nI jb) p3 p4 p5 n 0 g).bind fun q58 => (f_X7_copy_L225 64 (nI jb) p4 p5 n 0 q58).bind fun q66 => some (p5, q66) else refM7 g (-2) := by
  obtain ⟨r0, la⟩ := m_sh0 q ok ha
  obtain ⟨-, lb⟩ := m_sh0 q ok hb
  rw [m0_r hk a1] at la
  rw [m0_r hk b1] at lb
  obtain ⟨f0, f1, f2, f5, gg, ⟨a0, x1, x2, -⟩, s⟩ := q.2.2.1
  have r2 : x_gR g 64 7 2 = some 67 := q.g (k := 2) (by omega)
  have ma := At.ld x2 ha (by decide)
  rw [((s ja ha).2.1 k hk a1).2.2.1, a2] at ma
  have mb := At.ld x2 hb (by decide)
  rw [((s jb hb).2.1 k hk b1).2.2.1, b2] at mb
  have n1 : ¬ (1 : Int32) = 0 := by decide
  have bad : (strB za p3 p5 && strB zb p4 p5) = false → refM7 g (-2) = if (strB za p3 p5 && strB zb p4 p5) = true then (f_X7_copy_L191 64 (nI ja) (nI jb) p3 p4 p5 n 0 g).bind fun q58 => (f_X7_copy_L225 64 (nI jb) p4 p5 n 0 q58).bind fun q66 => some (p5, q66) else refM7 g (-2) := fun z => by rw [z, if_neg (by decide)]
  unfold f_X7_copy_J93
  rw [r0, Option.bind_some, la, Option.bind_some, if_neg n1, Option.bind_some, lb, Option.bind_some, if_neg n1]
  by_cases c5 : p5 < 0
  · rw [if_pos c5]
    exact bad (by unfold strB; simp [c5])
  rw [if_neg c5]
  by_cases c3 : p3 < 0
  · rw [if_pos c3]
    exact bad (by unfold strB; simp [c3])
  rw [if_neg c3]
  by_cases c4 : p4 < 0
  · rw [if_pos c4]
    exact bad (by unfold strB; simp [c4])
  rw [if_neg c4, r2, Option.bind_some, ma, Option.bind_some]
  by_cases d1 : nI za < p5
  · rw [if_pos d1]
    exact bad (by unfold strB; simp [d1])
  rw [if_neg d1, Option.bind_some, mb, Option.bind_some]
  by_cases d2 : nI zb < p5
  · rw [if_pos d2]
    exact bad (by unfold strB; simp [d2])
  rw [if_neg d2, Option.bind_some, ma, Option.bind_some]
  by_cases d3 : nI za - p5 < p3
  · rw [if_pos d3]
    exact bad (by unfold strB; simp [d3])
  rw [if_neg d3, Option.bind_some, mb, Option.bind_some]
  by_cases d4 : nI zb - p5 < p4
  · rw [if_neg (show ¬ p4 ≤ nI zb - p5 from Int32.not_le.mpr d4)]
    exact bad (by unfold strB; simp [d4])
  · rw [if_pos (show p4 ≤ nI zb - p5 from Int32.not_lt.mp d4), if_pos (show (strB za p3 p5 && strB zb p4 p5) = true by unfold strB; simp [c5, c3, c4, d1, d2, d3, d4])]
/-- the copying -/
theorem b_cpR {ja jb k s d m : Nat} (q : CI h D A) (ok : AOk A) (ha : ja < 8) (hb : jb < 8) (hk : k < 5) (a1 : (zS A ja).1 = nI k) (b1 : (zS A jb).1 = nI k) (hs : s + m ≤ 40) (hd : d + m ≤ 40) {X : Option (Int32 × xH)} {Y : xH → Option (Int32 × xH)} (eX : X = (x_cpyL h (49 + 2 * ja) (nI s) (49 + 2 * jb) (nI d) (nI m)).bind fun h31 => some (nI m, h31)) (eY : ∀ g, MIn g w A → Y g = (f_X7_copy_L191 64 (nI ja) (nI jb) (nI s) (nI d) (nI m) n 0 g).bind fun q58 => (f_X7_copy_L225 64 (nI jb) (nI d) (nI m) n 0 q58).bind fun q66 => some (nI m, q66)) (hn : 50 ≤ n) : BSt h D w A X Y := by
  obtain ⟨u1, u2, u3, fa, u4, u5⟩ := q.s1 ha
  obtain ⟨t1, t2, t3, fb, t4, t5⟩ := q.s1 hb
  obtain ⟨h1, e1, x1, f1⟩ := c_cpy u4 t4 hs hd
  have cp : ∀ i, i < 40 → va_cpy fa fb s d m i = va_cpy (zS A ja).2.2 (zS A jb).2.2 s d m i := fun i hi => by
    unfold va_cpy
    by_cases z : d ≤ i ∧ i < d + m
    · rw [if_pos z, if_pos z, u5 ⟨k, hk, a1⟩ _ (by omega)]
    · rw [if_neg z, if_neg z, t5 ⟨k, hk, b1⟩ _ hi]
  obtain ⟨c1, c2⟩ := q.shelf (s := ((zS A jb).1, (zS A jb).2.1, va_cpy (zS A ja).2.2 (zS A jb).2.2 s d m)) hb ⟨f1.1 _ _ _ _ id t1, f1.1 _ _ _ _ id t2, f1.1 _ _ _ _ id t3, _, x1, fun _ i hi => cp i hi⟩ (Fr.mono f1 (fun _ _ z => z.elim) (fun _ z => z))
  refine ⟨nI m, setS A jb ((zS A jb).1, (zS A jb).2.1, va_cpy (zS A ja).2.2 (zS A jb).2.2 s d m), ⟨h1, ?_, c1, c2⟩, fun g qg => ?_, setS_ok ok (ok.2.2.1 jb hb) (fun d' hd' z => ok.2.2.2.2 jb hb d' hd' z)⟩
  · rw [eX, e1, Option.bind_some]
  · obtain ⟨f0, g1, g2, f5, gg, ⟨y0, y1, y2, y5, ⟨fo, ao1, ao2⟩, al, gv, gv1⟩, sh⟩ := qg.2.2.1
    have r4 := qg.1 4 (by omega)
    have r3 := qg.1 3 (by omega)
    obtain ⟨k1, gv', p1, p2, p3, p4⟩ := m_cp1 (n := n) (ja := ja) (v2 := nI jb) (v4 := nI d) r4 r3 ha ao1 (ao2 ja ha) (al ja ha) gv1 hs hn
    obtain ⟨k2, gb', o1, o2, o3, o4⟩ := m_cp2 (n := n) (jb := jb) (p4.1 _ _ _ _ (fun z => z) r4) (p4.1 _ _ _ _ (fun z => z) r3) hb (p4.2 _ _ (fun z => by omega) ao1) (ao2 jb hb) (p4.2 _ _ (fun z => by omega) (al jb hb)) p2 hd hn
    have u : Fr (fun _ _ => False) (fun y => y = 77 ∨ y = 69 + jb) g k2 := Fr.trans (Fr.mono p4 (fun _ _ z => z) (fun _ z => Or.inl z)) (Fr.mono o4 (fun _ _ z => z) (fun _ z => Or.inr z))
    obtain ⟨d1, d2⟩ := qg.shelf (j := jb) (s := ((zS A jb).1, (zS A jb).2.1, va_cpy (zS A ja).2.2 (zS A jb).2.2 s d m)) (h' := k2) ⟨f0, g1, g2, f5, fun x => if x = jb then gb' else gg x, ⟨u.2 _ _ (fun z => by omega) y0, u.2 _ _ (fun z => by omega) y1, u.2 _ _ (fun z => by omega) y2, u.2 _ _ (fun z => by omega) y5, ⟨fo, u.2 _ _ (fun z => by omega) ao1, ao2⟩, fun i hi => by
        dsimp only
        by_cases e : i = jb
        · rw [if_pos e, e]; exact o2
        · rw [if_neg e]; exact u.2 _ _ (fun z => by omega) (al i hi), gv', o4.2 _ _ (fun z => by omega) p2⟩, fun i hi => by
        dsimp only
        by_cases e : i = jb
        · rw [if_pos e, e]
          obtain ⟨s0, s1, s2⟩ := sh jb hb
          refine ⟨s0, fun k' hk' z => ?_, s2⟩
          obtain ⟨z1, z2, z3, z4⟩ := s1 k' hk' z
          refine ⟨z1, z2, z3, fun i hi => ?_⟩
          obtain ⟨-, -, -, za⟩ := (sh ja ha).2.1 k hk a1
          show (if jb = jb then gb' else gg jb) i = _
          rw [if_pos rfl, o3]
          show _ = va_cpy (zS A ja).2.2 (zS A jb).2.2 s d m i
          unfold va_cpy
          by_cases zz : d ≤ i ∧ i < d + m
          · rw [if_pos zz, if_pos zz, p3 _ (by omega), za _ (by omega)]
          · rw [if_neg zz, if_neg zz, z4 i hi]
        · rw [if_neg e]
          obtain ⟨s0, s1, s2⟩ := sh i hi
          refine ⟨s0, fun k' hk' z => ?_, s2⟩
          obtain ⟨z1, z2, z3, z4⟩ := s1 k' hk' z
          exact ⟨z1, z2, z3, fun y hy => by show (if i = jb then gb' else gg i) y = _; rw [if_neg e]; exact z4 y hy⟩⟩ (Fr.mono u (fun _ _ z => z) (fun _ z => by omega))
    refine ⟨k2, ?_, d1, d2⟩
    rw [eY g qg, p1, Option.bind_some, o1, Option.bind_some]
/-- copy -/
theorem b_copy (q : CI h D A) (ok : AOk A) (p1 p2 p3 p4 p5 : Int32) (hn : 50 ≤ n) : BSt h D w A (f_X6_copy h 16 p1 p2 p3 p4 p5) (fun g => f_X7_copy n g 64 p1 p2 p3 p4 p5) := by
  have n12 : ¬ (1 : Int32) = 2 := by decide
  have n02 : ¬ (0 : Int32) = 2 := by decide
  have n01 : ¬ (0 : Int32) = 1 := by decide
  have n10 : ¬ (1 : Int32) = 0 := by decide
  by_cases c : sIs 8 p1 = true
  · by_cases c2 : sIs 8 p2 = true
    · obtain ⟨ja, ha, rfl⟩ := (sIs_iff (by decide) p1).mp c
      obtain ⟨jb, hb, rfl⟩ := (sIs_iff (by decide) p2).mp c2
      have qa := q.s1 ha
      have qb := q.s1 hb
      rcases ok.2.2.1 ja ha with ⟨a1, a2⟩ | ⟨k, za, hk, hza, a1, a2⟩ | ⟨d, hd, a1, a2⟩
      · rcases ok.2.2.1 jb hb with ⟨b1, b2⟩ | ⟨kb, zb, hkb, hzb, b1, b2⟩ | ⟨db, hdb, b1, b2⟩
        · refine b_ref4 q ok ?_ (fun g qg => ?_)
          · simp only [f_X6_copy, refC, c_is8, c, c2, i1, Option.bind_some, q.g4, q.ldS ha, q.ldS hb, qa.ob, qb.ob, cs_e qa a1, cs_e qb b1, if_true, eq_false n10, if_false]
          · obtain ⟨r0, la⟩ := m_sh0 qg ok ha
            obtain ⟨-, lb⟩ := m_sh0 qg ok hb
            rw [m0_e a1] at la
            rw [m0_e b1] at lb
            simp only [f_X7_copy, f_X7_copy_J93, refM7, m_is8, c, c2, i1, Option.bind_some, r0, la, lb, eq_false n02, eq_false n01, if_true, if_false]
        · refine b_ref4 q ok ?_ (fun g qg => ?_)
          · simp only [f_X6_copy, refC, c_is8, c, c2, i1, Option.bind_some, q.g4, q.ldS ha, q.ldS hb, qa.ob, qb.ob, cs_e qa a1, cs_r qb hkb b1, if_true, eq_false n10, if_false]
          · obtain ⟨r0, la⟩ := m_sh0 qg ok ha
            obtain ⟨-, lb⟩ := m_sh0 qg ok hb
            rw [m0_e a1] at la
            rw [m0_r hkb b1] at lb
            simp only [f_X7_copy, f_X7_copy_J93, refM7, m_is8, c, c2, i1, Option.bind_some, r0, la, lb, eq_false n02, eq_false n12, eq_false n01, if_true, if_false]
        · refine b_ref3 q ok ?_ (fun g qg => ?_)
          · simp only [f_X6_copy, refC, c_is8, c, c2, i1, Option.bind_some, q.g4, q.ldS ha, q.ldS hb, qa.ob, qb.ob, cs_e qa a1, cs_d qb hdb b1, if_true, eq_false n10, if_false]
          · obtain ⟨r0, la⟩ := m_sh0 qg ok ha
            obtain ⟨-, lb⟩ := m_sh0 qg ok hb
            rw [m0_e a1] at la
            rw [m0_d hdb b1] at lb
            simp only [f_X7_copy, refM7, m_is8, c, c2, i1, Option.bind_some, r0, la, lb, eq_false n02, if_true, if_false]
      · rcases ok.2.2.1 jb hb with ⟨b1, b2⟩ | ⟨kb, zb, hkb, hzb, b1, b2⟩ | ⟨db, hdb, b1, b2⟩
        · refine b_ref4 q ok ?_ (fun g qg => ?_)
          · simp only [f_X6_copy, refC, c_is8, c, c2, i1, Option.bind_some, q.g4, q.ldS ha, q.ldS hb, qa.ob, qb.ob, cs_r qa hk a1, cs_e qb b1, if_true, eq_false n10, if_false]
          · obtain ⟨r0, la⟩ := m_sh0 qg ok ha
            obtain ⟨-, lb⟩ := m_sh0 qg ok hb
            rw [m0_r hk a1] at la
            rw [m0_e b1] at lb
            simp only [f_X7_copy, f_X7_copy_J93, refM7, m_is8, c, c2, i1, Option.bind_some, r0, la, lb, eq_false n02, eq_false n12, eq_false n01, eq_false n10, if_true, if_false]
        · have eM : ∀ g, MIn g w A → f_X7_copy n g 64 (nI ja) (nI jb) p3 p4 p5 = if nI k = nI kb then f_X7_copy_J93 n g 64 (nI ja) (nI jb) p3 p4 p5 else refM7 g (-3) := fun g qg => by
            obtain ⟨r0, la⟩ := m_sh0 qg ok ha
            obtain ⟨-, lb⟩ := m_sh0 qg ok hb
            rw [m0_r hk a1] at la
            rw [m0_r hkb b1] at lb
            obtain ⟨f0, f1, f2, f5, gg, ⟨a0, x1, x2, -⟩, s⟩ := qg.2.2.1
            have r1 : x_gR g 64 7 1 = some 66 := qg.g (k := 1) (by omega)
            have ma := At.ld x1 ha (by decide)
            rw [((s ja ha).2.1 k hk a1).2.1] at ma
            have mb := At.ld x1 hb (by decide)
            rw [((s jb hb).2.1 kb hkb b1).2.1] at mb
            simp only [f_X7_copy, refM7, m_is8, c, c2, i1, Option.bind_some, r0, r1, la, lb, ma, mb, eq_false n12, if_true, if_false]
          have ga : x_gI h (48 + 2 * ja) 4 0 = some (nI k) := by rw [qa.g0, a1]
          have gb : x_gI h (48 + 2 * jb) 4 0 = some (nI kb) := by rw [qb.g0, b1]
          have ha1 : x_gI h (48 + 2 * ja) 4 1 = some (nI za) := by rw [qa.g1, a2]
          have hb1 : x_gI h (48 + 2 * jb) 4 1 = some (nI zb) := by rw [qb.g1, b2]
          by_cases ek : k = kb
          · subst ek
            have eM' : ∀ g, MIn g w A → f_X7_copy n g 64 (nI ja) (nI jb) p3 p4 p5 = _ := fun g qg => (eM g qg).trans ((if_pos rfl).trans (m_J93 (n := n) (p3 := p3) (p4 := p4) (p5 := p5) qg ok ha hb hk a1 b1 a2 b2))
            cases s1 : strB za p3 p5 with
            | false =>
              refine b_ref2 q ok ?_ (fun g qg => ?_)
              · simp only [f_X6_copy, refC, c_is8, c, c2, i1, Option.bind_some, q.g4, q.ldS ha, q.ldS hb, qa.ob, qb.ob, cs_r qa hk a1, cs_r qb hk b1, ga, gb, if_true, c_str ha1, s1, i0]
              · exact (eM' g qg).trans (by rw [s1, Bool.false_and, if_neg (by decide)])
            | true =>
              cases s2 : strB zb p4 p5 with
              | false =>
                refine b_ref2 q ok ?_ (fun g qg => ?_)
                · simp only [f_X6_copy, refC, c_is8, c, c2, i1, Option.bind_some, q.g4, q.ldS ha, q.ldS hb, qa.ob, qb.ob, cs_r qa hk a1, cs_r qb hk b1, ga, gb, if_true, c_str ha1, s1, c_str hb1, s2, i0]
                · exact (eM' g qg).trans (by rw [s2, Bool.and_false, if_neg (by decide)])
              | true =>
                obtain ⟨s, m, e3, e5, hs⟩ := strB_ok hza s1
                obtain ⟨d, m', e4, e5', hd⟩ := strB_ok hzb s2
                have em : m' = m := (nI_eqc (by omega) (by omega)).mp (e5'.symm.trans e5)
                subst em
                subst e3 e4 e5
                refine b_cpR (n := n) (s := s) (d := d) (m := m') q ok ha hb hk a1 b1 (by omega) (by omega) ?_ (fun g qg => ?_) hn
                · simp only [f_X6_copy, c_is8, c, c2, i1, Option.bind_some, q.g4, q.ldS ha, q.ldS hb, qa.ob, qb.ob, cs_r qa hk a1, cs_r qb hk b1, ga, gb, if_true, c_str ha1, s1, c_str hb1, s2, qa.g2, qb.g2]
                · exact (eM' g qg).trans (by rw [s1, s2, if_pos (by decide)])
          · have ne : ¬ nI k = nI kb := fun z => ek ((nI_eqc (by omega) (by omega)).mp z)
            refine b_ref3 q ok ?_ (fun g qg => ?_)
            · simp only [f_X6_copy, refC, c_is8, c, c2, i1, Option.bind_some, q.g4, q.ldS ha, q.ldS hb, qa.ob, qb.ob, cs_r qa hk a1, cs_r qb hkb b1, ga, gb, if_true, eq_false ne, if_false]
            · exact (eM g qg).trans (if_neg ne)
        · refine b_ref3 q ok ?_ (fun g qg => ?_)
          · simp only [f_X6_copy, refC, c_is8, c, c2, i1, Option.bind_some, q.g4, q.ldS ha, q.ldS hb, qa.ob, qb.ob, cs_r qa hk a1, cs_d qb hdb b1, if_true, eq_false n10, if_false]
          · obtain ⟨r0, la⟩ := m_sh0 qg ok ha
            obtain ⟨-, lb⟩ := m_sh0 qg ok hb
            rw [m0_r hk a1] at la
            rw [m0_d hdb b1] at lb
            simp only [f_X7_copy, refM7, m_is8, c, c2, i1, Option.bind_some, r0, la, lb, eq_false n12, if_true, if_false]
      · refine b_ref3 q ok ?_ (fun g qg => ?_)
        · simp only [f_X6_copy, refC, c_is8, c, c2, i1, Option.bind_some, q.g4, q.ldS ha, q.ldS hb, qa.ob, cs_d qa hd a1, eq_false n10, if_false]
        · obtain ⟨r0, la⟩ := m_sh0 qg ok ha
          rw [m0_d hd a1] at la
          simp only [f_X7_copy, refM7, m_is8, c, c2, i1, Option.bind_some, r0, la, if_true]
    · refine b_ref2 q ok ?_ (fun g qg => ?_)
      · simp only [f_X6_copy, refC, c_is8, c, sIs_no c2, i1, i0, Option.bind_some]
      · simp only [f_X7_copy, refM7, m_is8, c, sIs_no c2, i1, i0, Option.bind_some]
  · refine b_ref2 q ok ?_ (fun g qg => ?_)
    · simp only [f_X6_copy, refC, c_is8, sIs_no c, i0, Option.bind_some]
    · simp only [f_X7_copy, refM7, m_is8, sIs_no c, i0, Option.bind_some]
end Mk
