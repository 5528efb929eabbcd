/-! told. -/
section Mk
variable {h h' g g' : xH} {w w' : Nat → Nat} {A : AS} {D : DS} {F : Nat → Nat → Prop} {P : Nat → Prop} {n : Nat}
def tvC (n : Nat) (q : xH) (v3 v4 : Int32) : Option (Int32 × xH) :=
      if v3 = (0 : Int32) then
        (x_gR q 16 6 1).bind fun a22 =>
        (x_gI q a22 0 5).bind fun x23 =>
        some (x23, q)
      else
      if v3 = (1 : Int32) then
        (x_gR q 16 6 1).bind fun a25 =>
        (x_gI q a25 0 10).bind fun x26 =>
        (x_gR q 16 6 0).bind fun a27 =>
        (x_gI q a27 0 10).bind fun x28 =>
        some ((x26 - x28), q)
      else
      if v3 = (2 : Int32) then
        (x_gR q 16 6 1).bind fun a30 =>
        (x_ob q a30 0).bind fun u31 =>
        (f_X0_shutInBits n q a30).bind fun q32 =>
        some (q32, q)
      else
      if v4 = 0 then
        some ((-1 : Int32), q)
      else
        (x_gR q 16 6 1).bind fun a34 =>
        (x_gR q a34 0 3).bind fun a35 =>
        (x_ld q a35 (v3 - (10 : Int32))).bind fun x36 =>
        some (x36, q)
def tvM (n : Nat) (q : xH) (v3 : Int32) : Option ((Int32 × xH) × Nat × Nat) :=
      if v3 = (0 : Int32) then
        (x_gR q 64 7 19).bind fun a12 =>
        (x_gI q a12 7 11).bind fun x13 =>
        some ((x13, q), 0, 0)
      else
      if v3 = (1 : Int32) then
        (x_gR q 64 7 19).bind fun a15 =>
        (x_gI q a15 7 16).bind fun x16 =>
        (x_gI q 64 7 16).bind fun x17 =>
        some (((x16 - x17), q), 0, 0)
      else
      if v3 = (2 : Int32) then
        (x_gR q 64 7 19).bind fun a19 =>
        (x_ob q a19 7).bind fun u20 =>
        (f_X7_shutIn n q a19).bind fun q21 =>
        some ((q21, q), 0, 0)
      else
      (x_gR q 64 7 19).bind fun a23 =>
      (x_gR q a23 7 13).bind fun a24 =>
      (x_ld q a24 (v3 - (10 : Int32))).bind fun x25 =>
      some ((x25, q), 0, 0)
def tvK (A : AS) (v3 v4 : Int32) : Prop := ((v3 = 0 ∨ v3 = 1 ∨ v3 = 2) ∧ v4 = 0) ∨ ∃ i, i < hP (zH A) ∧ v3 = nI (10 + i) ∧ v4 = 1
theorem i10 : ∀ i, i < 4 → ¬ nI (10 + i) = 0 ∧ ¬ nI (10 + i) = 1 ∧ ¬ nI (10 + i) = 2 ∧ nI (10 + i) - 10 = nI i ∧ ¬ nI (10 + i) < 10 ∧ ¬ nI (10 + i) < 0 ∧ ¬ nI (10 + i) ≤ 2 := by decide +kernel
theorem t_val {T : HS} {v3 v4 : Int32} (q : CI h D A) (ok : AOk A) (a : HAt h 22 T) (okT : HOk T) (eP : hP T = hP (zH A)) (tv : tvK A v3 v4) (hn : 20 ≤ n) : ∃ v, tvC n h v3 v4 = some (v, h) ∧ ∀ g w o, MIn g w A → x_get g 64 7 19 = some (.ref o) → MH g o T → tvM n g v3 = some ((v, g), 0, 0) := by
  unfold tvC tvM
  rcases tv with ⟨rfl | rfl | rfl, rfl⟩ | ⟨i, hi, rfl, rfl⟩
  · refine ⟨hO T, ?_, fun g w o m e mo => ?_⟩
    · rw [if_pos rfl, q.g1, Option.bind_some, a.O, Option.bind_some]
    · rw [if_pos rfl, g_R e, Option.bind_some, mo.O, Option.bind_some]
  · refine ⟨hN T - hN (zH A), ?_, fun g w o m e mo => ?_⟩
    · rw [if_neg (by decide), if_pos rfl, q.g1, Option.bind_some, a.N, Option.bind_some, q.g0, Option.bind_some, q.H.N, Option.bind_some]
    · rw [if_neg (by decide), if_pos rfl, g_R e, Option.bind_some, mo.N, Option.bind_some, m.H.N, Option.bind_some]
  · refine ⟨sShutIn T, ?_, fun g w o m e mo => ?_⟩
    · rw [if_neg (by decide), if_neg (by decide), if_pos rfl, q.g1, Option.bind_some, a.ob, Option.bind_some, h_shutInBits a okT hn, Option.bind_some]
    · rw [if_neg (by decide), if_neg (by decide), if_pos rfl, g_R e, Option.bind_some, mo.ob, Option.bind_some, m_shutIn mo okT hn, Option.bind_some]
  · have h4 := ok.1.2.1
    obtain ⟨z0, z1, z2, z3, -⟩ := i10 i (by omega)
    refine ⟨hR T i, ?_, fun g w o m e mo => ?_⟩
    · rw [if_neg z0, if_neg z1, if_neg z2, if_neg (show ¬ (1 : Int32) = 0 by decide), q.g1, Option.bind_some, a.rr, Option.bind_some, z3, a.ldR okT (by omega), Option.bind_some]
    · rw [if_neg z0, if_neg z1, if_neg z2, g_R e, Option.bind_some, mo.rr, Option.bind_some, z3, mo.ldR okT (by omega), Option.bind_some]
theorem b_toldR {j k z m : Nat} {v3 v4 : Int32} (q : CI h D A) (ok : AOk A) (hj : j < 8) (hm : m < 21) (hk : k < 5) (z1 : (zS A j).1 = nI k) (z2 : (zS A j).2.1 = nI z) (hz : z ≤ 40) (hmz : m ≤ z) (tv : tvK A v3 v4) (hn : 50 ≤ n) : BMt h D A (f_X6_told_J65 n h 16 (nI j) (nI m) v3 v4) (fun g => f_X7_told_J38 n g 64 (nI j) (nI m) v3) := by
  have rr := c_rr2 (q.s1 hj) hk z1 (nI m)
  rw [z2, if_pos (nI_le hmz (by omega))] at rr
  obtain ⟨h2, r1, r2, r3⟩ := c_play (n := n) q ok hj hk z1 z2 hz hmz hn
  have hc : ∀ r, f_X6_playActs n h 16 (48 + 2 * j) (nI m) = some (r, h2) → f_X6_told_J65 n h 16 (nI j) (nI m) v3 v4 = if r = -1 then tvC n h2 v3 v4 else refC h2 (-5) := fun r e => by
    unfold f_X6_told_J65
    rw [q.g4, Option.bind_some, q.ldS hj, Option.bind_some, rr, Option.bind_some, if_pos rfl, Option.bind_some, q.ldS hj, Option.bind_some, q.ob, Option.bind_some, e, Option.bind_some]
    rfl
  have hm' : ∀ {g w r g' cc ss}, MIn g w A → f_X7_goThrough n g 64 (nI j) (nI m) = some ((r, g'), cc, ss) → f_X7_told_J38 n g 64 (nI j) (nI m) v3 = x_add cc ss (if r = -1 then tvM n g' v3 else refMM g' (-5)) := fun {g w r g' cc ss} qg e => by
    unfold f_X7_told_J38
    rw [qg.ob, Option.bind_some, mt_5 qg hj (K := 20) (by decide) e20 (by omega) hk z1 z2 hz, if_pos hmz, Option.bind_some]
    dsimp only
    rw [if_pos rfl, qg.ob, Option.bind_some, e, Option.bind_some]
    rfl
  cases z3 : plA (zS A j).2.2 m 0 (zH A) with
  | inl y =>
    rw [z3] at r3
    have hy : ¬ nI y = -1 := by
      have : y < 40 := by
        have := plA_lt m 0 (zH A) y z3
        omega
      exact nI_nm1 (by omega)
    refine ⟨-5, ref1 A 3, ?_, fun g w nz qg => ?_, ok.ref 3⟩
    · obtain ⟨h3, e3, c3, f3⟩ := c_refuse r1 (i := 3) (p := -5) (by decide) (by decide)
      refine ⟨h3, ?_, c3, Fr.trans r2 f3⟩
      rw [hc _ r3, if_neg hy]
      exact e3
    · obtain ⟨g', w', cc, ss, o, y1, y2, y3⟩ := m_play (n := n) (m := m) qg nz ok hj hk z1 (by omega) hn
      rw [z3] at y3
      obtain ⟨g2, w2, c2, s2, e2, x2⟩ := mm_refuse y1.1 (i := 3) (p := -5) (by decide) (by decide)
      refine ⟨g2, w2, cc + c2, ss + s2, ?_, y1.trans x2⟩
      show f_X7_told_J38 n g 64 (nI j) (nI m) v3 = _
      rw [hm' qg y3, if_neg hy, e2, xad]
  | inr T =>
    rw [z3] at r3
    obtain ⟨r4, r5, r6⟩ := r3
    obtain ⟨v, v1, v2⟩ := t_val (n := n) r1 ok r5 r6 (plA_P _ _ _ _ z3) tv (by omega)
    refine ⟨v, A, ⟨h2, ?_, r1, r2⟩, fun g w nz qg => ?_, ok⟩
    · rw [hc _ r4, if_pos rfl, v1]
    · obtain ⟨g', w', cc, ss, o, y1, y2, y3⟩ := m_play (n := n) (m := m) qg nz ok hj hk z1 (by omega) hn
      rw [z3] at y3
      refine ⟨g', w', cc, ss, ?_, y1⟩
      show f_X7_told_J38 n g 64 (nI j) (nI m) v3 = _
      rw [hm' qg y3.1, if_pos rfl, v2 g' w' o y1.1 y2 y3.2.1, xad, Nat.add_zero, Nat.add_zero]
/-- from the place behind the look at what is asked -/
theorem b_toldJ {j m : Nat} {v3 v4 : Int32} (q : CI h D A) (ok : AOk A) (hj : j < 8) (hm : m < 21) (tv : tvK A v3 v4) (hn : 50 ≤ n) : BMt h D A (f_X6_told_J65 n h 16 (nI j) (nI m) v3 v4) (fun g => f_X7_told_J38 n g 64 (nI j) (nI m) v3) := by
  have qs := q.s1 hj
  have c2 : sIs 21 (nI m) = true := (sIs_iff (by decide) _).mpr ⟨m, hm, rfl⟩
  rcases ok.2.2.1 j hj with ⟨z1, z2⟩ | ⟨k, z, hk, hz, z1, z2⟩ | ⟨d, hd, z1, z2⟩
  · refine bm_ref4 q ok ?_ (fun g w qg => ?_)
    · simp only [f_X6_told_J65, refC, Option.bind_some, q.g4, q.ldS hj, c_rr1 qs z1, eq_false (show ¬ (-4 : Int32) = 0 by decide), if_false]
    · show f_X7_told_J38 n g 64 (nI j) (nI m) v3 = _
      unfold f_X7_told_J38
      rw [qg.ob, Option.bind_some, mt_3 qg hj (K := 20) (by decide) e20 c2 z1]
      exact ref_pass' qg (i := 2) (by decide) (by decide) (by decide) _
  · by_cases hmz : m ≤ z
    · exact b_toldR q ok hj hm hk z1 z2 hz hmz tv hn
    · have rr := c_rr2 qs hk z1 (nI m)
      rw [z2, if_neg (nI_ge (b := m) (show z < m by omega) (by omega))] at rr
      refine bm_ref2 q ok ?_ (fun g w qg => ?_)
      · simp only [f_X6_told_J65, refC, Option.bind_some, q.g4, q.ldS hj, rr, eq_false (show ¬ (-2 : Int32) = 0 by decide), if_false]
      · show f_X7_told_J38 n g 64 (nI j) (nI m) v3 = _
        unfold f_X7_told_J38
        rw [qg.ob, Option.bind_some, mt_5 qg hj (K := 20) (by decide) e20 (by omega) hk z1 z2 hz, if_neg hmz]
        exact ref_pass' qg (i := 0) (by decide) (by decide) (by decide) _
  · refine bm_ref3 q ok ?_ (fun g w qg => ?_)
    · simp only [f_X6_told_J65, refC, Option.bind_some, q.g4, q.ldS hj, c_rr3 qs hd z1, eq_false (show ¬ (-3 : Int32) = 0 by decide), if_false]
    · show f_X7_told_J38 n g 64 (nI j) (nI m) v3 = _
      unfold f_X7_told_J38
      rw [qg.ob, Option.bind_some, mt_4 qg hj (K := 20) (by decide) e20 c2 hd z1]
      exact ref_pass' qg (i := 1) (by decide) (by decide) (by decide) _
theorem lt20 {p : Int32} (c : ¬ sIs 21 p = true) (h0 : ¬ p < 0) : (20 : Int32) < p := by
  have := n20 c h0
  rw [Int32.not_le] at this
  exact this
theorem b_toldB {p1 p2 p3 v4 : Int32} (q : CI h D A) (ok : AOk A) (tv : tvK A p3 v4) (hn : 50 ≤ n)
    (eC : f_X6_told n h 16 p1 p2 p3 = if bI (sIs 8 p1) = 0 then refC h (-2) else if p2 < 0 then refC h (-2) else if (20 : Int32) < p2 then refC h (-2) else f_X6_told_J65 n h 16 p1 p2 p3 v4)
    (eM : ∀ g w, MIn g w A → f_X7_told n g 64 p1 p2 p3 = f_X7_told_J38 n g 64 p1 p2 p3) : BMt h D A (f_X6_told n h 16 p1 p2 p3) (fun g => f_X7_told n g 64 p1 p2 p3) := by
  by_cases c : sIs 8 p1 = true
  · by_cases c2 : sIs 21 p2 = true
    · obtain ⟨j, hj, rfl⟩ := (sIs_iff (by decide) p1).mp c
      obtain ⟨m, hm, rfl⟩ := (sIs_iff (by decide) p2).mp c2
      rw [c, i1, if_neg (show ¬ nI m < 0 from nI_pos (by omega)), if_neg (show ¬ (20 : Int32) < nI m from nI_nlt (b := m) (a := 20) (by omega) (by omega))] at eC
      obtain ⟨r, A', b1, b2, b3⟩ := b_toldJ (n := n) q ok hj hm tv hn
      rw [eC]
      exact ⟨r, A', b1, fun g w nz qg => by
        show MGt g w (f_X7_told n g 64 (nI j) (nI m) p3) r A'
        rw [eM g w qg]
        exact b2 g w nz qg, b3⟩
    · refine bm_ref2 q ok ?_ (fun g w qg => ?_)
      · rw [eC, c, i1]
        by_cases n0 : p2 < 0
        · rw [if_pos n0]
        · rw [if_neg n0, if_pos (lt20 c2 n0)]
      · show f_X7_told n g 64 p1 p2 p3 = _
        rw [eM g w qg]
        unfold f_X7_told_J38
        rw [qg.ob, Option.bind_some, mt_2 qg (K := 20) (by decide) e20 c c2]
        exact ref_pass' qg (i := 0) (by decide) (by decide) (by decide) _
  · refine bm_ref2 q ok ?_ (fun g w qg => ?_)
    · rw [eC, sIs_no c, i0]
    · show f_X7_told n g 64 p1 p2 p3 = _
      rw [eM g w qg]
      unfold f_X7_told_J38
      rw [qg.ob, Option.bind_some, mt_1 qg c]
      exact ref_pass' qg (i := 0) (by decide) (by decide) (by decide) _
theorem c3 : ∀ t, t < 3 → nI t < 10 ∧ ¬ nI t < 0 ∧ nI t ≤ 2 ∧ (nI t = 0 ∨ nI t = 1 ∨ nI t = 2) := by decide +kernel
/-- told -/
theorem b_told (q : CI h D A) (ok : AOk A) (p1 p2 p3 : Int32) (hn : 50 ≤ n) : BMt h D A (f_X6_told n h 16 p1 p2 p3) (fun g => f_X7_told n g 64 p1 p2 p3) := by
  have h4 := ok.1.2.1
  have in3 : ∀ g : xH, f_X7_in g p3.toInt64 0 2 = some (bI (sIs 3 p3)) := fun g => m_is (k := 3) (by decide) (by decide) p3
  have inP : ∀ g : xH, f_X7_in g p3.toInt64 10 ((9 + nI (hP (zH A))).toInt64) = some (bI (decide (10 ≤ p3.toInt) && decide (p3.toInt ≤ 9 + (hP (zH A) : Int)))) := fun g => m_in (a := 10) (c := 9 + (hP (zH A) : Int)) (by decide) (by
    rw [show (9 : Int32) + nI (hP (zH A)) = nI (9 + hP (zH A)) from nI_add 9 _, Int32.toInt_toInt64, nI_toInt (by omega)]
    omega) p3
  by_cases ci : sIs 3 p3 = true
  · obtain ⟨t, ht, rfl⟩ := (sIs_iff (by decide) p3).mp ci
    obtain ⟨t1, t2, t3, t4⟩ := c3 t ht
    refine b_toldB (v4 := 0) q ok (Or.inl ⟨t4, rfl⟩) hn ?_ (fun g w qg => ?_)
    · simp only [f_X6_told, refC, eq_true t1, eq_false t2, eq_true t3, if_true, if_false, Option.bind_some, c_is8]
    · show f_X7_told n g 64 p1 p2 (nI t) = _
      unfold f_X7_told
      rw [in3, ci, Option.bind_some, i1]
  · by_cases cp : (decide (10 ≤ p3.toInt) && decide (p3.toInt ≤ 9 + (hP (zH A) : Int))) = true
    · have cp' := cp
      rw [Bool.and_eq_true, decide_eq_true_eq, decide_eq_true_eq] at cp
      obtain ⟨i, hi, rfl⟩ : ∃ i, i < hP (zH A) ∧ p3 = nI (10 + i) := ⟨(p3.toInt - 10).toNat, by omega, Int32.toInt_inj.mp (by rw [nI_toInt (by omega)]; omega)⟩
      obtain ⟨-, -, -, z3, z4, z5, z6⟩ := i10 i (by omega)
      refine b_toldB (v4 := 1) q ok (Or.inr ⟨i, hi, rfl, rfl⟩) hn ?_ (fun g w qg => ?_)
      · simp only [f_X6_told, refC, eq_false z4, if_false, Option.bind_some, c_is8, q.g0, q.H.P, show (10 : Int32) + nI (hP (zH A)) = nI (10 + hP (zH A)) from nI_add 10 _, eq_false (show ¬ nI (10 + hP (zH A)) ≤ nI (10 + i) from nI_ge (b := 10 + hP (zH A)) (by omega) (by omega)), eq_false (show ¬ (1 : Int32) = 0 by decide)]
      · show f_X7_told n g 64 p1 p2 (nI (10 + i)) = _
        unfold f_X7_told
        rw [in3, sIs_no ci, Option.bind_some, i0, qg.H.P, Option.bind_some, inP, cp', Option.bind_some, i1]
    · have bad : p3 < 10 ∨ (10 + nI (hP (zH A)) ≤ p3 ∧ ¬ p3 < 0 ∧ ¬ p3 ≤ 2) := by
        by_cases l : p3 < 10
        · exact Or.inl l
        · right
          have l : ¬ p3.toInt < ((10 : Nat) : Int) := fun y => l ((ltN (k := 10) (by decide) p3).mpr y)
          refine ⟨?_, ?_, ?_⟩
          · rw [show (10 : Int32) + nI (hP (zH A)) = nI (10 + hP (zH A)) from nI_add 10 _, Int32.le_iff_toInt_le, nI_toInt (by omega)]
            apply Classical.byContradiction
            intro y
            apply cp
            rw [Bool.and_eq_true, decide_eq_true_eq, decide_eq_true_eq]
            omega
          · rw [lt0]; omega
          · exact fun y => by have := (leN (k := 2) (by decide) p3).mp y; omega
      have bad2 : ¬ p3 < 0 → ¬ p3 ≤ 2 := fun z y => by
        apply ci
        rw [sIs_toInt (by decide), Bool.and_eq_true, decide_eq_true_eq, decide_eq_true_eq]
        rw [lt0] at z
        have := (leN (k := 2) (by decide) p3).mp y
        omega
      refine bm_ref2 q ok ?_ (fun g w qg => ?_)
      · have e1 : (if p3 < (10 : Int32) then some (0 : Int32) else (x_gR h 16 6 0).bind fun a2 => (x_gI h a2 0 6).bind fun x3 => if ((10 : Int32) + x3) ≤ p3 then some (0 : Int32) else some (1 : Int32)) = some 0 := by
          rcases bad with l | ⟨l, -⟩
          · rw [if_pos l]
          · by_cases l2 : p3 < 10
            · rw [if_pos l2]
            · rw [if_neg l2, q.g0, Option.bind_some, q.H.P, Option.bind_some, if_pos l]
        unfold f_X6_told
        rw [e1, Option.bind_some, c_is8, Option.bind_some]
        by_cases b1 : sIs 8 p1 = true
        · rw [b1, i1]
          by_cases b2 : p2 < 0
          · rw [if_pos b2]; rfl
          · rw [if_neg b2]
            by_cases b3 : (20 : Int32) < p2
            · rw [if_pos b3]; rfl
            · rw [if_neg b3, if_pos rfl]
              by_cases b4 : p3 < 0
              · rw [if_pos b4]; rfl
              · rw [if_neg b4, if_neg (bad2 b4)]; rfl
        · rw [sIs_no b1, i0]; rfl
      · show f_X7_told n g 64 p1 p2 p3 = _
        unfold f_X7_told
        rw [in3, sIs_no ci, Option.bind_some, i0, qg.H.P, Option.bind_some, inP, Bool.eq_false_iff.mpr cp, Option.bind_some, i0]
        rfl
end Mk
