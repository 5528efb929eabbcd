/-! feed. -/
theorem nI_sub' {a b : Nat} (h : b ≤ a) : nI a - nI b = nI (a - b) := by
  have e : nI a = nI (a - b) + nI b := by rw [nI_add, Nat.sub_add_cancel h]
  rw [e, Int32.add_sub_cancel]
theorem v8 : ∀ v, v < 4 → (8 : Int32) * nI v = nI (8 * v) := by decide +kernel
theorem by_eq (x : Int32) {v : Nat} (hv : v < 4) : i_ushr x (8 * nI v) &&& 255 = i_shr x (8 * nI v) &&& 255 := by
  rw [v8 v hv]
  apply b_ext
  intro i hi
  rw [b_and, b_and, b_255, show bt (i_ushr x (nI (8 * v))) i = bt x (8 * v + i) from b_ushr (8 * v) (by omega) x i, b_ishr (by omega) x hi]
  by_cases h : i < 8
  · rw [if_pos (by omega)]
  · rw [decide_eq_false h, Bool.and_false, Bool.and_false]
def byV (x : Int32) (v : Nat) : Nat := (i_shr x (8 * nI v) &&& 255).toBitVec.toNat
theorem byV_lt (x : Int32) (v : Nat) : byV x v < 256 := tn_lt (D := 8) (by decide) (fun k h1 h2 => by rw [b_and, b_255, decide_eq_false (by omega), Bool.and_false])
theorem byV_nI (x : Int32) (v : Nat) : nI (byV x v) = i_shr x (8 * nI v) &&& 255 := nI_tn _
def fd1 (x : Int32) (v : Nat) (t : TP) : TP := (t.1 + 1, fun j => if j = t.1 then byV x v else t.2 j)
def fdT (x : Int32) : Nat → TP → TP
  | 0, t => t
  | v + 1, t => fdT x v (fd1 x v t)
theorem fdT_1 (x : Int32) : ∀ (c : Nat) (t : TP), (fdT x c t).1 = t.1 + c
  | 0, t => rfl
  | c + 1, t => by
    show (fdT x c (fd1 x c t)).1 = _
    rw [fdT_1 x c]
    show t.1 + 1 + c = _
    omega
theorem fd1_B {x : Int32} {v : Nat} {t : TP} {fb : Nat → Int32} (q : TB t fb) (h : t.1 < 250) : TB (fd1 x v t) (upd fb t.1 (i_shr x (8 * nI v) &&& 255)) := by
  refine ⟨⟨h, fun j hj => ?_⟩, fun j hj => ?_⟩
  · show (if j = t.1 then byV x v else t.2 j) < 256
    by_cases e : j = t.1
    · rw [if_pos e]; exact byV_lt x v
    · rw [if_neg e]
      have : j < t.1 + 1 := hj
      exact q.1.2 j (by omega)
  · show _ = nI (if j = t.1 then byV x v else t.2 j)
    by_cases e : j = t.1
    · rw [if_pos e, e, pk_us, byV_nI]
    · rw [if_neg e, pk_un e]
      have : j < t.1 + 1 := hj
      exact q.2 j (by omega)
section Mk
variable {h h' g g' : xH} {w w' : Nat → Nat} {A : AS} {D : DS} {n : Nat}
theorem c_fd (x : Int32) : ∀ (c k : Nat) (h : xH) (v fb : Nat → Int32) (t : TP), c ≤ 4 → c < k → TAt h 33 v fb → v 1 = nI t.1 → TB t fb → t.1 + c ≤ 250 → ∃ h' v' fb', f_X5_append_L4 33 x k (nI c - 1) h = some h' ∧ TAt h' 33 v' fb' ∧ v' 1 = nI (fdT x c t).1 ∧ TB (fdT x c t) fb' ∧ Fr (fun a _ => a = 33) (fun a => a = 34) h h'
  | 0, k, h, v, fb, t, hc, hk, a, v1, b, ht => by
    obtain ⟨k, rfl⟩ : ∃ x, k = x + 1 := ⟨k - 1, by omega⟩
    refine ⟨h, v, fb, ?_, a, v1, b, Fr.rfl⟩
    rw [f_X5_append_L4, if_pos (show nI 0 - 1 < 0 by decide)]
  | c + 1, k, h, v, fb, t, hc, hk, a, v1, b, ht => by
    obtain ⟨k, rfl⟩ : ∃ x, k = x + 1 := ⟨k - 1, by omega⟩
    obtain ⟨h1, e1, a1, f1⟩ := w_st a.2.2 (j := t.1) (by omega) (by decide) (i_shr x (8 * nI c) &&& 255)
    have ta1 : TAt h1 33 v (upd fb t.1 (i_shr x (8 * nI c) &&& 255)) := ⟨f1.1 _ _ _ _ (fun z => z) a.1, fun k h1 h2 => f1.1 _ _ _ _ (fun z => z) (a.2.1 k h1 h2), a1⟩
    obtain ⟨h2, e2, a2, f2⟩ := ta1.put (k := 1) (by decide) (by decide) (nI (t.1 + 1))
    obtain ⟨h3, v3, fb3, e3, a3, w3, b3, f3⟩ := c_fd x c k h2 _ _ (fd1 x c t) (by omega) (by omega) a2 pk_us (fd1_B b (by omega)) (by show t.1 + 1 + c ≤ 250; omega)
    refine ⟨h3, v3, fb3, ?_, a3, w3, b3, Fr.trans (Fr.mono f1 (fun _ _ z => z.elim) (fun _ z => z)) (Fr.trans (Fr.mono f2 (fun _ _ z => z) (fun _ z => z.elim)) f3)⟩
    have g1 : x_gI h 33 5 1 = some (nI t.1) := by rw [g_I (a.2.1 1 (by decide) (by decide)), v1]
    have g2 : x_gI h1 33 5 1 = some (nI t.1) := by rw [g_I (ta1.2.1 1 (by decide) (by decide)), v1]
    rw [show nI (c + 1) - 1 = nI c by rw [nI_m1, ← nI_1, Int32.add_assoc, show (1 : Int32) + -1 = 0 from rfl, Int32.add_zero]]
    rw [f_X5_append_L4, if_neg (show ¬ nI c < 0 from nI_pos (by omega)), g1, Option.bind_some, if_neg (show ¬ (250 : Int32) ≤ nI t.1 from nI_ge (b := 250) (by omega) (by decide)), g_R a.1, Option.bind_some, Option.bind_some, by_eq x (by omega), e1, Option.bind_some, g2, Option.bind_some, nI_1, e2, Option.bind_some, Option.bind_some, ← nI_m1]
    exact e3
theorem m_fd (x : Int32) : ∀ (c k : Nat) (g : xH) (v fb ft : Nat → Int32) (t : TP), c ≤ 4 → c < k → MT g 64 v fb ft → v 7 = nI t.1 → TB t fb → t.1 + c ≤ 250 → ∃ g' v' fb', f_X7_feed_L42 64 x k (nI c - 1) g = some g' ∧ MT g' 64 v' fb' ft ∧ v' 7 = nI (fdT x c t).1 ∧ TB (fdT x c t) fb' ∧ Fr (fun a k => a = 64 ∧ k = 7) (fun a => a = 79) g g'
  | 0, k, g, v, fb, ft, t, hc, hk, a, v1, b, ht => by
    obtain ⟨k, rfl⟩ : ∃ x, k = x + 1 := ⟨k - 1, by omega⟩
    refine ⟨g, v, fb, ?_, a, v1, b, Fr.rfl⟩
    rw [f_X7_feed_L42, if_pos (show nI 0 - 1 < 0 by decide)]
  | c + 1, k, g, v, fb, ft, t, hc, hk, a, v1, b, ht => by
    obtain ⟨k, rfl⟩ : ∃ x, k = x + 1 := ⟨k - 1, by omega⟩
    have g7 := a.2.2.1 7 (Or.inl rfl)
    obtain ⟨g1, e1, p1, f1⟩ := w_put g7 (.int (nI (t.1 + 1)))
    have a79 := f1.2 _ _ (fun z => z) a.2.2.2.1
    obtain ⟨g2, e2, p2, f2⟩ := w_st a79 (j := t.1) (by omega) (by decide) (i_shr x (8 * nI c) &&& 255)
    have mt2 : MT g2 64 (upd v 7 (nI (t.1 + 1))) (upd fb t.1 (i_shr x (8 * nI c) &&& 255)) ft := ⟨f2.1 _ _ _ _ (fun z => z) (f1.1 _ _ _ _ (fun z => by omega) a.1), f2.1 _ _ _ _ (fun z => z) (f1.1 _ _ _ _ (fun z => by omega) a.2.1), fun k hk => by
      by_cases z : k = 7
      · rw [z, pk_us]; exact f2.1 _ _ _ _ (fun z => z) p1
      · rw [pk_un z]; exact f2.1 _ _ _ _ (fun z => z) (f1.1 _ _ _ _ (fun y => by omega) (a.2.2.1 k hk)), p2, f2.2 _ _ (fun z => by omega) (f1.2 _ _ (fun z => z) a.2.2.2.2)⟩
    obtain ⟨g3, v3, fb3, e3, a3, w3, b3, f3⟩ := m_fd x c k g2 _ _ ft (fd1 x c t) (by omega) (by omega) mt2 pk_us (fd1_B b (by omega)) (by show t.1 + 1 + c ≤ 250; omega)
    refine ⟨g3, v3, fb3, ?_, a3, w3, b3, Fr.trans (Fr.mono f1 (fun _ _ z => z) (fun _ z => z.elim)) (Fr.trans (Fr.mono f2 (fun _ _ z => z.elim) (fun _ z => z)) f3)⟩
    rw [v1] at g7
    rw [show nI (c + 1) - 1 = nI c by rw [nI_m1, ← nI_1, Int32.add_assoc, show (1 : Int32) + -1 = 0 from rfl, Int32.add_zero]]
    rw [f_X7_feed_L42, if_neg (show ¬ nI c < 0 from nI_pos (by omega)), g_R a.1, Option.bind_some, g_I g7, Option.bind_some, nI_1, e1, Option.bind_some, e2, Option.bind_some, Option.bind_some, ← nI_m1]
    exact e3
theorem MIn.feed {t : TP} (q : MIn g w A) (qt : MTp g' t) (f : Fr (fun a k => a = 64 ∧ k = 7) (fun a => a = 79) g g') : MIn g' w (setT A t) ∧ FrR w g g' := by
  have ng : ∀ {i x : Nat}, 0 < i → w x = i → 100 ≤ x := fun hi e => q.big hi e
  obtain ⟨q0, q1, q2, q3, q4, q5, q6, q7, q8, q9⟩ := q
  exact ⟨⟨q0.fr f (fun _ _ z => by omega), q1.fr f (fun _ _ _ z => by omega) (fun _ _ _ z => by omega), q2.fr f (fun _ _ _ z => by omega), qt, q4.fr f (fun z => by omega), q5.fr f (fun z => by omega) (fun _ _ e z => by have := ng (by decide) e; omega) (fun _ e z => by have := ng (by decide) e; omega), q6.fr f (fun z => by omega) (fun _ _ e z => by have := ng (by decide) e; omega) (fun _ e z => by have := ng (by decide) e; omega), q7.fr f (fun _ _ _ z => by omega) ⟨fun z => by omega, fun z => by omega⟩ (fun _ e z => by have := ng (by decide) e; omega), q8.fr f (fun _ _ _ z => by omega) (fun _ e z => by have := ng (by decide) e; omega), q9⟩, Fr.mono f (fun x _ z => Or.inl (by omega)) (fun x z => Or.inl (by omega))⟩
/-- feed -/
theorem b_feed (q : CI h D A) (ok : AOk A) (p1 p2 : Int32) (hn : 20 ≤ n) : BSt h D w A (f_X6_feed n h 16 p1 p2) (fun g => f_X7_feed n g 64 p1 p2) := by
  have inn : ∀ g : xH, f_X7_in g p2.toInt64 1 4 = some (bI (decide (1 ≤ p2.toInt) && decide (p2.toInt ≤ 4))) := fun g => m_in (a := 1) (c := 4) (by decide) (by decide) p2
  obtain ⟨v, fb, ta, v1, tb⟩ := q.2.2.2.2.2.1
  have g1 : x_gI h 33 5 1 = some (nI (zT A).1) := by rw [g_I (ta.2.1 1 (by decide) (by decide)), v1]
  have ht := tb.1.1
  by_cases c1 : p2 < 1
  · have i1' : p2.toInt < 1 := (ltN (k := 1) (by decide) p2).mp c1
    refine b_ref2 q ok ?_ (fun g qg => ?_)
    · unfold f_X6_feed; rw [if_pos c1]; rfl
    · show f_X7_feed n g 64 p1 p2 = _
      unfold f_X7_feed
      rw [inn, Option.bind_some, decide_eq_false (show ¬ 1 ≤ p2.toInt by omega), Bool.false_and, i0]
      rfl
  · have j1 : ¬ p2.toInt < ((1 : Nat) : Int) := fun y => c1 ((ltN (k := 1) (by decide) p2).mpr y)
    by_cases c2 : p2 ≤ 4
    · have i2 := (leN (k := 4) (by decide) p2).mp c2
      have hin : (decide (1 ≤ p2.toInt) && decide (p2.toInt ≤ 4)) = true := by rw [decide_eq_true (show 1 ≤ p2.toInt by omega), decide_eq_true (show p2.toInt ≤ 4 by omega)]; rfl
      obtain ⟨c, hc, rfl⟩ : ∃ c, c ≤ 4 ∧ p2 = nI c := ⟨p2.toInt.toNat, by omega, Int32.toInt_inj.mp (by rw [nI_toInt (by omega)]; omega)⟩
      by_cases hl : (zT A).1 + c ≤ 250
      · have lC : nI (zT A).1 + nI c ≤ (250 : Int32) := by rw [nI_add]; exact nI_le (b := 250) hl (by decide)
        have lM : nI c ≤ (250 : Int32) - nI (zT A).1 := by rw [show (250 : Int32) - nI (zT A).1 = nI (250 - (zT A).1) from nI_sub' (a := 250) ht]; exact nI_le (by omega) (by omega)
        obtain ⟨h1, v', fb', e1, a1, w1, b1, f1⟩ := c_fd p1 c n h v fb (zT A) hc (by omega) ta v1 tb hl
        obtain ⟨d1, d2⟩ := q.tape (t := fdT p1 c (zT A)) ⟨v', fb', a1, w1, b1⟩ f1
        refine ⟨nI (fdT p1 c (zT A)).1, setT A (fdT p1 c (zT A)), ⟨h1, ?_, d1, d2⟩, fun g qg => ?_, ok.1, ok.2.1, ok.2.2.1, b1.1, ok.2.2.2.2⟩
        · unfold f_X6_feed
          rw [if_neg c1, if_pos c2, q.g5, Option.bind_some, g1, Option.bind_some, if_pos lC, Option.bind_some, ta.ob, Option.bind_some]
          unfold f_X5_append
          rw [Option.bind_some, e1, Option.bind_some, Option.bind_some, d1.g5, Option.bind_some, g_I (a1.2.1 1 (by decide) (by decide)), Option.bind_some, w1]
        · obtain ⟨vm, fbm, ft, mt, m7, tbm⟩ := qg.2.2.2.1
          obtain ⟨g2, v2, fb2, e2, a2, w2, b2, f2⟩ := m_fd p1 c n g vm fbm ft (zT A) hc (by omega) mt m7 tbm hl
          obtain ⟨t1, t2⟩ := qg.feed (t := fdT p1 c (zT A)) ⟨v2, fb2, ft, a2, w2, b2⟩ f2
          refine ⟨g2, ?_, t1, t2⟩
          have g7 := mt.2.2.1 7 (Or.inl rfl)
          rw [m7] at g7
          show f_X7_feed n g 64 p1 (nI c) = _
          unfold f_X7_feed
          rw [inn, hin, Option.bind_some, i1, g_I g7, Option.bind_some, if_pos lM, Option.bind_some, e2, Option.bind_some, g_I (a2.2.2.1 7 (Or.inl rfl)), Option.bind_some, w2]
      · have lC : ¬ nI (zT A).1 + nI c ≤ (250 : Int32) := by rw [nI_add]; exact nI_ge (a := 250) (by omega) (by omega)
        have lM : ¬ nI c ≤ (250 : Int32) - nI (zT A).1 := by rw [show (250 : Int32) - nI (zT A).1 = nI (250 - (zT A).1) from nI_sub' (a := 250) ht]; exact nI_ge (by omega) (by omega)
        refine b_ref6 q ok ?_ (fun g qg => ?_)
        · unfold f_X6_feed
          rw [if_neg c1, if_pos c2, q.g5, Option.bind_some, g1, Option.bind_some, if_neg lC]
          rfl
        · obtain ⟨vm, fbm, ft, mt, m7, tbm⟩ := qg.2.2.2.1
          have g7 := mt.2.2.1 7 (Or.inl rfl)
          rw [m7] at g7
          show f_X7_feed n g 64 p1 (nI c) = _
          unfold f_X7_feed
          rw [inn, hin, Option.bind_some, i1, g_I g7, Option.bind_some, if_neg lM]
          rfl
    · have j2 : ¬ p2.toInt ≤ ((4 : Nat) : Int) := fun y => c2 ((leN (k := 4) (by decide) p2).mpr y)
      refine b_ref2 q ok ?_ (fun g qg => ?_)
      · unfold f_X6_feed; rw [if_neg c1, if_neg c2]; rfl
      · show f_X7_feed n g 64 p1 p2 = _
        unfold f_X7_feed
        rw [inn, Option.bind_some, decide_eq_false (show ¬ p2.toInt ≤ 4 by omega), Bool.and_false, i0]
        rfl
end Mk
