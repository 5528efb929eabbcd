/-! tried made anew; house. -/
theorem xad {α : Type} {x : α} (c s c' s' : Nat) : x_add c s (some (x, c', s')) = some (x, c + c', s + s') := rfl
theorem pStm_D {t : TP} {H H' : HS} {τ τ' : TK} (e : pStm t H τ = .inr (H', τ')) : hD H ≤ hD H' := by
  unfold pStm at e
  split at e
  · split at e
    · unfold pDoor at e
      split at e
      · cases e
      · split at e
        · cases e
        · split at e
          · cases e
          · split at e
            · cases e
            · unfold pDoor3 at e
              split at e
              · cases e; exact Nat.le_succ _
              · cases e; exact Nat.le_succ _
    · cases e
  · split at e
    · split at e
      · unfold pOne at e
        split at e
        · cases e
        · cases e; exact Nat.le_refl _
      · cases e
    · split at e
      · unfold pLaw at e
        split at e
        · cases e
        · cases e; exact Nat.le_refl _
      · split at e
        · unfold pWind at e
          split at e
          · cases e
          · cases e; exact Nat.le_refl _
        · split at e
          · unfold pMoves at e
            split at e
            · cases e
            · split at e
              · cases e
              · split at e
                · cases e
                · cases e; exact Nat.le_refl _
          · cases e
theorem rdA_D {t : TP} : ∀ (k c : Nat) (H : HS) (τ : TK) (c' : Nat) (H' : HS), rdA t k c H τ = .inr (c', H') → hD H ≤ hD H'
  | 0, c, H, τ, c', H', e => by cases e; exact Nat.le_refl _
  | k + 1, c, H, τ, c', H', e => by
    unfold rdA at e
    cases z : pStm t H τ with
    | inl f => rw [z] at e; cases e
    | inr x =>
      obtain ⟨H1, τ1⟩ := x
      rw [z] at e
      have h1 := pStm_D z
      dsimp only at e
      split at e
      · cases e; exact h1
      · split at e
        · exact Nat.le_trans h1 (rdA_D k _ _ _ _ _ e)
        · cases e
section Mk
variable {h h' g g' : xH} {w w' : Nat → Nat} {A : AS} {D : DS} {F : Nat → Nat → Prop} {P : Nat → Prop} {n : Nat}
theorem m_fresh2 {o : Nat} {T : HS} (q : MIn g w A) (ok : AOk A) (hn : 20 ≤ n) (e : x_get g 64 7 19 = some (.ref o)) (qT : MH g o T) (qc : ∀ a, cellM o a → w a = 2) : ∃ g2, ((x_gR g 64 7 19).bind fun a9 => (x_ob g a9 7).bind fun u10 => (f_X7_takeFrom n g a9 64).bind fun q11 => (x_gR q11 64 7 19).bind fun a12 => some (((a12, q11) : Nat × xH), 0, 0)) = some ((o, g2), 0, 0) ∧ MIn g2 w A ∧ FrR w g g2 ∧ x_get g2 64 7 19 = some (.ref o) ∧ MH g2 o (zH A) := by
  have o1 := q.big (by decide) (qc o (Or.inl rfl))
  obtain ⟨g2, e2, m2, f2⟩ := m_takeFrom (n := n) hn (Or.inr (by omega)) ok.1.1 ok.1.2.1 qT q.H
  obtain ⟨t1, t2⟩ := q.tryd e m2 qc f2
  have e3 := f2.1 _ _ _ _ (fun z => by omega) e
  refine ⟨g2, ?_, t1, t2, e3, m2⟩
  simp only [g_R e, qT.ob, e2, g_R e3, Option.bind_some]
theorem m_fresh (q : MIn g w A) (nz : Nz g w) (ok : AOk A) (hn : 20 ≤ n) : ∃ g' w' c s o, f_X7_fresh n g 64 = some ((o, g'), c, s) ∧ MX g w g' w' A c s ∧ x_get g' 64 7 19 = some (.ref o) ∧ MH g' o (zH A) ∧ ∀ a, cellM o a → w' a = 2 := by
  rcases q.2.2.2.2.2.2.1 with ⟨e19, en⟩ | ⟨o, T, e19, qT, qc⟩
  · have f0 : Fr (fun a k => a = 64 ∧ k = 19) (fun _ => False) g (g ++ new7 (g.length + 16)) := fr_app
    have e19' : x_get (g ++ new7 (g.length + 16)) 64 7 19 = some .null := (fr_app (F := fun _ _ => False) (P := fun _ => False)).1 _ _ _ _ (fun z => z) e19
    obtain ⟨g1, p1, p2, p3⟩ := w_put e19' (.ref (g.length + 16))
    have lo := q.lo
    have f1 : Fr (fun a k => a = 64 ∧ (k = 18 ∨ k = 19 ∨ k = 27 ∨ k = 28 ∨ k = 34 ∨ k = 35)) (fun _ => False) g g1 := Fr.mono (f0.trans p3) (fun a k z => ⟨z.1, Or.inr (Or.inl z.2)⟩) (fun _ z => z)
    have f2 : Fr (fun a k => a = 64 ∧ k = 19) (fun _ => False) g g1 := f0.trans p3
    have mh1 : MH g1 (g.length + 16) H00 := new_MH.fr p3 (fun k _ _ z => by omega) (fun _ _ _ z => z)
    obtain ⟨b0, b1, b2, b3, b4⟩ := q.b5 f1
    have c1 : ∀ a, cellM (g.length + 16) a → col w (g.length + 16) (g.length + 16 + 36) 2 a = 2 := fun a z => by
      unfold cellM at z
      exact col_in (by omega) (by omega)
    have up : ∀ {i : Nat} (a : Nat), i ≠ 0 → w a = i → col w (g.length + 16) (g.length + 16 + 36) 2 a = i := fun a hi e => by
      rw [col_up nz (by rw [e]; exact hi)]; exact e
    have m1 : MIn g1 (col w (g.length + 16) (g.length + 16 + 36) 2) A := ⟨b0, b1, b2, b3, b4, (q.2.2.2.2.2.1.fr f2 (fun z => by omega) (fun a k e z => by have := q.big (by decide) e; omega) (fun _ _ z => z)).rc (fun a _ e => up a (by decide) e) (col_ne (by decide)), Or.inr ⟨_, _, p2, mh1, c1⟩, (q.2.2.2.2.2.2.2.1.fr f2 (fun k h1 h2 z => by omega) ⟨fun z => z, fun z => z⟩ (fun _ _ z => z)).rc (fun a _ e => up a (by decide) e) (col_ne (by decide)), (q.2.2.2.2.2.2.2.2.1.fr f2 (fun k h1 h2 z => by omega) (fun _ _ z => z)).rc (fun a _ e => up a (by decide) e) (col_ne (by decide)), fun a ha => col_lo q.col lo ha⟩
    obtain ⟨g2, e2, t1, t2, t3, t4⟩ := m_fresh2 (n := n) m1 ok hn p2 mh1 c1
    refine ⟨g2, _, kC 2, kS 2, _, ?_, (MX.mk q nz (by decide) (by decide) en (by omega) m1 f1).st t1 t2, t3, t4, c1⟩
    unfold f_X7_fresh
    have ei := x7_init (h := g)
    unfold nul7 at ei
    simp only [g_N e19, Option.bind_some, if_true, ei, p1, xad, e2]
    rfl
  · obtain ⟨g2, e2, t1, t2, t3, t4⟩ := m_fresh2 (n := n) q ok hn e19 qT qc
    refine ⟨g2, w, 0, 0, o, ?_, MX.of t1 t2, t3, t4, qc⟩
    unfold f_X7_fresh
    simp only [g_Y e19, Option.bind_some, if_false, xad, e2, show (true = false) = False from eq_false (by decide)]
theorem m_ref80 (q : MIn g w A) {i : Nat} (hi : i < 5) {p : Int32} (hp : -p = nI (2 + i)) : ∃ g', f_X7_refuse g 64 p = some (p, g') ∧ MIn g' w (ref1 A i) ∧ FrR w g g' ∧ Fr (fun _ _ => False) (fun y => y = 80) g g' := by
  obtain ⟨fr, q1, q2⟩ := q.2.2.2.2.1
  obtain ⟨h1, e1, a1, f1⟩ := w_st q1 (j := 2 + i) (by omega) (by decide) (fr (2 + i) + 1)
  obtain ⟨c1, c2⟩ := q.refs (r := upd (zR A) i (zR A i + 1)) ⟨_, a1, fun k hk => by
    by_cases e : k = i
    · rw [e, pk_us, pk_us, q2 i hi]
    · rw [pk_un (by omega), pk_un e, q2 k hk]⟩ f1
  refine ⟨h1, ?_, c1, c2, f1⟩
  unfold f_X7_refuse
  rw [show x_gR g 64 7 8 = some 80 from q.g (k := 8) (by omega), Option.bind_some, hp, At.ld q1 (by omega) (by decide), Option.bind_some, e1, Option.bind_some]
theorem CI.tt {t : TP} (q : CI h D A) (qh : ∃ T, HAt h' 22 T) (qt : CT h' t) (f : Fr (fun a _ => a = 33 ∨ (22 ≤ a ∧ a < 27)) (fun a => 22 ≤ a ∧ a < 27) h h') : CI h' D (setT A t) ∧ FrC D h h' := by
  have dn := q.dn
  unfold fixd at dn
  obtain ⟨q0, q1, -, q3, q4, q5, q6, q7, q8, q9⟩ := q
  exact ⟨⟨q0.fr f (fun _ z => by omega), q1.fr f (fun _ z => by omega) (fun _ _ _ z => by omega), qh, q3.fr f (fun _ z => by omega) (fun _ _ _ z => by omega), q4.fr f (fun _ _ _ _ z => by omega) (fun _ _ z => by omega), qt, q6.fr f (fun _ => ⟨fun z => by omega, fun z => by omega⟩) (fun _ _ z => by omega) (fun z => by omega) (fun z => by omega) (fun z => by omega), q7.fr f (fun _ z => by omega) (fun z => by omega), f.2 _ _ (fun z => by omega) q8, q9⟩, Fr.mono f (fun a _ z => Or.inl (by omega)) (fun a z => Or.inl (by omega))⟩
/-- house -/
theorem b_house (q : CI h D A) (ok : AOk A) (hn : 400 ≤ n) : BMt h D A (f_X6_house n h 16) (fun g => f_X7_house n g 64) := by
  obtain ⟨T0, qT0⟩ := q.2.2.1
  obtain ⟨h1, e1, a1, f1⟩ := h_become (n := n) (b := 22) (o := 17) ok.1 (Or.inr (by omega)) (by omega) qT0 q.H
  obtain ⟨c1, d1⟩ := q.trial a1 f1
  obtain ⟨v, fb, ta, v1, tb⟩ := c1.2.2.2.2.2.1
  obtain ⟨h2, r, e2, f2, ⟨τ, vv, ta2, w1, -⟩, rr⟩ := t_readInto (n := n) (q := 33) (hb := 22) ta tb v1 a1 ok.1 (Or.inr (by omega)) hn
  have t0 : TOk ((0, (zT A).2) : TP) := ⟨Nat.zero_le _, fun j hj => absurd hj (Nat.not_lt_zero _)⟩
  obtain ⟨h3, e3, ta3, f3⟩ := ta2.put (k := 1) (by decide) (by decide) 0
  have ct3 : CT h3 (0, (zT A).2) := ⟨_, fb, ta3, pk_us, t0, fun j hj => absurd hj (Nat.not_lt_zero _)⟩
  have f23 : Fr (fun a _ => a = 33 ∨ (22 ≤ a ∧ a < 27)) (fun a => 22 ≤ a ∧ a < 27) h1 h3 := Fr.trans f2 (Fr.mono f3 (fun a _ z => Or.inl z) (fun a z => z.elim))
  have hT : ∀ T, HAt h2 22 T → HAt h3 22 T := fun T z => z.fr f3 (fun k z => by omega) (fun _ _ _ z => z.elim)
  -- the reference up to the reading
  have ref : ∀ g w, Nz g w → MIn g w A → ∃ g1 w1 c s o g2 r2, f_X7_fresh n g 64 = some ((o, g1), c, s) ∧ MX g w g1 w1 A c s ∧ MH g1 o (zH A) ∧ (∀ a, cellM o a → w1 a = 2) ∧ f_X7_readAll n g1 64 = some (r2, g2) ∧ ∃ fb', MRd g1 g2 64 (zT A) fb' r2 (rdA (zT A) 299 1 (zH A) (nxt (zT A) 0)) := fun g w nz qg => by
    obtain ⟨g1, w1, c, s, o, y1, y2, y3, y4, y5⟩ := m_fresh (n := n) qg nz ok (by omega)
    obtain ⟨v', fb', ft', a', v7, b'⟩ := y2.1.2.2.2.1
    obtain ⟨g2, r2, z1, z2⟩ := m_readAll (n := n) a' b' v7 y2.1.H ok.1 hn
    exact ⟨g1, w1, c, s, o, g2, r2, y1, y2, y4, y5, z1, fb', z2⟩
  cases R : rdA (zT A) 299 1 (zH A) (nxt (zT A) 0) with
  | inl f =>
    rw [R] at rr
    obtain ⟨er, hf, H', qH'⟩ := rr
    obtain ⟨c3, d3⟩ := c1.tt ⟨H', hT H' qH'⟩ ct3 f23
    obtain ⟨h4, e4, c4, d4⟩ := c_refuse c3 (i := 0) (p := -2) (by decide) (by decide)
    have neg : ¬ (0 : Int32) ≤ -20 - nI f := by
      rw [Int32.le_iff_toInt_le]
      have := nI_toInt (n := f) (by omega)
      rw [Int32.toInt_sub, this, show (0 : Int32).toInt = 0 from rfl, show (-20 : Int32).toInt = -20 from rfl, Int.bmod_eq_of_le (by omega) (by omega)]
      omega
    refine ⟨-20 - nI f, ref1 (setT A (0, (zT A).2)) 0, ⟨h4, ?_, c4, Fr.trans d1 (Fr.trans d3 d4)⟩, fun g w nz qg => ?_, ok.1, ok.2.1, ok.2.2.1, t0, ok.2.2.2.2⟩
    · unfold f_X6_house
      simp only [q.g1, q.g0, qT0.ob, e1, c1.g5, c1.g1, ta.ob, e2, er, Option.bind_some]
      have g5' : x_gR h2 16 6 5 = some 33 := g_R (f2.1 _ _ _ _ (fun z => by omega) (c1.1 5 (by decide)))
      simp only [g5', e3, Option.bind_some, eq_false neg, if_false]
      rw [c3.ob, Option.bind_some] at e4 ⊢
      cases z : f_X6_refuse h3 16 (-2) with
      | none => rw [z] at e4; cases e4
      | some x =>
        rw [z, Option.bind_some] at e4
        rw [Option.bind_some]
        rw [show x.2 = h4 from congrArg Prod.snd (Option.some.inj e4)]
    · obtain ⟨g1, w1, c, s, o, g2, r2, y1, y2, y4, y5, z1, fb', z2, z3⟩ := ref g w nz qg
      rw [R] at z3
      obtain ⟨er2, ⟨vm, ft, mt, vm7, vm24⟩, Hm, qHm⟩ := z3
      have o1 := y2.1.big (by decide) (y5 o (Or.inl rfl))
      obtain ⟨g3, p3, mt3, pf3⟩ := mt.put (k := 7) (by omega) 0
      have qo3 : MH g3 o (zH A) := (y4.fr z2 (fun k _ _ z => by omega) (fun a _ _ z => by omega)).fr pf3 (fun k _ _ z => by omega) (fun a _ _ z => by omega)
      have qm3 : MH g3 64 Hm := qHm.frN pf3
      obtain ⟨g4, p4, qm4, pf4⟩ := m_takeFrom (n := n) (by omega) (Or.inl (by omega)) ok.1.1 ok.1.2.1 qm3 qo3
      have ff : FrNH 64 g1 g4 := Fr.trans z2 (Fr.trans (FrNH.ofN pf3) (Fr.mono pf4 (fun a k z => ⟨z.1, Or.inl z.2⟩) (fun a z => by omega)))
      have mt4 : ∀ k, (k = 7 ∨ (20 ≤ k ∧ k < 25) ∨ k = 26) → x_get g4 64 7 k = some (.int (upd vm 7 0 k)) := fun k hk => pf4.1 _ _ _ _ (fun z => by omega) (mt3.2.2.1 k hk)
      have mtp : MTp g4 (0, (zT A).2) := ⟨_, fb', ft, ⟨pf4.1 _ _ _ _ (fun z => by omega) mt3.1, pf4.1 _ _ _ _ (fun z => by omega) mt3.2.1, mt4, pf4.2 _ _ (fun z => by omega) mt3.2.2.2.1, pf4.2 _ _ (fun z => by omega) mt3.2.2.2.2⟩, pk_us, t0, fun j hj => absurd hj (Nat.not_lt_zero _)⟩
      obtain ⟨t1, t2⟩ := y2.1.tape (t := (0, (zT A).2)) (H := zH A) qm4 mtp ff
      obtain ⟨g5, p5, m5, d5, f5⟩ := m_ref80 (A := setT A (0, (zT A).2)) (i := 0) (p := -2) t1 (by decide) (by decide)
      refine ⟨g5, w1, c, s, ?_, (y2.st t1 t2).st m5 d5⟩
      have x24 : x_gI g5 64 7 24 = some (nI f) := by
        have := f5.1 _ _ _ _ (fun z => z) (mt4 24 (by omega))
        rw [pk_un (by decide), vm24] at this
        exact g_I this
      show f_X7_house n g 64 = _
      unfold f_X7_house
      simp only [qg.ob, y1, y2.1.ob, z1, p3, er2, Option.bind_some, if_true, qm3.ob, p4, t1.ob, p5, x24, xad, Nat.add_zero]
  | inr x =>
    obtain ⟨c9, H'⟩ := x
    rw [R] at rr
    obtain ⟨er, hc, qH', okH⟩ := rr
    obtain ⟨c3, d3⟩ := c1.tt ⟨H', hT H' qH'⟩ ct3 f23
    obtain ⟨h4, e4, a4, f4⟩ := h_become (n := n) (b := 17) (o := 22) okH (Or.inl (by omega)) (by omega) c3.H (hT H' qH')
    obtain ⟨c4, d4⟩ := c3.now a4 f4
    refine ⟨nI c9, setH (setT A (0, (zT A).2)) H', ⟨h4, ?_, c4, Fr.trans d1 (Fr.trans d3 d4)⟩, fun g w nz qg => ?_, okH, ok.2.1, ok.2.2.1, t0, fun j hj d hd e => Nat.lt_of_lt_of_le (ok.2.2.2.2 j hj d hd e) (rdA_D _ _ _ _ _ _ R)⟩
    · unfold f_X6_house
      simp only [q.g1, q.g0, qT0.ob, e1, c1.g5, c1.g1, ta.ob, e2, er, Option.bind_some]
      have g5' : x_gR h2 16 6 5 = some 33 := g_R (f2.1 _ _ _ _ (fun z => by omega) (c1.1 5 (by decide)))
      simp only [g5', e3, Option.bind_some, eq_true (show (0 : Int32) ≤ nI c9 from nI_le (a := 0) (Nat.zero_le _) (by omega)), if_true, c3.g0, c3.g1, c3.H.ob, e4]
    · obtain ⟨g1, w1, c, s, o, g2, r2, y1, y2, y4, y5, z1, fb', z2, z3⟩ := ref g w nz qg
      rw [R] at z3
      obtain ⟨er2, qHm, vm, ft, mt, vm7, vm26⟩ := z3
      obtain ⟨g3, p3, mt3, pf3⟩ := mt.put (k := 7) (by omega) 0
      have qm3 : MH g3 64 H' := qHm.frN pf3
      obtain ⟨t1, t2⟩ := y2.1.tape (t := (0, (zT A).2)) (H := H') qm3 ⟨_, fb', ft, mt3, pk_us, t0, fun j hj => absurd hj (Nat.not_lt_zero _)⟩ (Fr.trans z2 (FrNH.ofN pf3))
      refine ⟨g3, w1, c, s, ?_, y2.st t1 t2⟩
      have x26 : x_gI g3 64 7 26 = some (nI c9) := by
        have := mt3.2.2.1 26 (by omega)
        rw [pk_un (by decide), vm26] at this
        exact g_I this
      show f_X7_house n g 64 = _
      unfold f_X7_house
      simp only [qg.ob, y1, y2.1.ob, z1, p3, er2, Option.bind_some, eq_false (show ¬ (1 : Int32) = 0 by decide), if_false, x26, xad, Nat.add_zero]
end Mk
