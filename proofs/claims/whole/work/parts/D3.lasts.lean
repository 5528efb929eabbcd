/-! lasts, worth, spare, endless, boxes. -/
theorem sub_le9 {T a b : Nat} (hT : T ≤ 99) (ha : a ≤ 99) (hb : b ≤ 99) : nI T - nI a ≤ nI T - nI b ↔ b ≤ a := by
  rw [Int32.le_iff_toInt_le, Int32.toInt_sub, Int32.toInt_sub, nI_toInt (by omega), nI_toInt (by omega), nI_toInt (by omega), Int.bmod_eq_of_le (by omega) (by omega), Int.bmod_eq_of_le (by omega) (by omega)]
  omega
theorem n99m : ∀ r, r < 100 → ¬ nI r ≤ -1 := by decide +kernel
section Mk
variable {h h' g g' : xH} {w w' : Nat → Nat} {A : AS} {D : DS} {F : Nat → Nat → Prop} {P : Nat → Prop} {n : Nat}
theorem c_most {L more : Nat} {ob : Int32} (q : CI h D A) (ok : HOk (zH A)) (h1 : 1 ≤ L) (h4 : L ≤ 4) (hm : more ≤ 20) (hn : 200 ≤ n) : ∃ h', f_X1_most n h 45 17 (nI L) ob (nI more) = some (nI (sLasts (zH A) ob L more), h') ∧ CI h' D A ∧ FrC D h h' := by
  obtain ⟨v, fb, ql⟩ := q.2.2.2.2.2.2.2.1
  obtain ⟨h', v', fb', e, l, f⟩ := l_most (n := n) (hb := 17) (ob := ob) ql q.H ok h1 h4 hm hn ⟨Or.inr (by omega), Or.inr (by omega)⟩
  obtain ⟨c1, c2⟩ := q.last ⟨v', fb', l⟩ f
  exact ⟨h', e, c1, c2⟩
theorem CI.o45 (q : CI h D A) : x_ob h 45 1 = some () := by
  obtain ⟨v, fb, ql⟩ := q.2.2.2.2.2.2.2.1
  exact g_ob ql.1
theorem HAt.Lw {H : HS} {b : Nat} (q : HAt h b H) : x_gI h b 0 7 = some (hL H) := g_I (q.1 7 (by decide))
theorem MH.Lw {H : HS} {m : Nat} (q : MH h m H) : x_gI h m 7 14 = some (hL H) := g_I (q.1 14 (by decide) (by decide))
/-- two tables made -/
theorem mk2 {k1 k2 N : Nat} (hk : k1 ≠ k2) (e1 : x_get g 64 7 k1 = some .null) (e2 : x_get g 64 7 k2 = some .null) : ∃ h8 h11, x_put (g ++ [.inl (.int, N, .inl (fun _ => 0))]) 64 7 k1 (.ref (g.length + 16)) = some h8 ∧ x_put (h8 ++ [.inl (.int, N, .inl (fun _ => 0))]) 64 7 k2 (.ref (h8.length + 16)) = some h11 ∧ x_get h11 64 7 k1 = some (.ref (g.length + 16)) ∧ x_get h11 64 7 k2 = some (.ref (h8.length + 16)) ∧ At h11 (g.length + 16) N (fun _ => 0) ∧ At h11 (h8.length + 16) N (fun _ => 0) ∧ g.length + 16 < h8.length + 16 ∧ Fr (fun a k => a = 64 ∧ (k = k1 ∨ k = k2)) (fun _ => False) g h11 := by
  have f0 : Fr (fun _ _ => False) (fun _ => False) g (g ++ [.inl (.int, N, .inl (fun _ => 0))]) := fr_app
  obtain ⟨h8, p1, p2, p3⟩ := w_put (f0.1 _ _ _ _ (fun z => z) e1) (.ref (g.length + 16))
  have a1 : At (g ++ [.inl (.int, N, .inl (fun _ => 0))]) (g.length + 16) N (fun _ => 0) := at_new (j := 0) rfl
  have a2 : At h8 (g.length + 16) N (fun _ => 0) := p3.2 _ _ (fun z => z) a1
  have lt := g_lt a2
  have e2' := p3.1 _ _ _ _ (fun z => hk z.2.symm) (f0.1 _ _ _ _ (fun z => z) e2)
  have f1 : Fr (fun _ _ => False) (fun _ => False) h8 (h8 ++ [.inl (.int, N, .inl (fun _ => 0))]) := fr_app
  obtain ⟨h11, r1, r2, r3⟩ := w_put (f1.1 _ _ _ _ (fun z => z) e2') (.ref (h8.length + 16))
  have b1 : At (h8 ++ [.inl (.int, N, .inl (fun _ => 0))]) (h8.length + 16) N (fun _ => 0) := at_new (j := 0) rfl
  refine ⟨h8, h11, p1, r1, r3.1 _ _ _ _ (fun z => hk z.2) (f1.1 _ _ _ _ (fun z => z) p2), r2, r3.2 _ _ (fun z => z) (f1.2 _ _ (fun z => z) a2), r3.2 _ _ (fun z => z) b1, lt, ?_⟩
  exact Fr.trans (Fr.mono f0 (fun _ _ z => z.elim) (fun _ z => z)) (Fr.trans (Fr.mono p3 (fun _ _ z => ⟨z.1, Or.inl z.2⟩) (fun _ z => z)) (Fr.trans (Fr.mono f1 (fun _ _ z => z.elim) (fun _ z => z)) (Fr.mono r3 (fun _ _ z => ⟨z.1, Or.inr z.2⟩) (fun _ z => z))))
theorem MIn.lst {a b : Nat} (q : MIn g w A) (ha : w a = 4) (hb : w b = 4) (qw : MIw g' w) (f : FrM 64 a b g g') : MIn g' w A ∧ FrR w g g' := by
  have a1 := q.big (by decide) ha
  have b1 := q.big (by decide) hb
  have nc : ∀ {i x : Nat}, w x = i → i ≠ 4 → ¬ (x = a ∨ x = b) := fun e1 e2 z => e2 (by
    rcases z with z | z
    · rw [← e1, z, ha]
    · rw [← e1, z, hb])
  have ng : ∀ {i x : Nat}, 0 < i → w x = i → x ≠ 64 := fun hi e z => by have := q.big hi e; omega
  obtain ⟨q0, q1, q2, q3, q4, q5, q6, q7, q8, q9⟩ := q
  exact ⟨⟨q0.fr f (fun _ _ z => by omega), q1.fr f (fun _ _ _ z => by omega) (fun _ _ _ z => by omega), q2.fr f (fun _ _ _ z => by omega), q3.fr f (fun _ _ z => by omega) ⟨fun z => by omega, fun z => by omega⟩, q4.fr f (fun z => by omega), q5.fr f (fun z => by omega) (fun _ _ e z => ng (by decide) e z.1) (fun _ e z => nc e (by decide) z), q6.fr f (fun z => by omega) (fun _ _ e z => ng (by decide) e z.1) (fun _ e z => nc e (by decide) z), q7.fr f (fun _ _ _ z => by omega) ⟨fun z => by omega, fun z => by omega⟩ (fun _ e z => nc e (by decide) z), qw, q9⟩, Fr.mono f (fun x _ z => Or.inl (by omega)) (fun x z => Or.inr (by rcases z with z | z <;> rw [z] <;> simp [ha, hb]))⟩
/-- the reference's count -/
theorem m_lastsBy {L more : Nat} (q : MIn g w A) (hz : Nz g w ∨ ∃ a, w a = 4) (ok : HOk (zH A)) (h1 : 1 ≤ L) (h4 : L ≤ 4) (hm : more ≤ 20) (hn : 200 ≤ n) : ∃ g' w' c s, f_X7_lastsBy n g 64 (nI L) (nI more) = some ((nI (sLasts (zH A) (hO (zH A)) L more), g'), c, s) ∧ MX g w g' w' A c s ∧ ∃ a, w' a = 4 := by
  have core : ∀ {g1 : xH} {w1 : Nat → Nat} {a b : Nat} {f1 f2 : Nat → Int32}, MIn g1 w1 A → x_get g1 64 7 34 = some (.ref a) → x_get g1 64 7 35 = some (.ref b) → At g1 a 6000 f1 → At g1 b 6000 f2 → a ≠ b → w1 a = 4 → w1 b = 4 → ∃ g2, ((x_put g1 64 7 36 (.int (nI more))).bind fun h9 =>
    (x_put h9 64 7 37 (.int (0 : Int32))).bind fun h10 =>
    (x_put h10 64 7 38 (.int (0 : Int32))).bind fun h11 =>
    (x_put h11 64 7 39 (.int (0 : Int32))).bind fun h12 =>
    (f_X7_lastsBy_L53 64 (nI L) n (nI more) (0 : Int32) (0 : Int32) h12).bind fun q48 =>
    (x_ob q48.2.2 64 7).bind fun u49 =>
    (f_X7_turnsOn n q48.2.2 64 (nI L) (1 : Int32)).bind fun q50 =>
    (f_X7_lastsBy_L243 n 64 (nI L) q48.1 q48.2.1 n q50.1 (1 : Int32) q50.2).bind fun q56 =>
    (x_gR q56 64 7 35).bind fun a57 =>
    (x_gI q56 64 7 38).bind fun x58 =>
    (x_gI q56 64 7 39).bind fun x59 =>
    (x_ob q56 64 7).bind fun u60 =>
    (f_X7_placeOf q56 64 q48.1 q48.2.1 x58 x59).bind fun q61 =>
    (x_ld q56 a57 q61).bind fun x62 =>
    some (((x62, q56) : Int32 × xH), 0, 0)) = some ((nI (sLasts (zH A) (hO (zH A)) L more), g2), 0, 0) ∧ MIn g2 w1 A ∧ FrR w1 g1 g2 := fun {g1 w1 a b f1 f2} m1 x34 x35 aa ab ne wa wb => by
    have ba := m1.big (by decide) wa
    have bb := m1.big (by decide) wb
    obtain ⟨u, hu⟩ := m1.2.2.2.2.2.2.2.2.1.1
    obtain ⟨g2, e, ⟨x, y, f, gg, xy, ml, -⟩, fr⟩ := ml_core (n := n) (more := more) (L := L) ⟨x34, x35, hu, aa, ab, ne⟩ m1.H ok h1 h4 hm hn ⟨Or.inr (by omega), Or.inr (by omega)⟩
    obtain ⟨t1, t2⟩ := m1.lst wa wb (g' := g2) ⟨⟨_, ml.2.2.1⟩, Or.inr ⟨x, y, f, gg, ml.1, ml.2.1, ml.2.2.2.1, ml.2.2.2.2.1, ml.2.2.2.2.2, by rcases xy with ⟨rfl, rfl⟩ | ⟨rfl, rfl⟩ <;> assumption, by rcases xy with ⟨rfl, rfl⟩ | ⟨rfl, rfl⟩ <;> assumption⟩⟩ fr
    exact ⟨g2, e, t1, t2⟩
  rcases q.2.2.2.2.2.2.2.2.1.2 with ⟨e34, e35, en⟩ | ⟨a, b, f1, f2, x34, x35, aa, ab, ne, wa, wb⟩
  · have nz : Nz g w := hz.resolve_right fun ⟨a, z⟩ => en a z
    obtain ⟨h8, h11, p1, p2, g34, g35, a1, a2, lt, f⟩ := mk2 (N := 6000) (show 34 ≠ 35 by decide) e34 e35
    have lo := q.lo
    have f1 : Fr (fun a k => a = 64 ∧ (k = 18 ∨ k = 19 ∨ k = 27 ∨ k = 28 ∨ k = 34 ∨ k = 35)) (fun _ => False) g h11 := Fr.mono f (fun a k z => by omega) (fun _ z => z)
    obtain ⟨b0, b1, b2, b3, b4⟩ := q.b5 f1
    have up : ∀ {i : Nat} (a : Nat), i ≠ 0 → w a = i → col w (g.length + 16) (h8.length + 16 + 1) 4 a = i := fun a hi e => by
      rw [col_up nz (by rw [e]; exact hi)]; exact e
    have ca : col w (g.length + 16) (h8.length + 16 + 1) 4 (g.length + 16) = 4 := col_in (Nat.le_refl _) (by omega)
    have cb : col w (g.length + 16) (h8.length + 16 + 1) 4 (h8.length + 16) = 4 := col_in (by omega) (by omega)
    have m1 : MIn h11 (col w (g.length + 16) (h8.length + 16 + 1) 4) A := ⟨b0, b1, b2, b3, b4, (q.2.2.2.2.2.1.fr f (fun z => by omega) (fun a k e z => by have := q.big (by decide) e; omega) (fun _ _ z => z)).rc (fun a _ e => up a (by decide) e) (col_ne (by decide)), (q.2.2.2.2.2.2.1.fr f (fun z => by omega) (fun a k e z => by have := q.big (by decide) e; omega) (fun _ _ z => z)).rc (fun a _ e => up a (by decide) e) (col_ne (by decide)), (q.2.2.2.2.2.2.2.1.fr f (fun k h1 h2 z => by omega) ⟨fun z => z, fun z => z⟩ (fun _ _ z => z)).rc (fun a _ e => up a (by decide) e) (col_ne (by decide)), ⟨by
        obtain ⟨u, hu⟩ := q.2.2.2.2.2.2.2.2.1.1
        exact ⟨u, fun k h1 h2 => f.1 _ _ _ _ (fun z => by omega) (hu k h1 h2)⟩, Or.inr ⟨_, _, _, _, g34, g35, a1, a2, Nat.ne_of_lt lt, ca, cb⟩⟩, fun a ha => col_lo q.col lo ha⟩
    obtain ⟨g2, e2, t1, t2⟩ := core m1 g34 g35 a1 a2 (by omega) ca cb
    refine ⟨g2, _, kC 4, kS 4, ?_, (MX.mk q nz (by decide) (by decide) en (by omega) m1 f1).st t1 t2, _, ca⟩
    unfold f_X7_lastsBy
    rw [g_N e34, Option.bind_some, if_pos rfl, p1, Option.bind_some, p2, Option.bind_some, xad, xad, Option.bind_some]
    dsimp only
    rw [e2, xad]
    rfl
  · obtain ⟨g2, e2, t1, t2⟩ := core q x34 x35 aa ab ne wa wb
    refine ⟨g2, w, 0, 0, ?_, MX.of t1 t2, a, wa⟩
    unfold f_X7_lastsBy
    rw [g_Y x34, Option.bind_some, if_neg (by decide), Option.bind_some]
    dsimp only
    rw [e2, xad]
/-- lasts -/
theorem b_lasts (q : CI h D A) (ok : AOk A) (hn : 200 ≤ n) : BMt h D A (f_X6_lasts n h 16) (fun g => f_X7_lasts n g 64) := by
  obtain ⟨L, h1, h4, eL⟩ := ok.1.2.2.2.2.1
  obtain ⟨h2, e2, c2, d2⟩ := c_most (n := n) (more := 0) (ob := hO (zH A)) q ok.1 h1 h4 (by decide) hn
  refine ⟨nI (sLasts (zH A) (hO (zH A)) L 0), A, ⟨h2, ?_, c2, d2⟩, fun g w nz qg => ?_, ok⟩
  · unfold f_X6_lasts
    rw [q.g7, Option.bind_some, q.g0, Option.bind_some, Option.bind_some, q.H.Lw, Option.bind_some, Option.bind_some, q.H.O, Option.bind_some, q.o45, Option.bind_some, eL, show f_X1_most n h 45 17 (nI L) (hO (zH A)) 0 = _ from e2, Option.bind_some]
  · obtain ⟨g2, w2, c, s, e3, x3, -⟩ := m_lastsBy (n := n) (more := 0) qg (Or.inl nz) ok.1 h1 h4 (by decide) hn
    refine ⟨g2, w2, c, s, ?_, x3⟩
    show f_X7_lasts n g 64 = _
    unfold f_X7_lasts
    rw [qg.H.Lw, Option.bind_some, qg.ob, Option.bind_some, eL, show f_X7_lastsBy n g 64 (nI L) 0 = _ from e3, Option.bind_some, xad, Nat.add_zero, Nat.add_zero]
theorem clr_or {x : Int32} {d : Nat} (hd : d < 32) (e : bt x d = true) : sClr x d ||| i_shl 1 (nI d) = x := by
  apply b_ext
  intro i hi
  rw [b_or, sClr_bt hd hi, b_bit hd hi]
  by_cases z : i = d
  · rw [z, e]; simp
  · simp [z]
theorem m_worthOf {L d : Nat} (q : MIn g w A) (hz : Nz g w ∨ ∃ a, w a = 4) (ok : HOk (zH A)) (h1 : 1 ≤ L) (h4 : L ≤ 4) (eL : hL (zH A) = nI L) (hd : d < hD (zH A)) (ho : bt (hO (zH A)) d = true) (hn : 200 ≤ n) : ∃ g' w' c s, f_X7_worthOf n g 64 (nI d) = some ((nI (sLasts (zH A) (hO (zH A)) L 0) - nI (sLasts (zH A) (sClr (hO (zH A)) d) L 0), g'), c, s) ∧ MX g w g' w' A c s ∧ ∃ a, w' a = 4 := by
  have h14 := ok.1
  obtain ⟨g1, w1, c1, s1, e1, x1, y1⟩ := m_lastsBy (n := n) (more := 0) q hz ok h1 h4 (by decide) hn
  obtain ⟨g2, e2, m2, f2⟩ := x1.1.H.putO (sClr (hO (zH A)) d)
  obtain ⟨t1, t2⟩ := x1.1.now m2 f2
  have ok2 : HOk (sO (zH A) (sClr (hO (zH A)) d)) := ok_clr ok _
  obtain ⟨g3, w3, c3, s3, e3, x3, y3⟩ := m_lastsBy (n := n) (more := 0) (L := L) t1 (Or.inr y1) ok2 h1 h4 (by decide) hn
  obtain ⟨g4, e4, m4, f4⟩ := x3.1.H.putO (hO (zH A))
  obtain ⟨t3, t4⟩ := x3.1.now m4 f4
  refine ⟨g4, w3, c1 + c3, s1 + s3, ?_, ((x1.st t1 t2).trans x3).st t3 t4, y3⟩
  unfold f_X7_worthOf
  rw [q.H.Lw, Option.bind_some, q.ob, Option.bind_some, eL, show f_X7_lastsBy n g 64 (nI L) 0 = _ from e1, Option.bind_some]
  dsimp only
  rw [x1.1.H.O, Option.bind_some, show hO (zH A) &&& (i_shl (1 : Int32) (nI d) ^^^ (-1 : Int32)) = sClr (hO (zH A)) d from rfl, e2, Option.bind_some, m2.Lw, Option.bind_some, t1.ob, Option.bind_some, show hL (sO (zH A) (sClr (hO (zH A)) d)) = nI L from eL, show f_X7_lastsBy n g2 64 (nI L) 0 = _ from e3, Option.bind_some]
  dsimp only
  rw [x3.1.H.O, Option.bind_some, show hO (zH (setH A (sO (zH A) (sClr (hO (zH A)) d)))) ||| i_shl (1 : Int32) (nI d) = hO (zH A) from clr_or (by omega) ho, e4, Option.bind_some, xad, xad, Nat.add_zero, Nat.add_zero]
  rfl
/-- worth -/
theorem b_worth (q : CI h D A) (ok : AOk A) (p : Int32) (hn : 200 ≤ n) : BMt h D A (f_X6_worth n h 16 p) (fun g => f_X7_worth n g 64 p) := by
  have h14 := ok.1.1
  have rf : ∀ (i : Nat) (p1 : Int32), i < 5 → -2 - p1 = nI i → -p1 = nI (2 + i) → (f_X6_worth n h 16 p = (x_ob h 16 6).bind fun _ => (f_X6_refuse h 16 p1).bind fun q5 => some ((-1000000 + q5.1, q5.2) : Int32 × xH)) → (∀ g w, MIn g w A → f_X7_worth n g 64 p = (x_ob g 64 7).bind fun _ => (f_X7_refuse g 64 p1).bind fun q4 => some (((q4.1 - 1000000, q4.2) : Int32 × xH), 0, 0)) → BMt h D A (f_X6_worth n h 16 p) (fun g => f_X7_worth n g 64 p) := fun i p1 hi z1 z2 eX eY => by
    refine ⟨-1000000 + p1, ref1 A i, ?_, fun g w nz qg => ?_, ok.ref i⟩
    · obtain ⟨h3, e3, c3, f3⟩ := c_refuse q hi z1
      refine ⟨h3, ?_, c3, f3⟩
      rw [eX]
      rw [q.ob, Option.bind_some] at e3 ⊢
      cases z : f_X6_refuse h 16 p1 with
      | none => rw [z] at e3; cases e3
      | some x =>
        rw [z, Option.bind_some] at e3
        rw [Option.bind_some, show x.2 = h3 from congrArg Prod.snd (Option.some.inj e3), show x.1 = p1 from congrArg Prod.fst (Option.some.inj e3)]
    · obtain ⟨g', e, m, f, -⟩ := m_ref80 qg hi z2
      refine ⟨g', w, 0, 0, ?_, MX.of m f⟩
      show f_X7_worth n g 64 p = _
      rw [eY g w qg, qg.ob, Option.bind_some, e, Option.bind_some]
      dsimp only
      rw [Int32.sub_eq_add_neg, Int32.add_comm]
  by_cases c : sIs (hD (zH A)) p = true
  · obtain ⟨d, hd, rfl⟩ := (sIs_iff (by omega) p).mp c
    by_cases co : bt (hO (zH A)) d = true
    · obtain ⟨L, h1, h4, eL⟩ := ok.1.2.2.2.2.1
      obtain ⟨h2, e2, c2, d2⟩ := c_most (n := n) (more := 0) (ob := hO (zH A)) q ok.1 h1 h4 (by decide) hn
      obtain ⟨h3, e3, c3, d3⟩ := c_most (n := n) (more := 0) (L := L) (ob := sClr (hO (zH A)) d) c2 ok.1 h1 h4 (by decide) hn
      refine ⟨nI (sLasts (zH A) (hO (zH A)) L 0) - nI (sLasts (zH A) (sClr (hO (zH A)) d) L 0), A, ⟨h3, ?_, c3, Fr.trans d2 d3⟩, fun g w nz qg => ?_, ok⟩
      · unfold f_X6_worth
        rw [q.g0, Option.bind_some, q.H.ob, Option.bind_some, h_hasDoor q.H, c, Option.bind_some, i1, Option.bind_some, q.H.ob, Option.bind_some, h_isOpen q.H (by omega), co, Option.bind_some, i1, q.g7, Option.bind_some, Option.bind_some, Option.bind_some, q.H.Lw, Option.bind_some, Option.bind_some, q.H.O, Option.bind_some, q.o45, Option.bind_some, eL, show f_X1_most n h 45 17 (nI L) (hO (zH A)) 0 = _ from e2, Option.bind_some]
        dsimp only
        rw [c2.g7, Option.bind_some, c2.g0, Option.bind_some, Option.bind_some, c2.H.Lw, Option.bind_some, Option.bind_some, c2.H.O, Option.bind_some, c2.o45, Option.bind_some, eL, show f_X1_most n h2 45 17 (nI L) (hO (zH A) &&& (i_shl (1 : Int32) (nI d) ^^^ (-1 : Int32))) 0 = _ from e3, Option.bind_some]
      · obtain ⟨g2, w2, cc, s, y3, x3, -⟩ := m_worthOf (n := n) qg (Or.inl nz) ok.1 h1 h4 eL hd co hn
        refine ⟨g2, w2, cc, s, ?_, x3⟩
        show f_X7_worth n g 64 (nI d) = _
        unfold f_X7_worth
        rw [qg.ob, Option.bind_some, m_isDoor qg.H ok.1, c, Option.bind_some, i1, qg.H.O, Option.bind_some, m_has (by omega), co, Option.bind_some, i1, Option.bind_some, y3, Option.bind_some, xad, Nat.add_zero, Nat.add_zero]
    · refine rf 3 (-5) (by decide) (by decide) (by decide) ?_ (fun g w qg => ?_)
      · unfold f_X6_worth
        rw [q.g0, Option.bind_some, q.H.ob, Option.bind_some, h_hasDoor q.H, c, Option.bind_some, i1, Option.bind_some, q.H.ob, Option.bind_some, h_isOpen q.H (by omega), Bool.eq_false_iff.mpr co, Option.bind_some, i0]
      · unfold f_X7_worth
        rw [qg.ob, Option.bind_some, m_isDoor qg.H ok.1, c, Option.bind_some, i1, qg.H.O, Option.bind_some, m_has (by omega), Bool.eq_false_iff.mpr co, Option.bind_some, i0]
  · refine rf 0 (-2) (by decide) (by decide) (by decide) ?_ (fun g w qg => ?_)
    · unfold f_X6_worth
      rw [q.g0, Option.bind_some, q.H.ob, Option.bind_some, h_hasDoor q.H, sIs_no c, Option.bind_some, i0]
    · unfold f_X7_worth
      rw [qg.ob, Option.bind_some, m_isDoor qg.H ok.1, sIs_no c, Option.bind_some, i0]
end Mk
