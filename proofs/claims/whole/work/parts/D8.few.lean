/-! The reference's fewest; the joint step of calls with searches. -/
section Mk
variable {h h' g g' : xH} {w w' : Nat → Nat} {A : AS} {D : DS} {F : Nat → Nat → Prop} {P : Nat → Prop} {n : Nat}
theorem MIq.f33 {y : Int32} (q : MIq g w) (f : Fr (fun a k => a = 64 ∧ k = 33) (fun _ => False) g g') (x33 : x_get g' 64 7 33 = some (.int y)) : MIq g' w := by
  obtain ⟨q1, q2, ⟨x30, em, x, q3, q4, -⟩, ⟨fg, fe, q6, q7⟩, q8⟩ := q
  refine ⟨f.1 _ _ _ _ (fun z => by omega) q1, f.1 _ _ _ _ (fun z => by omega) q2, ⟨x30, em, y, f.1 _ _ _ _ (fun z => by omega) q3, f.1 _ _ _ _ (fun z => by omega) q4, x33⟩, ⟨fg, fe, f.2 _ _ (fun z => z) q6, f.2 _ _ (fun z => z) q7⟩, ?_⟩
  rcases q8 with ⟨a1, a2, an⟩ | ⟨af, ab, fF, fB, a1, a2, a3, a4, a5, a6, a7⟩
  · exact Or.inl ⟨f.1 _ _ _ _ (fun z => by omega) a1, f.1 _ _ _ _ (fun z => by omega) a2, an⟩
  · exact Or.inr ⟨af, ab, fF, fB, f.1 _ _ _ _ (fun z => by omega) a1, f.1 _ _ _ _ (fun z => by omega) a2, f.2 _ _ (fun z => z) a3, f.2 _ _ (fun z => z) a4, a5, a6, a7⟩
theorem MIq.goal {x : Int32} {fg' : Nat → Int32} (q : MIq g w) (m : MIn g w A) (f : Fr (fun a k => a = 64 ∧ k = 30) (fun a => a = 98) g g') (x30 : x_get g' 64 7 30 = some (.int x)) (a98 : At g' 98 4 fg') : MIq g' w := by
  obtain ⟨q1, q2, ⟨x30', em, x33, q3, q4, q5⟩, ⟨fg, fe, q6, q7⟩, q8⟩ := q
  refine ⟨f.1 _ _ _ _ (fun z => by omega) q1, f.1 _ _ _ _ (fun z => by omega) q2, ⟨x, em, x33, x30, f.1 _ _ _ _ (fun z => by omega) q4, f.1 _ _ _ _ (fun z => by omega) q5⟩, ⟨fg', fe, a98, f.2 _ _ (fun z => by omega) q7⟩, ?_⟩
  rcases q8 with ⟨a1, a2, an⟩ | ⟨af, ab, fF, fB, a1, a2, a3, a4, a5, a6, a7⟩
  · exact Or.inl ⟨f.1 _ _ _ _ (fun z => by omega) a1, f.1 _ _ _ _ (fun z => by omega) a2, an⟩
  · have b1 := m.big (by decide) a6
    have b2 := m.big (by decide) a7
    exact Or.inr ⟨af, ab, fF, fB, f.1 _ _ _ _ (fun z => by omega) a1, f.1 _ _ _ _ (fun z => by omega) a2, f.2 _ _ (fun z => by omega) a3, f.2 _ _ (fun z => by omega) a4, a5, a6, a7⟩
theorem MIn.goal {x : Int32} {fg' : Nat → Int32} (q : MIn g w A) (f : Fr (fun a k => a = 64 ∧ k = 30) (fun a => a = 98) g g') (x30 : x_get g' 64 7 30 = some (.int x)) (a98 : At g' 98 4 fg') : MIn g' w A ∧ FrR w g g' := q.mq (q.2.2.2.2.2.2.2.1.goal q f x30 a98) (Fr.mono f (fun a k z => by omega) (fun a z => Or.inl z))
def ansM (g : xH) (G : GP) (b : Int32) : Prop := (b = -1 ∧ NoBest G) ∨ ∃ k f, b = nI k ∧ k < 2 ^ 30 ∧ Best G k f ∧ x_gI g 64 7 33 = some (nI f)
theorem m_ff {p m : Nat} {gl : Nat → Nat} (q : MIn g w A) (hz : Nz g w ∨ ∃ a, w a = 3) (ok : AOk A) (h9 : hD (zH A) ≤ 9) (hp : p < hP (zH A)) (hm : m ≤ 4) (hl : ∀ j, j < m → gl j < 32) (e30 : x_get g 64 7 30 = some (.int (nI m))) (hg : ∃ fg, At g 98 4 fg ∧ ∀ j, j < m → fg j = nI (gl j)) (hn : 700000 ≤ n) : ∃ g' w' c s b, ((f_X7_findComing n g 64 (nI p)).bind fun q5 =>
  x_add q5.2.1 q5.2.2 <|
  (x_ob q5.1 64 7).bind fun u8 =>
  (f_X7_fewest n q5.1 64).bind fun q9 =>
  some (((q9.1, q9.2) : Int32 × xH), 0, 0)) = some ((b, g'), c, s) ∧ MX g w g' w' A c s ∧ ansM g' (gOf A p gl m) b ∧ ∃ a, w' a = 3 := by
  obtain ⟨g1, w1, c, s, af, ab, em, fe, T, y, e1, x1, sx, fin, x33, mk⟩ := m_find (n := n) q hz ok h9 hp hm hl e30 hg hn
  obtain ⟨g2, b, e2, sx2, f2, an⟩ := sx_fewest (N := n) sx (gOf_ok ok h9 hp hm) fin x33 (by omega)
  have mq : ∃ y', x_get g2 64 7 33 = some (.int y') := by
    rcases an with ⟨-, -, y', z⟩ | ⟨k, f, -, -, -, z⟩
    · exact ⟨y', z⟩
    · exact ⟨_, z⟩
  obtain ⟨y', hy⟩ := mq
  obtain ⟨t1, t2⟩ := x1.1.mq (x1.1.2.2.2.2.2.2.2.1.f33 f2 hy) (Fr.mono f2 (fun a k z => by omega) (fun a z => z.elim))
  refine ⟨g2, w1, c, s, b, ?_, x1.st t1 t2, ?_, mk⟩
  · rw [e1, Option.bind_some]
    dsimp only
    rw [x1.1.ob, Option.bind_some, e2, Option.bind_some, xad, Nat.add_zero, Nat.add_zero]
  · rcases an with ⟨z1, z2, -⟩ | ⟨k, f, z1, z2, z3, z4⟩
    · exact Or.inl ⟨z1, z2⟩
    · exact Or.inr ⟨k, f, z1, z2, z3, g_I z4⟩
theorem m_to {p r : Nat} (q : MIn g w A) (hz : Nz g w ∨ ∃ a, w a = 3) (ok : AOk A) (h9 : hD (zH A) ≤ 9) (hp : p < hP (zH A)) (hr : r < 8) (hn : 700000 ≤ n) : ∃ g' w' c s b, f_X7_comingTo n g 64 (nI p) (nI r) = some ((b, g'), c, s) ∧ MX g w g' w' A c s ∧ ansM g' (gOf A p (fun _ => r) 1) b ∧ ∃ a, w' a = 3 := by
  obtain ⟨y29, y31, ⟨x, em, y, y30, y32, y33⟩, ⟨fg, fe, y6, y7⟩, -⟩ := q.2.2.2.2.2.2.2.1
  obtain ⟨g1, e1, a1, f1⟩ := w_st y6 (j := 0) (by decide) (by decide) (nI r)
  obtain ⟨g2, e2, p2, f2⟩ := w_put (f1.1 _ _ _ _ (fun z => z) y30) (.int 1)
  have f : Fr (fun a k => a = 64 ∧ k = 30) (fun a => a = 98) g g2 := Fr.trans (Fr.mono f1 (fun _ _ z => z.elim) (fun _ z => z)) (Fr.mono f2 (fun _ _ z => z) (fun _ z => z.elim))
  have a2 := f2.2 _ _ (fun z => z) a1
  obtain ⟨t1, t2⟩ := q.goal f p2 a2
  have hz2 : Nz g2 w ∨ ∃ a, w a = 3 := hz.imp (fun nz => nz.fr q f (fun a k h z => by omega) (fun a h z => by omega)) id
  obtain ⟨g3, w3, c, s, b, e3, x3, an, mk⟩ := m_ff (n := n) (p := p) (m := 1) (gl := fun _ => r) t1 hz2 ok h9 hp (by decide) (fun _ _ => by omega) p2 ⟨_, a2, fun j hj => by rw [show j = 0 by omega, pk_us]⟩ hn
  refine ⟨g3, w3, 0 + c, 0 + s, b, ?_, (MX.of t1 t2).trans x3, an, mk⟩
  unfold f_X7_comingTo
  rw [g_R y29, Option.bind_some, show x_st g 98 0 (nI r) = _ from e1, Option.bind_some, e2, Option.bind_some, t1.ob, Option.bind_some, Nat.zero_add, Nat.zero_add]
  exact e3
/-- both answers are one -/
theorem ans_eq {G : GP} {b b' : Int32} (x : ansC h G b) (y : ansM g G b') : b = b' ∧ (b = -1 ∨ ∃ k, b = nI k ∧ k ≤ 16384 ∧ (0 < k → ∃ f, f_X3_leastFirst h 35 = some f ∧ x_gI g 64 7 33 = some f)) := by
  rcases x with ⟨x1, x2⟩ | ⟨k, f, x1, x2, x3, x4⟩
  · rcases y with ⟨y1, y2⟩ | ⟨k', f', y1, y2, y3, y4⟩
    · exact ⟨x1.trans y1.symm, Or.inl x1⟩
    · obtain ⟨x, r, z⟩ := y3.1
      exact absurd z (x2 _ _ _ _)
  · rcases y with ⟨y1, y2⟩ | ⟨k', f', y1, y2, y3, y4⟩
    · obtain ⟨x, r, z⟩ := x3.1
      exact absurd z (y2 _ _ _ _)
    · obtain ⟨u1, u2⟩ := x3.uniq y3
      refine ⟨by rw [x1, y1, u1], Or.inr ⟨k, x1, x2, fun z => ⟨nI f, x4 z, by rw [u2]; exact y4⟩⟩⟩
def JGt (h : xH) (D : DS) (w : Nat → Nat) (A : AS) (k : Nat) (X : Option ((Int32 × xH) × Nat × Nat)) (Y : xH → Option ((Int32 × xH) × Nat × Nat)) : Prop := ∃ r h1 D1 w1 A' c s, X = some ((r, h1), c, s) ∧ CI h1 D1 A' ∧ MIn h1 w1 A ∧ (w1 (dp D1) = 0 ∧ w1 (ds D1) = 0 ∧ w1 (dq D1) = 0) ∧ fx D k D1 ∧ tC D w + c ≤ tC D1 w1 ∧ tS D w + s ≤ tS D1 w1 ∧ (∀ g w, Nz g w → MIn g w A → MGt g w (Y g) r A') ∧ AOk A'
variable {X : Option ((Int32 × xH) × Nat × Nat)} {Y : xH → Option ((Int32 × xH) × Nat × Nat)}
theorem JGt.step {k : Nat} (b : JGt h D w A k X Y) : ∃ r h1 h2 D1 w2 A' c s c' s', X = some ((r, h1), c, s) ∧ Y h1 = some ((r, h2), c', s') ∧ x_ob h1 64 7 = some () ∧ JJ h2 D1 w2 A' ∧ fx D k D1 ∧ tC D w + (c + c') ≤ tC D1 w2 ∧ tS D w + (s + s') ≤ tS D1 w2 := by
  obtain ⟨r, h1, D1, w1, A', c, s, e1, c1, m1, jw, fx1, k1, k2, my, ok⟩ := b
  have gr := mCS_le (m1.grow (w' := nrm h1 w1) fun a l _ => nrm_lv l)
  obtain ⟨h2, w', c', s', e2, m2, f2, x1, x2, x3, x4⟩ := my h1 (nrm h1 w1) nrm_nz m1.norm
  obtain ⟨l1, l2, l3⟩ := c1.dl
  have z : ∀ a, Lv h1 a → ¬ fixd a → w1 a = 0 → w' a = 0 := fun a l nf e => by
    by_cases h100 : 100 ≤ a
    · exact x2 a l h100 (nrm_0 e)
    · exact m2.col a (by omega)
  have jw' : w' (dp D1) = 0 ∧ w' (ds D1) = 0 ∧ w' (dq D1) = 0 := ⟨z _ l1 c1.dn.1 jw.1, z _ l2 c1.dn.2.1 jw.2.1, z _ l3 c1.dn.2.2 jw.2.2⟩
  refine ⟨r, h1, h2, D1, w', A', c, s, c', s', e1, e2, m1.ob, ⟨c1.frR jw' m2.col f2, m2, jw', ok⟩, fx1, ?_, ?_⟩
  · unfold tC at k1 ⊢; omega
  · unfold tS at k2 ⊢; omega
def refCC (h : xH) (p : Int32) : Option ((Int32 × xH) × Nat × Nat) := (x_ob h 16 6).bind fun _ => (f_X6_refuse h 16 p).bind fun q3 => some ((q3.1, q3.2), 0, 0)
theorem jg_ref {k : Nat} (j : JJ h D w A) {i : Nat} (hi : i < 5) {p : Int32} (hp : -2 - p = nI i) (hp2 : -p = nI (2 + i)) (eX : X = refCC h p) (eY : ∀ g w, MIn g w A → Y g = refMM g p) : JGt h D w A k X Y := by
  obtain ⟨jc, jm, jw, ok⟩ := j
  obtain ⟨h3, e3, c3, f3⟩ := c_refuse jc hi hp
  refine ⟨p, h3, D, w, ref1 A i, 0, 0, ?_, c3, jm.frC jc.dn jw f3, jw, ⟨Nat.le_add_right _ _, Nat.le_add_right _ _⟩, Nat.le_refl _, Nat.le_refl _, fun g w _ qg => ?_, ok.ref i⟩
  · rw [eX]
    unfold refCC
    rw [jc.ob, Option.bind_some] at e3 ⊢
    cases z : f_X6_refuse h 16 p with
    | none => rw [z] at e3; cases e3
    | some x =>
      rw [z, Option.bind_some] at e3
      rw [Option.bind_some, show x.2 = h3 from congrArg Prod.snd (Option.some.inj e3), show x.1 = p from congrArg Prod.fst (Option.some.inj e3)]
  · rw [eY g w qg]; exact mm_refuse qg hi hp2
theorem jg_2 {k : Nat} (j : JJ h D w A) (eX : X = refCC h (-2)) (eY : ∀ g w, MIn g w A → Y g = refMM g (-2)) : JGt h D w A k X Y := jg_ref j (i := 0) (by decide) (by decide) (by decide) eX eY
theorem jg_5 {k : Nat} (j : JJ h D w A) (eX : X = refCC h (-5)) (eY : ∀ g w, MIn g w A → Y g = refMM g (-5)) : JGt h D w A k X Y := jg_ref j (i := 3) (by decide) (by decide) (by decide) eX eY
theorem jg_of {k : Nat} {r : Int32} {h1 : xH} {D1 : DS} {w1 : Nat → Nat} {c s : Nat} (ok : AOk A) (e : X = some ((r, h1), c, s)) (x : JR D w h1 D1 w1 A k c s) (my : ∀ g w, Nz g w → MIn g w A → MGt g w (Y g) r A) : JGt h D w A k X Y := ⟨r, h1, D1, w1, A, c, s, e, x.1.1, x.1.2.1, x.1.2.2.1, x.2.1, x.2.2.1, x.2.2.2, my, ok⟩
end Mk
