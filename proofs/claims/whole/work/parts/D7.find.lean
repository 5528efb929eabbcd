/-! The reference's searches. -/
section Mk
variable {h h' g g' : xH} {w w' : Nat → Nat} {A : AS} {D : DS} {F : Nat → Nat → Prop} {P : Nat → Prop} {n : Nat}
theorem Nz.fr (nz : Nz g w) (q : MIn g w A) (f : Fr F P g g') (hF : ∀ a k, 100 ≤ a → ¬ F a k) (hP : ∀ a, 100 ≤ a → ¬ P a) : Nz g' w := fun a z => by
  have b := q.big (i := w a) (by omega) rfl
  exact (nz a z).fr f (fun k => hF a k b) (hP a b)
/-- goals and such -/
theorem MIn.mq (q : MIn g w A) (qq : MIq g' w) (f : Fr (fun a k => a = 64 ∧ 27 ≤ k ∧ k < 34) (fun a => a = 98 ∨ a = 99) g g') : MIn g' w A ∧ FrR w g g' := by
  have ng : ∀ {i x : Nat}, 0 < i → w x = i → 100 ≤ x := fun hi e => q.big hi e
  obtain ⟨q0, q1, q2, q3, q4, q5, q6, q7, q8, q9⟩ := q
  exact ⟨⟨q0.fr f (fun _ _ z => by omega), q1.fr f (fun _ _ _ z => by omega) (fun _ _ _ z => by omega), q2.fr f (fun _ _ _ z => by omega), q3.fr f (fun _ _ z => by omega) ⟨fun z => by omega, fun z => by omega⟩, q4.fr f (fun z => by omega), q5.fr f (fun z => by omega) (fun _ _ e z => by have := ng (by decide) e; omega) (fun _ e z => by have := ng (by decide) e; omega), q6.fr f (fun z => by omega) (fun _ _ e z => by have := ng (by decide) e; omega) (fun _ e z => by have := ng (by decide) e; omega), qq, q8.fr f (fun _ _ _ z => by omega) (fun _ e z => by have := ng (by decide) e; omega), q9⟩, Fr.mono f (fun x _ z => Or.inl (by omega)) (fun x z => Or.inl (by omega))⟩
/-- the search's own tables -/
theorem MIn.sea {af ab em : Nat} {G : GP} {fe : Nat → Int32} {T : AT} {y : Int32} (q : MIn g w A) (sx : SX g' 64 af ab G em fe T) (x33 : x_get g' 64 7 33 = some (.int y)) (qh : MH g' 64 (zH A)) (f : FrS 64 af ab g g') (ne : af ≠ ab) (wa : w af = 3) (wb : w ab = 3) : MIn g' w A ∧ FrR w g g' := by
  have a1 := q.big (by decide) wa
  have b1 := q.big (by decide) wb
  have nc : ∀ {i x : Nat}, w x = i → 0 < i → i ≠ 3 → ¬ (x = af ∨ x = ab ∨ x = 64 + 32 ∨ x = 64 + 34 ∨ x = 64 + 35) := fun e1 hi e2 z => by
    have := q.big hi e1
    rcases z with z | z | z | z | z
    · exact e2 (by rw [← e1, z, wa])
    · exact e2 (by rw [← e1, z, wb])
    · omega
    · omega
    · omega
  have ng : ∀ {i x : Nat}, 0 < i → w x = i → x ≠ 64 := fun hi e z => by have := q.big hi e; omega
  obtain ⟨s1, s2, s3, s4, s5, s6, ⟨fg, s7, -⟩, s8, fF, fB, s9, s10, -⟩ := sx
  obtain ⟨q0, q1, q2, q3, q4, q5, q6, q7, q8, q9⟩ := q
  refine ⟨⟨q0.fr f (fun _ _ z => by omega), qh, q2.fr f (fun _ _ _ z => by omega), q3.fr f (fun _ _ z => by omega) ⟨fun z => by omega, fun z => by omega⟩, q4.fr f (fun z => by omega), q5.fr f (fun z => by omega) (fun _ _ e z => ng (by decide) e z.1) (fun _ e z => nc e (by decide) (by decide) z), q6.fr f (fun z => by omega) (fun _ _ e z => ng (by decide) e z.1) (fun _ e z => nc e (by decide) (by decide) z), ⟨s3, s5, ⟨_, em, y, s4, s6, x33⟩, ⟨fg, fe, s7, s8⟩, Or.inr ⟨af, ab, fF, fB, s1, s2, s9, s10, ne, wa, wb⟩⟩, q8.fr f (fun _ _ _ z => by omega) (fun _ e z => nc e (by decide) (by decide) z), q9⟩, Fr.mono f (fun x _ z => Or.inl (by omega)) (fun x z => ?_)⟩
  rcases z with z | z | z | z | z
  · exact Or.inr (by rw [z, wa]; decide)
  · exact Or.inr (by rw [z, wb]; decide)
  · exact Or.inl (by omega)
  · exact Or.inl (by omega)
  · exact Or.inl (by omega)
theorem m_find {p m : Nat} {gl : Nat → Nat} (q : MIn g w A) (hz : Nz g w ∨ ∃ a, w a = 3) (ok : AOk A) (h9 : hD (zH A) ≤ 9) (hp : p < hP (zH A)) (hm : m ≤ 4) (hl : ∀ j, j < m → gl j < 32) (e30 : x_get g 64 7 30 = some (.int (nI m))) (hg : ∃ fg, At g 98 4 fg ∧ ∀ j, j < m → fg j = nI (gl j)) (hn : 700000 ≤ n) : ∃ g' w' c s af ab em fe T y, f_X7_findComing n g 64 (nI p) = some (g', c, s) ∧ MX g w g' w' A c s ∧ SX g' 64 af ab (gOf A p gl m) em fe T ∧ Fin (gOf A p gl m) T ∧ x_get g' 64 7 33 = some (.int y) ∧ ∃ a, w' a = 3 := by
  have gok := gOf_ok (gl := gl) ok h9 hp hm
  have core : ∀ {g1 : xH} {w1 : Nat → Nat} {af ab : Nat} {fF fB : Nat → Int32}, MIn g1 w1 A → x_get g1 64 7 27 = some (.ref af) → x_get g1 64 7 28 = some (.ref ab) → At g1 af 20480 fF → At g1 ab 20480 fB → af ≠ ab → w1 af = 3 → w1 ab = 3 → x_get g1 64 7 30 = some (.int (nI m)) → (∃ fg, At g1 98 4 fg ∧ ∀ j, j < m → fg j = nI (gl j)) → ∃ g2, ((f_X7_findComing_L40 64 (nI p) (hR (zH A) p) (hO (zH A)) n (0 : Int32) g1).bind fun q19 =>
      (x_put q19 64 7 32 (.int (0 : Int32))).bind fun h20 =>
      (f_X7_findComing_L89 n 64 (nI p) (hR (zH A) p) (hO (zH A)) n (1 : Int32) h20).bind fun q32 =>
      (x_ob q32 64 7).bind fun u33 =>
      (f_X7_stateOf n q32 64 (0 : Int32) (hO (zH A)) (hR (zH A) p)).bind fun q34 =>
      (x_ob q32 64 7).bind fun u35 =>
      (f_X7_comes q32 64 q34 (0 : Int32) (14 : Int32)).bind fun q36 =>
      (x_ob q36.2 64 7).bind fun u37 =>
      (f_X7_walksOn n q36.2 64 (0 : Int32)).bind fun q38 =>
      (f_X7_findComing_L156 n 64 (nI p) (hR (zH A) p) (hO (zH A)) n (0 : Int32) q38).bind fun q45 =>
      (x_gR q45 64 7 13).bind fun a46 =>
      (x_st q45 a46 (nI p) (hR (zH A) p)).bind fun h47 =>
      (x_put h47 64 7 11 (.int (hO (zH A)))).bind fun h48 =>
      some ((h48, 0, 0) : xH × Nat × Nat)) = some (g2, 0, 0) ∧ MIn g2 w1 A ∧ FrR w1 g1 g2 ∧ ∃ em fe T y, SX g2 64 af ab (gOf A p gl m) em fe T ∧ Fin (gOf A p gl m) T ∧ x_get g2 64 7 33 = some (.int y) := fun {g1 w1 af ab fF fB} m1 x27 x28 aF aB ne wa wb x30 xg => by
    have ba := m1.big (by decide) wa
    have bb := m1.big (by decide) wb
    obtain ⟨y29, y31, ⟨x, em, y, -, y32, y33⟩, ⟨fg', fe, -, y7⟩, -⟩ := m1.2.2.2.2.2.2.2.1
    obtain ⟨g2, e, T, em', fe', sx, mh, fin, fr⟩ := sx_find (N := n) (G := gOf A p gl m) (m := 64) ⟨x27, x28, y29, x30, y31, y32, xg, y7, aF, aB⟩ gok ⟨ne, Or.inr (by omega), Or.inr (by omega)⟩ (fun j hj => Nat.lt_trans (hl j hj) (by decide)) m1.H (nI_tn _).symm (nI_tn _).symm hn
    have x33 : x_get g2 64 7 33 = some (.int y) := fr.1 _ _ _ _ (fun z => by omega) y33
    obtain ⟨t1, t2⟩ := m1.sea sx x33 mh fr ne wa wb
    refine ⟨g2, ?_, t1, t2, em', fe', T, y, sx, fin, x33⟩
    rw [show nI (gr (gOf A p gl m)) = hR (zH A) p from nI_tn _, show nI (gx (gOf A p gl m)) = hO (zH A) from nI_tn _] at e
    exact e
  rcases q.2.2.2.2.2.2.2.1.2.2.2.2 with ⟨e27, e28, en⟩ | ⟨af, ab, fF, fB, x27, x28, aF, aB, ne, wa, wb⟩
  · have nz : Nz g w := hz.resolve_right fun ⟨a, z⟩ => en a z
    obtain ⟨h8, h11, p1, p2, g27, g28, a1, a2, lt, f⟩ := mk2 (N := 20480) (show 27 ≠ 28 by decide) e27 e28
    have lo := q.lo
    have f1 : Fr (fun a k => a = 64 ∧ (k = 18 ∨ k = 19 ∨ k = 27 ∨ k = 28 ∨ k = 34 ∨ k = 35)) (fun _ => False) g h11 := Fr.mono f (fun a k z => by omega) (fun _ z => z)
    obtain ⟨b0, b1, b2, b3, b4⟩ := q.b5 f1
    have up : ∀ {i : Nat} (a : Nat), i ≠ 0 → w a = i → col w (g.length + 16) (h8.length + 16 + 1) 3 a = i := fun a hi e => by
      rw [col_up nz (by rw [e]; exact hi)]; exact e
    have ca : col w (g.length + 16) (h8.length + 16 + 1) 3 (g.length + 16) = 3 := col_in (Nat.le_refl _) (by omega)
    have cb : col w (g.length + 16) (h8.length + 16 + 1) 3 (h8.length + 16) = 3 := col_in (by omega) (by omega)
    obtain ⟨y29, y31, ⟨x, em, y, y30, y32, y33⟩, ⟨fg', fe, y6, y7⟩, -⟩ := q.2.2.2.2.2.2.2.1
    have m1 : MIn h11 (col w (g.length + 16) (h8.length + 16 + 1) 3) A := ⟨b0, b1, b2, b3, b4, (q.2.2.2.2.2.1.fr f (fun z => by omega) (fun a k e z => by have := q.big (by decide) e; omega) (fun _ _ z => z)).rc (fun a _ e => up a (by decide) e) (col_ne (by decide)), (q.2.2.2.2.2.2.1.fr f (fun z => by omega) (fun a k e z => by have := q.big (by decide) e; omega) (fun _ _ z => z)).rc (fun a _ e => up a (by decide) e) (col_ne (by decide)), ⟨f.1 _ _ _ _ (fun z => by omega) y29, f.1 _ _ _ _ (fun z => by omega) y31, ⟨x, em, y, f.1 _ _ _ _ (fun z => by omega) y30, f.1 _ _ _ _ (fun z => by omega) y32, f.1 _ _ _ _ (fun z => by omega) y33⟩, ⟨fg', fe, f.2 _ _ (fun z => z) y6, f.2 _ _ (fun z => z) y7⟩, Or.inr ⟨_, _, _, _, g27, g28, a1, a2, Nat.ne_of_lt lt, ca, cb⟩⟩, (q.2.2.2.2.2.2.2.2.1.fr f (fun k h1 h2 z => by omega) (fun _ _ z => z)).rc (fun a _ e => up a (by decide) e) (col_ne (by decide)), fun a ha => col_lo q.col lo ha⟩
    obtain ⟨fg, hg1, hg2⟩ := hg
    obtain ⟨g2, e2, t1, t2, em', fe', T, y', sx, fin, x33⟩ := core m1 g27 g28 a1 a2 (Nat.ne_of_lt lt) ca cb (f.1 _ _ _ _ (fun z => by omega) e30) ⟨fg, f.2 _ _ (fun z => z) hg1, hg2⟩
    refine ⟨g2, _, kC 3, kS 3, _, _, em', fe', T, y', ?_, (MX.mk q nz (by decide) (by decide) en (by omega) m1 f1).st t1 t2, sx, fin, x33, _, ca⟩
    unfold f_X7_findComing
    rw [q.H.rr, Option.bind_some, q.H.ldR ok.1 hp, Option.bind_some, q.H.O, Option.bind_some, g_N e27, Option.bind_some, if_pos rfl, p1, Option.bind_some, p2, Option.bind_some, xad, xad, Option.bind_some]
    dsimp only
    rw [e2, xad]
    rfl
  · obtain ⟨g2, e2, t1, t2, em', fe', T, y', sx, fin, x33⟩ := core q x27 x28 aF aB ne wa wb e30 hg
    refine ⟨g2, w, 0, 0, af, ab, em', fe', T, y', ?_, MX.of t1 t2, sx, fin, x33, af, wa⟩
    unfold f_X7_findComing
    rw [q.H.rr, Option.bind_some, q.H.ldR ok.1 hp, Option.bind_some, q.H.O, Option.bind_some, g_Y x27, Option.bind_some, if_neg (by decide), Option.bind_some]
    dsimp only
    rw [e2, xad]
end Mk
