/-! The class's searches, step by step. -/
theorem tn_nI8 : ∀ k, k < 8 → (nI k).toBitVec.toNat = k := by decide +kernel
def gOf (A : AS) (p : Nat) (gl : Nat → Nat) (m : Nat) : GP := (zH A, p, gl, m, (hO (zH A)).toBitVec.toNat, (hR (zH A) p).toBitVec.toNat)
theorem gOf_ok {A : AS} {p m : Nat} {gl : Nat → Nat} (ok : AOk A) (h9 : hD (zH A) ≤ 9) (hp : p < hP (zH A)) (hm : m ≤ 4) : GOk (gOf A p gl m) := by
  refine ⟨ok.1, h9, hp, hm, tn_lt (D := hD (zH A)) (by omega) ok.1.2.2.2.2.2.2, ?_⟩
  obtain ⟨k, hk, e⟩ := ok.1.2.2.2.1 p hp
  show (hR (zH A) p).toBitVec.toNat < 8
  rw [e, tn_nI8 k hk]
  exact hk
def JR (D : DS) (w : Nat → Nat) (h' : xH) (D' : DS) (w' : Nat → Nat) (A : AS) (k c s : Nat) : Prop := JJ h' D' w' A ∧ fx D k D' ∧ tC D w + c ≤ tC D' w' ∧ tS D w + s ≤ tS D' w'
theorem JR.trans {D D1 D2 : DS} {w w1 w2 : Nat → Nat} {h1 h2 : xH} {A : AS} {k1 k2 c1 c2 s1 s2 : Nat} (x : JR D w h1 D1 w1 A k1 c1 s1) (y : JR D1 w1 h2 D2 w2 A k2 c2 s2) : JR D w h2 D2 w2 A (k1 + k2) (c1 + c2) (s1 + s2) := by
  obtain ⟨x1, ⟨x2, x3⟩, x4, x5⟩ := x
  obtain ⟨y1, ⟨y2, y3⟩, y4, y5⟩ := y
  exact ⟨y1, ⟨by omega, by rw [Nat.add_mul]; omega⟩, by omega, by omega⟩
section Mk
variable {h h' g g' : xH} {w w' : Nat → Nat} {A : AS} {D : DS} {F : Nat → Nat → Prop} {P : Nat → Prop} {n : Nat} {sb ap as aq sl len st B : Nat} {v fg : Nat → Int32}
theorem sg_forget (sg : SG h sb ap as aq sl len st B v fg) : ∃ h', f_X3_forgetGoals h sb = some h' ∧ SG h' sb ap as aq sl len st B (upd v 1 0) fg ∧ FrX sb ap as aq h h' := by
  obtain ⟨w, fA, fp, fs, fq, p1, p2, p3, s1, s2, s3, sp, l1, l2⟩ := sg
  obtain ⟨h', e, a, f⟩ := s1.put (k := 1) (Or.inl rfl) 0
  have sp' := sp
  unfold sep3 at sp'
  refine ⟨h', ?_, ⟨w, fA, fp, fs, fq, p1.fr f (fun k z => by omega) (fun _ _ _ z => z) (fun z => z), p2, p3, a, by rw [pk_un (by decide)]; exact s2, s3, sp, l1, l2⟩, Fr.mono f (fun _ _ z => Or.inl z) (fun _ z => z.elim)⟩
  unfold f_X3_forgetGoals
  rw [e, Option.bind_some]
theorem sg_add (sg : SG h sb ap as aq sl len st B v fg) {k : Nat} (v1 : v 1 = nI k) (hk : k < 4) (p : Int32) : ∃ h', f_X3_addGoal h sb p = some h' ∧ SG h' sb ap as aq sl len st B (upd v 1 (nI (k + 1))) (upd fg k p) ∧ FrX sb ap as aq h h' := by
  obtain ⟨w, fA, fp, fs, fq, p1, p2, p3, s1, s2, s3, sp, l1, l2⟩ := sg
  have sp' := sp
  unfold sep3 at sp'
  obtain ⟨h1, e1, a1, f1⟩ := w_st s1.2.2.2.2.2.1 (j := k) hk (by decide) p
  have s1' : SAt h1 sb as aq sl v (upd fg k p) fs fq := ⟨f1.1 _ _ _ _ (fun z => z) s1.1, f1.1 _ _ _ _ (fun z => z) s1.2.1, f1.1 _ _ _ _ (fun z => z) s1.2.2.1, f1.1 _ _ _ _ (fun z => z) s1.2.2.2.1, fun k hk => f1.1 _ _ _ _ (fun z => z) (s1.2.2.2.2.1 k hk), a1, f1.2 _ _ (fun z => by omega) s1.2.2.2.2.2.2.1, f1.2 _ _ (fun z => by omega) s1.2.2.2.2.2.2.2⟩
  obtain ⟨h2, e2, a2, f2⟩ := s1'.put (k := 1) (Or.inl rfl) (nI (k + 1))
  have q1 := (p1.fr f1 (fun k z => z) (fun a h1 h2 z => by omega) (fun z => by omega)).fr f2 (fun k z => by omega) (fun _ _ _ z => z) (fun z => z)
  refine ⟨h2, ?_, ⟨w, fA, fp, fs, fq, q1, p2, p3, a2, by rw [pk_un (by decide)]; exact s2, s3, sp, l1, l2⟩, Fr.trans (Fr.mono f1 (fun _ _ z => z.elim) (fun _ z => Or.inl (by omega))) (Fr.mono f2 (fun _ _ z => Or.inl z) (fun _ z => z.elim))⟩
  have g1 : x_gI h sb 3 1 = some (nI k) := by rw [s1.gI (Or.inl rfl), v1]
  have g2 : x_gI h1 sb 3 1 = some (nI k) := by rw [s1'.gI (Or.inl rfl), v1]
  unfold f_X3_addGoal
  rw [g1, Option.bind_some, if_neg (show ¬ (4 : Int32) ≤ nI k from nI_ge (b := 4) hk (by decide)), s1.gl, Option.bind_some, Option.bind_some, e1, Option.bind_some, g2, Option.bind_some, nI_1, e2, Option.bind_some]
/-- the same cells, other goals -/
theorem jr_same (j : JJ h D w A) {v' fg' : Nat → Int32} (f : FrX 35 (dp D) (ds D) (dq D) h h') (sg : SG h' 35 (dp D) (ds D) (dq D) D.2.2.2.1 D.2.2.2.2.1 D.2.2.2.2.2.1 D.2.2.2.2.2.2 v' fg') : JR D w h' D (nrm h w) A 0 0 0 := by
  obtain ⟨x1, x2, x3⟩ := jj_srch j f sg (fun a e ns _ => ⟨fun z => ns (Or.inr (Or.inl z)), fun z => ns (Or.inr (Or.inr (Or.inl z))), fun z => ns (Or.inr (Or.inr (Or.inr z)))⟩)
  exact ⟨x1, ⟨Nat.le_refl _, by omega⟩, by unfold tC; omega, by unfold tS; omega⟩
def lim (D : DS) (k : Nat) : Prop := D.2.2.2.2.2.1 + k < 2 ^ 19 ∧ max D.2.2.2.2.2.2 1 + k * 16384 < 2 ^ 28
theorem j_post {G : GP} {c s : Nat} {X : (Nat → Int32) → Prop} (j : JJ h D w A) (p : SPost h h' G 35 (dp D) (ds D) (dq D) D.2.2.2.1 D.2.2.2.2.1 D.2.2.2.2.2.1 D.2.2.2.2.2.2 17 c s X) : ∃ D', JR D w h' D' (nrm h w) A 1 c s ∧ ∃ v' fg', X v' ∧ SG h' 35 (dp D') (ds D') (dq D') D'.2.2.2.1 D'.2.2.2.2.1 D'.2.2.2.2.2.1 D'.2.2.2.2.2.2 v' fg' := by
  obtain ⟨ap', as', aq', sl', len', B', v', fg', sg, -, hX, hB, -, -, -, -, k1, k2, f, fresh⟩ := p
  obtain ⟨x1, x2, x3⟩ := jj_srch j f sg fresh
  refine ⟨_, ⟨x1, ⟨Nat.le_refl _, ?_⟩, ?_, ?_⟩, v', fg', hX, sg⟩
  · show max B' 1 ≤ max D.2.2.2.2.2.2 1 + 1 * 16384
    omega
  · show P1 D.2.2.2.2.1 + P2 D.2.2.2.1 + mC w + c ≤ P1 len' + P2 sl' + mC (nrm h w)
    omega
  · show P1 D.2.2.2.2.1 + P2 D.2.2.2.1 + mS w + s ≤ P1 len' + P2 sl' + mS (nrm h w)
    omega
def ansC (h : xH) (G : GP) (b : Int32) : Prop := (b = -1 ∧ NoBest G) ∨ ∃ k f, b = nI k ∧ k ≤ 16384 ∧ Best G k f ∧ (0 < k → f_X3_leastFirst h 35 = some (nI f))
theorem j_few {p m : Nat} {gl : Nat → Nat} (j : JJ h D w A) (l : lim D 1) (h9 : hD (zH A) ≤ 9) (hp : p < hP (zH A)) (hm : m ≤ 4) (sg : SG h 35 (dp D) (ds D) (dq D) D.2.2.2.1 D.2.2.2.2.1 D.2.2.2.2.2.1 D.2.2.2.2.2.2 v fg) (v1 : v 1 = nI m) (hg : ∀ j, j < m → fg j = nI (gl j)) (h32 : ∀ j, j < m → gl j < 32) (hn : 20000 ≤ n) : ∃ h' b c s D' w', f_X3_fewestFor n h 35 17 (nI p) = some ((b, h'), c, s) ∧ JR D w h' D' w' A 1 c s ∧ ansC h' (gOf A p gl m) b := by
  obtain ⟨jc, jm, jw, ok⟩ := id j
  have dn := jc.dn
  unfold fixd at dn
  obtain ⟨l1, l2⟩ := l
  have gok := gOf_ok (gl := gl) ok h9 hp hm
  obtain ⟨h', b, c, s, e, r⟩ := x_fewest (n := n) (hb := 17) (G := gOf A p gl m) sg jc.H gok (nI_tn _).symm (nI_tn _).symm v1 hg h32 (by omega) (by omega) (Or.inr (by omega)) (by omega) (by omega) (by omega) hn
  rcases r with ⟨e1, nb, post⟩ | ⟨k, f, e1, hk, bst, post⟩
  · obtain ⟨D', y1, -⟩ := j_post j post
    exact ⟨h', b, c, s, D', _, e, y1, Or.inl ⟨e1, nb⟩⟩
  · obtain ⟨D', y1, v', fg', hX, sg'⟩ := j_post j post
    refine ⟨h', b, c, s, D', _, e, y1, Or.inr ⟨k, f, e1, hk, bst, fun z => ?_⟩⟩
    obtain ⟨ff, z1, z2, z3, z4⟩ := hX z
    rw [x_least sg' z1 z2 z3, z4]
theorem o35 (q : CI h D A) : x_ob h 35 3 = some () := by
  obtain ⟨v, fg, w, fA, fp, fs, fq, p1, -, -, s1, -⟩ := q.2.2.2.2.2.2.1
  exact s1.ob
/-- to one room -/
theorem j_to {p r : Nat} (j : JJ h D w A) (l : lim D 1) (h9 : hD (zH A) ≤ 9) (hp : p < hP (zH A)) (hr : r < 8) (hn : 20000 ≤ n) : ∃ h' b c s D' w', f_X6_fewestTo n h 16 (nI p) (nI r) = some ((b, h'), c, s) ∧ JR D w h' D' w' A 1 c s ∧ ansC h' (gOf A p (fun _ => r) 1) b := by
  obtain ⟨v, fg, sg⟩ := j.1.2.2.2.2.2.2.1
  obtain ⟨h1, e1, sg1, f1⟩ := sg_forget sg
  have j1 := jr_same j f1 sg1
  obtain ⟨h2, e2, sg2, f2⟩ := sg_add sg1 (k := 0) pk_us (by decide) (nI r)
  have j2 := jr_same j1.1 f2 sg2
  obtain ⟨h3, b, c, s, D', w', e3, j3, an⟩ := j_few (n := n) (p := p) (m := 1) (gl := fun _ => r) j2.1 l h9 hp (by decide) sg2 pk_us (fun i hi => by rw [show i = 0 by omega, pk_us]) (fun _ _ => by omega) hn
  refine ⟨h3, b, c, s, D', w', ?_, ?_, an⟩
  · unfold f_X6_fewestTo
    rw [j.1.g6, Option.bind_some, o35 j.1, Option.bind_some, e1, Option.bind_some, j1.1.1.g6, Option.bind_some, o35 j1.1.1, Option.bind_some, e2, Option.bind_some, j2.1.1.g6, Option.bind_some, j2.1.1.g0, Option.bind_some, o35 j2.1.1, Option.bind_some, e3, Option.bind_some, xad, Nat.add_zero, Nat.add_zero]
  · have := (j1.trans j2).trans j3
    simp only [Nat.zero_add] at this
    exact this
theorem j_rooms {p : Nat} (j : JJ h D w A) (l : lim D 1) (h9 : hD (zH A) ≤ 9) (hp : p < hP (zH A)) (hn : 20000 ≤ n) : ∃ h' b c s D' w', f_X3_roomsFor n h 35 17 (nI p) = some ((b, h'), c, s) ∧ JR D w h' D' w' A 1 c s ∧ ∀ k, bt b k = true ↔ ∃ n f t x, R (gOf A p (fun _ => 8) 1) n f t x k := by
  obtain ⟨jc, jm, jw, ok⟩ := id j
  have dn := jc.dn
  unfold fixd at dn
  obtain ⟨l1, l2⟩ := l
  obtain ⟨v, fg, sg⟩ := j.1.2.2.2.2.2.2.1
  have gok := gOf_ok (gl := fun _ => 8) (m := 1) ok h9 hp (by decide)
  obtain ⟨h', b, c, s, e, r, post⟩ := x_rooms (n := n) (hb := 17) (G := gOf A p (fun _ => 8) 1) sg jc.H gok rfl rfl (nI_tn _).symm (nI_tn _).symm (by omega) (by omega) (Or.inr (by omega)) (by omega) (by omega) (by omega) hn
  obtain ⟨D', y1, -⟩ := j_post j post
  exact ⟨h', b, c, s, D', _, e, y1, r⟩
end Mk
