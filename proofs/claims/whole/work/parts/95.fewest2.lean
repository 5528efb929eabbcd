/-! The class's Search: fewestFor, roomsFor, leastFirst. -/
theorem i_dbl (H : HS) (h9 : hD H ≤ 9) : i_shl 1 (nI (hD H)) - 1 = nI (2 ^ hD H - 1) := by
  rw [bit_nI _ (by omega)]
  exact pk_sub (b := 1) Nat.one_le_two_pow
/-- not of the search -/
def nS (sb ap as aq a : Nat) : Prop := ¬ ((sb ≤ a ∧ a < sb + 7) ∨ a = ap ∨ a = as ∨ a = aq)
section FW
variable {h : xH} {G : GP} {sb ap as aq sl len st B n hb : Nat} {v fg : Nat → Int32}
theorem x_prep (sg : SG h sb ap as aq sl len st B v fg) (qh : HAt h hb (gH G)) (ok : GOk G) (v1 : v 1 = nI (gm G)) (hg : ∀ j, j < gm G → fg j = nI (gg G j)) (h32 : ∀ j, j < gm G → gg G j < 32) (hst : st + 1 < 2 ^ 20) (hB : max B 1 < 2 ^ 28) (hx : sb + 7 ≤ hb ∨ hb + 5 ≤ sb) (hxa : ap < hb ∨ hb + 5 ≤ ap) (hxs : as < hb ∨ hb + 5 ≤ as) (hxq : aq < hb ∨ hb + 5 ≤ aq) (hn : 2000 ≤ n) :
    ∃ h1 c1 s1 h2 c2 s2 ap' as' aq' sl' len' B' w' fA', f_X2_lay n h (sb + 2) hb (nI (gp G)) = some (h1, c1, s1) ∧ x_ob h1 sb 3 = some () ∧ f_X3_begin h1 sb = some (h2, c2, s2) ∧ CX G sb ap' as' aq' sl' len' (st + 1) B' w' fA' ∧ SHp h2 G sb ap' as' aq' sl' len' (st + 1) B' w' fA' 0 Q00 ∧ HAt h2 hb (gH G) ∧ (ap' < hb ∨ hb + 5 ≤ ap') ∧ (as' < hb ∨ hb + 5 ≤ as') ∧ (aq' < hb ∨ hb + 5 ≤ aq') ∧ P1 len + P2 sl + (c1 + c2) ≤ P1 len' + P2 sl' ∧ P1 len + P2 sl + (s1 + s2) ≤ P1 len' + P2 sl' ∧ B' ≤ max B 1 ∧ FrX sb ap as aq h h2 ∧ ∀ a e, nS sb ap as aq a → x_at h a = some (.inl e) → a ≠ ap' ∧ a ≠ as' ∧ a ≠ aq' := by
  obtain ⟨w, fA, fp, fs, fq, p, pc, w11, a, v5, hs, sp, hl, hsl⟩ := sg
  obtain ⟨sp1, sp2, sp3, sp4, sp5, sp6⟩ := id sp
  have spP : sepP (sb + 2) ap := by unfold sepP; omega
  obtain ⟨h1, ap', len', w', fA', fp', c1, s1, e1, p1, lay, w11', pc', hle, spP', hxa', qh1, f1, alt⟩ := p_lay (n := n) p qh ok.1 ok.2.1 ok.2.2.1 w11 pc hl spP (by omega) hxa hn
  have a1 : SAt h1 sb as aq sl v fg fs fq := a.fr f1 (fun k z => by omega) (fun z => by omega) (fun z => by omega) (fun z => by omega)
  have pow := pow9 ok
  have fresh1 : ∀ x e, x ≠ ap → x_at h x = some (.inl e) → x ≠ ap' := by
    intro x e hne hx'
    rcases alt with ⟨y, -⟩ | ⟨y, -⟩
    · rw [y]; exact hne
    · exact y x e hx'
  have nsb : ap' ≠ sb := by
    intro z
    obtain ⟨fs', g1, -⟩ := g_at a1.1
    have g2 : x_at h1 ap' = some (.inl (.int, len', .inl fp')) := p1.2.2.2.2
    rw [z, g1] at g2
    cases g2
  have nsb1 : ap' ≠ sb + 1 := fun z => fresh1 (sb + 1) _ (by omega) a.2.2.2.2.2.1 z.symm
  have sp' : sep3 sb ap' as aq := by
    refine ⟨sp1, fresh1 as _ sp2 a.2.2.2.2.2.2.1, fresh1 aq _ sp3 a.2.2.2.2.2.2.2, ?_, sp5, sp6⟩
    unfold sepP at spP'
    omega
  have cost1 : P1 len + c1 ≤ P1 len' ∧ P1 len + s1 ≤ P1 len' ∧ len' < 2 ^ 20 := by
    rcases alt with ⟨-, y, z1, z2⟩ | ⟨-, y, z1, z2, z3⟩
    · rw [y, z1, z2]; exact ⟨Nat.le_refl _, Nat.le_refl _, hl⟩
    · have := P1_gain (l := len) ok.2.1 (by omega)
      rw [← z1] at this
      have pp : 1 ≤ 2 ^ hD (gH G) := Nat.one_le_two_pow
      exact ⟨by omega, by omega, by omega⟩
  obtain ⟨h2, as', aq', sl', B', v', fs', fq', c2, s2, e2, p2, a2, x1, x5, x6, x7, x8, x9, x10, hs', sp2', n2, l2, b2, k2, d2, f2, alt2⟩ := x_begin ok p1 lay.1 a1 v1 v5 hs sp' hsl
  have qh2 : HAt h2 hb (gH G) := qh1.fr f2 (fun k z => by omega) (fun _ _ _ z => z)
  have lth : ∀ y, (∀ x e, x_at h1 x = some (.inl e) → x < y) → hb + 5 ≤ y := by
    intro y hy
    obtain ⟨-, fk, fa, fb, fr, z1, z2, z3, z4, -⟩ := qh1
    have := hy (hb + 4) _ z4
    omega
  refine ⟨h1, c1, s1, h2, c2, s2, ap', as', aq', sl', len', B', w', fA', e1, a1.ob, e2, ⟨ok, lay, w11', hst, hle, cost1.2.2, sp2', n2, l2, by omega, h32⟩, ⟨v', fg, fs', fq', fp', p2, pc', a2, hg, x1, x5, x6, x7, x8, x9, x10, fun i hi => absurd hi (Nat.not_lt_zero _), fun s hs2 => ?_, Nat.zero_le _⟩, qh2, hxa', ?_, ?_, by omega, by omega, b2, ?_, ?_⟩
  · obtain ⟨y, y1, y2⟩ := hs' s hs2
    exact ⟨y, y1, Or.inl y2⟩
  · rcases alt2 with ⟨y, -⟩ | ⟨y, -⟩
    · rw [y]; exact hxs
    · exact Or.inr (lth _ y)
  · rcases alt2 with ⟨-, y⟩ | ⟨-, y⟩
    · rw [y]; exact hxq
    · exact Or.inr (lth _ y)
  · exact Fr.trans (Fr.mono f1 (fun _ _ z => Or.inr z) (fun _ z => Or.inl (by omega))) (Fr.mono f2 (fun _ _ z => Or.inl z) (fun _ z => z.elim))
  · intro x e hx' hxe
    unfold nS at hx'
    have hx1 : x_at h1 x = some (.inl e) := f1.2 x e (fun z => hx' (Or.inl (by omega))) hxe
    refine ⟨fresh1 x e (fun z => hx' (Or.inr (Or.inl z))) hxe, ?_, ?_⟩
    · rcases alt2 with ⟨y, -⟩ | ⟨y, -⟩
      · rw [y]; exact fun z => hx' (Or.inr (Or.inr (Or.inl z)))
      · exact Nat.ne_of_lt (y x e hx1)
    · rcases alt2 with ⟨-, y⟩ | ⟨-, y⟩
      · rw [y]; exact fun z => hx' (Or.inr (Or.inr (Or.inr z)))
      · exact Nat.ne_of_lt (y x e hx1)
/-- what stands behind a search -/
def SPost (h h' : xH) (G : GP) (sb ap as aq sl len st B hb : Nat) (c s : Nat) (X : (Nat → Int32) → Prop) : Prop := ∃ ap' as' aq' sl' len' B' v' fg', SG h' sb ap' as' aq' sl' len' (st + 1) B' v' fg' ∧ v' 1 = nI (gm G) ∧ X v' ∧ B' ≤ max B 1 + 16384 ∧ HAt h' hb (gH G) ∧ (ap' < hb ∨ hb + 5 ≤ ap') ∧ (as' < hb ∨ hb + 5 ≤ as') ∧ (aq' < hb ∨ hb + 5 ≤ aq') ∧ P1 len + P2 sl + c ≤ P1 len' + P2 sl' ∧ P1 len + P2 sl + s ≤ P1 len' + P2 sl' ∧ FrX sb ap as aq h h' ∧ ∀ a e, nS sb ap as aq a → x_at h a = some (.inl e) → a ≠ ap' ∧ a ≠ as' ∧ a ≠ aq'
theorem x_goals {w fA ap' as' aq' sl' len' st' B' E Q} {h2 : xH} {u3 y : Int32} (c : CX G sb ap' as' aq' sl' len' st' B' w fA) (s : SHp h2 G sb ap' as' aq' sl' len' st' B' w fA E Q) (hn : 20 ≤ n) : f_X3_fewestFor_L44 h2 sb hb u3 y n 0 = some (if anB (fun j => !bt y (gg G j)) (gm G) then .inl (-1) else .inr ()) := by
  obtain ⟨ok, lay, w11, hst, hle, hlen, sp, hns, hsl, hB, h32⟩ := c
  obtain ⟨v, fg, fs, fq, fp, s1, s2, s3, s4, s5, -⟩ := s
  have h4 := ok.2.2.2.1
  refine lpAny (L := fun k i => f_X3_fewestFor_L44 h2 sb hb u3 y k (nI i)) (fun j => !bt y (gg G j)) (D := gm G) (n := n) (by omega) (fun k => ?_) (fun k i hi => ?_)
  · show f_X3_fewestFor_L44 h2 sb hb u3 y (k + 1) (nI (gm G)) = _
    rw [f_X3_fewestFor_L44, s3.gI (k := 1) (Or.inl rfl), Option.bind_some, s5, if_pos (nI_le (Nat.le_refl _) (by omega))]
  · show f_X3_fewestFor_L44 h2 sb hb u3 y (k + 1) (nI i) = _
    rw [f_X3_fewestFor_L44, s3.gI (k := 1) (Or.inl rfl), Option.bind_some, s5, if_neg (nI_ge hi (by omega)), s3.gl, Option.bind_some, s3.2.2.2.2.2.1.ld (by omega) (by decide), Option.bind_some, s4 i hi]
    cases e : bt y (gg G i)
    · rw [if_pos ((b_has _ (h32 i hi)).mpr e)]; rfl
    · rw [if_neg (fun z => by rw [(b_has _ (h32 i hi)).mp z] at e; cases e), Option.bind_some, nI_1]; rfl
/-- fewestFor -/
theorem x_fewest (sg : SG h sb ap as aq sl len st B v fg) (qh : HAt h hb (gH G)) (ok : GOk G) (hO0 : hO (gH G) = nI (gx G)) (hR0 : hR (gH G) (gp G) = nI (gr G)) (v1 : v 1 = nI (gm G)) (hg : ∀ j, j < gm G → fg j = nI (gg G j)) (h32 : ∀ j, j < gm G → gg G j < 32) (hst : st + 1 < 2 ^ 20) (hB : max B 1 < 2 ^ 28) (hx : sb + 7 ≤ hb ∨ hb + 5 ≤ sb) (hxa : ap < hb ∨ hb + 5 ≤ ap) (hxs : as < hb ∨ hb + 5 ≤ as) (hxq : aq < hb ∨ hb + 5 ≤ aq) (hn : 20000 ≤ n) :
    ∃ h' b c s, f_X3_fewestFor n h sb hb (nI (gp G)) = some ((b, h'), c, s) ∧ ((b = -1 ∧ NoBest G ∧ SPost h h' G sb ap as aq sl len st B hb c s (fun _ => True)) ∨ ∃ k f, b = nI k ∧ k ≤ 16384 ∧ Best G k f ∧ SPost h h' G sb ap as aq sl len st B hb c s (fun v' => 0 < k → ∃ ff, v' 9 = nI ff ∧ 0 < ff ∧ ff < 512 ∧ f = rep (nI ff))) := by
  obtain ⟨h1, c1, s1, h2, c2, s2, ap', as', aq', sl', len', B', w', fA', e1, ob1, e2, cx, sh, qh2, xa, xs, xq, k1, k2, b2, f2, fresh⟩ := x_prep (n := n) sg qh ok v1 hg h32 hst hB hx hxa hxs hxq (by omega)
  obtain ⟨-, lay, w11, hst', hle, hlen, sp, hns, hsl, hB', -⟩ := id cx
  obtain ⟨sp1, sp2, sp3, sp4, sp5, sp6⟩ := id sp
  obtain ⟨vv, gg', fs, fq, fp, t1, t2, t3, t4, t5, t6, t7, t8, t9, t10, t11, t12, t13, t14⟩ := id sh
  have spP : sepP (sb + 2) ap' := by unfold sepP; omega
  have h9 := ok.2.1
  have pp : 1 ≤ 2 ^ hD (gH G) := Nat.one_le_two_pow
  obtain ⟨h3, fp3, e3, p3, pc3, f3⟩ := p_part (n := n) (x := 2 ^ hD (gH G) - 1) (r := gr G) t1 ok.1 h9 lay.1 w11 hst' lay.2.2.2.2.2.1 t2 hlen hle spP (by omega) ok.2.2.2.2.2 (by omega)
  have a3 : SAt h3 sb as' aq' sl' vv gg' fs fq := t3.fr f3 (fun k z => z) (fun z => by omega) (fun z => sp2 z) (fun z => sp3 z)
  have sh3 : SHp h3 G sb ap' as' aq' sl' len' (st + 1) B' w' fA' 0 Q00 := ⟨vv, gg', fs, fq, fp3, p3, pc3, a3, t4, t5, t6, t7, t8, t9, t10, t11, t12, t13, t14⟩
  have qh3 : HAt h3 hb (gH G) := qh2.fr f3 (fun _ z => z) (fun a _ _ z => by omega)
  have F3 : FrX sb ap' as' aq' h2 h3 := Fr.mono f3 (fun _ _ z => z.elim) (fun _ z => Or.inr (Or.inl z))
  have comp : ∀ h4, FrX sb ap' as' aq' h2 h4 → FrX sb ap as aq h h4 := by
    intro h4 f4
    refine ⟨fun a ci k x hF g => f4.1 a ci k x hF (f2.1 a ci k x hF g), fun a e hP g => ?_⟩
    obtain ⟨n1, n2, n3⟩ := fresh a e hP g
    refine f4.2 a e (fun z => ?_) (f2.2 a e hP g)
    rcases z with z | z | z | z
    · exact hP (Or.inl z)
    · exact n1 z
    · exact n2 z
    · exact n3 z
  have eL44 := x_goals (n := n) (hb := hb) (u3 := nI (gr G)) (y := prt G (2 ^ hD (gH G) - 1) (gr G)) cx sh3 (by omega)
  have start : f_X3_fewestFor n h sb hb (nI (gp G)) = x_add c1 s1 (x_add c2 s2 (match (if anB (fun j => !bt (prt G (2 ^ hD (gH G) - 1) (gr G)) (gg G j)) (gm G) then (Sum.inl (-1) : Sum Int32 Unit) else .inr ()) with
      | .inl r24 => some ((r24, h3), 0, 0)
      | .inr _ => (x_gI h3 hb 0 5).bind fun x26 => (x_ob h3 sb 3).bind fun _ => (f_X3_spread n h3 sb x26 (nI (gr G)) 0).bind fun q28 => some ((q28.1, q28.2), 0, 0))) := by
    have hsg : x_gR h sb 3 2 = some (sb + 2) ∧ x_ob h (sb + 2) 2 = some () := by
      obtain ⟨w, fA, fp, fs, fq, p, pc, w11, a, -⟩ := sg
      exact ⟨a.pl, p.ob⟩
    unfold f_X3_fewestFor
    rw [hsg.1, Option.bind_some, hsg.2, Option.bind_some, e1, Option.bind_some]
    congr 1
    rw [ob1, Option.bind_some, e2, Option.bind_some]
    congr 1
    rw [qh2.rr, Option.bind_some, qh2.ldR ok.1 ok.2.2.1, Option.bind_some, hR0, t3.pl, Option.bind_some, Option.bind_some, t1.gI (k := 6) (by decide) (by decide), Option.bind_some, lay.1, t1.ob, Option.bind_some, i_dbl _ h9, e3, Option.bind_some]
    rw [show f_X3_fewestFor_L44 h3 sb hb (nI (gr G)) (sReach (gH G) (nI (2 ^ hD (gH G) - 1)) (nI (gr G))) n 0 = _ from eL44, Option.bind_some]
    rfl
  rw [start]
  by_cases hany : anB (fun j => !bt (prt G (2 ^ hD (gH G) - 1) (gr G)) (gg G j)) (gm G) = true
  · rw [if_pos hany]
    refine ⟨h3, -1, c1 + (c2 + 0), s1 + (s2 + 0), rfl, Or.inl ⟨rfl, ?_, ap', as', aq', sl', len', B', vv, gg', ⟨w', fA', fp3, fs, fq, p3, pc3.pc0, w11, a3, t6, ?_, sp, hlen, hsl⟩, t5, trivial, by omega, qh3, xa, xs, xq, by omega, by omega, comp h3 F3, fresh⟩⟩
    · intro k f x r hR
      obtain ⟨j, hj, hb'⟩ := (anB_iff _).mp hany
      have := (R_bound ok hR).2 j hj
      have h2' : bt (prt G (2 ^ hD (gH G) - 1) (gr G)) (gg G j) = true := this
      rw [h2'] at hb'
      cases hb'
    · intro s hs
      obtain ⟨a, y1, y2⟩ := t13 s hs
      refine ⟨a, y1, ?_⟩
      rcases y2 with y2 | ⟨i, i1, -⟩
      · exact y2
      · exact absurd i1 (Nat.not_lt_zero _)
  · rw [if_neg hany]
    obtain ⟨h4, Q, k, hd, e4, q4, k4, p4', a4, o4, r4, f4, v4, fg4, fs4, fq4, fp4, u1, u2, u3, u4, u5, u6, u7, u8, u9⟩ := x_spread (n := n) (v3 := 0) cx sh3 hn
    have o4' : qfd Q = true ∨ hd = qT Q := by
      rcases o4 with z | z | z
      · exact Or.inl z
      · exact Or.inr z
      · rcases r4 with y | y
        · exact Or.inl y
        · rw [z, b_0] at y; cases y
    have qh4 : HAt h4 hb (gH G) := qh3.fr f4 (fun _ z => by omega) (fun a _ _ z => by omega)
    have post : ∀ X : (Nat → Int32) → Prop, X v4 → SPost h h4 G sb ap as aq sl len st B hb (c1 + (c2 + 0)) (s1 + (s2 + 0)) X := fun X hX => ⟨ap', as', aq', sl', len', B' + qT Q, v4, fg4, ⟨w', fA', fp4, fs4, fq4, u1, u2.pc0, w11, u3, u5, u9, sp, hlen, hsl⟩, u4, hX, by omega, qh4, xa, xs, xq, by omega, by omega, comp h4 (F3.trans f4), fresh⟩
    have eO : x_gI h3 hb 0 5 = some (nI (gx G)) := by rw [← hO0]; exact qh3.O
    refine ⟨h4, if qfd Q then nI k else -1, c1 + (c2 + 0), s1 + (s2 + 0), ?_, ?_⟩
    · show x_add c1 s1 (x_add c2 s2 ((x_gI h3 hb 0 5).bind fun x26 => (x_ob h3 sb 3).bind fun _ => (f_X3_spread n h3 sb x26 (nI (gr G)) 0).bind fun q28 => some ((q28.1, q28.2), 0, 0))) = _
      rw [eO, Option.bind_some, a3.ob, Option.bind_some, e4, Option.bind_some]
      rfl
    · rcases best_of ok q4 p4' a4 o4' with ⟨z1, z2⟩ | ⟨z1, f, z2, z3⟩
      · left
        rw [z1]
        exact ⟨rfl, z2, post _ trivial⟩
      · right
        rw [z1]
        exact ⟨k, f, rfl, k4, z2, post _ (fun hk => ⟨qff Q, u7, (z3 hk).1, q4.2.2.2.2.1, (z3 hk).2⟩)⟩
/-- roomsFor: the goal is no room -/
theorem x_rooms (sg : SG h sb ap as aq sl len st B v fg) (qh : HAt h hb (gH G)) (ok : GOk G) (hm : gm G = 1) (hg8 : gg G 0 = 8) (hO0 : hO (gH G) = nI (gx G)) (hR0 : hR (gH G) (gp G) = nI (gr G)) (hst : st + 1 < 2 ^ 20) (hB : max B 1 < 2 ^ 28) (hx : sb + 7 ≤ hb ∨ hb + 5 ≤ sb) (hxa : ap < hb ∨ hb + 5 ≤ ap) (hxs : as < hb ∨ hb + 5 ≤ as) (hxq : aq < hb ∨ hb + 5 ≤ aq) (hn : 20000 ≤ n) :
    ∃ h' b c s, f_X3_roomsFor n h sb hb (nI (gp G)) = some ((b, h'), c, s) ∧ (∀ k, bt b k = true ↔ ∃ n f t x, R G n f t x k) ∧ SPost h h' G sb ap as aq sl len st B hb c s (fun _ => True) := by
  -- the goal
  have step : ∃ h0 v0 fg0, (f_X3_forgetGoals h sb).bind (fun q2 => (x_ob q2 sb 3).bind fun _ => f_X3_addGoal q2 sb 8) = some h0 ∧ SG h0 sb ap as aq sl len st B v0 fg0 ∧ v0 1 = nI 1 ∧ fg0 0 = nI 8 ∧ Fr (fun a _ => a = sb) (fun a => a = sb + 1) h h0 := by
    obtain ⟨w, fA, fp, fs, fq, p, pc, w11, a, v5, hs, sp, hl, hsl⟩ := id sg
    obtain ⟨sp1, sp2, sp3, sp4, sp5, sp6⟩ := id sp
    obtain ⟨k1, e1, q1, f1⟩ := a.put (k := 1) (Or.inl rfl) 0
    obtain ⟨a1, a2, a3, a4, a5, a6, a7, a8⟩ := id q1
    obtain ⟨k2, e2, g2, f2⟩ := w_st a6 (show 0 < 4 by decide) (by decide) 8
    have q2 : SAt k2 sb as aq sl (upd v 1 0) (upd fg 0 8) fs fq := ⟨f2.1 _ _ _ _ id a1, f2.1 _ _ _ _ id a2, f2.1 _ _ _ _ id a3, f2.1 _ _ _ _ id a4, fun k hk => f2.1 _ _ _ _ id (a5 k hk), g2, f2.2 _ _ (fun z => by omega) a7, f2.2 _ _ (fun z => by omega) a8⟩
    obtain ⟨k3, e3, q3, f3⟩ := q2.put (k := 1) (Or.inl rfl) 1
    have fr : Fr (fun a _ => a = sb) (fun a => a = sb + 1) h k3 := Fr.trans (Fr.mono f1 (fun _ _ z => z) (fun _ z => z.elim)) (Fr.trans (Fr.mono f2 (fun _ _ z => z.elim) (fun _ z => z)) (Fr.mono f3 (fun _ _ z => z) (fun _ z => z.elim)))
    refine ⟨k3, _, _, ?_, ⟨w, fA, fp, fs, fq, p.fr fr (fun k z => by omega) (fun a _ _ z => by omega) (fun z => by omega), pc, w11, q3, ?_, hs, sp, hl, hsl⟩, pk_us, pk_us, fr⟩
    · unfold f_X3_forgetGoals f_X3_addGoal
      rw [e1, Option.bind_some, Option.bind_some, q1.ob, Option.bind_some, q1.gI (k := 1) (Or.inl rfl), Option.bind_some, pk_us, if_neg (by decide), q1.gl, Option.bind_some, Option.bind_some]
      rw [show x_st k1 (sb + 1) 0 8 = some k2 from e2, Option.bind_some, q2.gI (k := 1) (Or.inl rfl), Option.bind_some, pk_us, show (0 : Int32) + 1 = 1 from rfl, e3]
      rfl
    · rw [pk_un (by decide), pk_un (by decide), v5]
  obtain ⟨h0, v0, fg0, e0, sg0, w1, w8, f0⟩ := step
  have qh0 : HAt h0 hb (gH G) := qh.fr f0 (fun k z => by omega) (fun a _ _ z => by omega)
  have F0 : FrX sb ap as aq h h0 := Fr.mono f0 (fun _ _ z => Or.inl z) (fun _ z => Or.inl (by omega))
  have h32 : ∀ j, j < gm G → gg G j < 32 := fun j hj => by rw [hm] at hj; rw [show j = 0 by omega, hg8]; decide
  obtain ⟨h1, c1, s1, h2, c2, s2, ap', as', aq', sl', len', B', w', fA', e1, ob1, e2, cx, sh, qh2, xa, xs, xq, k1, k2, b2, f2, fresh⟩ := x_prep (n := n) sg0 qh0 ok (by rw [w1, hm]) (fun j hj => by rw [hm] at hj; rw [show j = 0 by omega, hg8]; exact w8) h32 hst hB hx hxa hxs hxq (by omega)
  obtain ⟨-, lay, w11, hst', hle, hlen, sp, hns, hsl, hB', -⟩ := id cx
  obtain ⟨sp1, sp2, sp3, sp4, sp5, sp6⟩ := id sp
  obtain ⟨vv, gg', fs, fq, fp, t1, t2, t3, t4, t5, t6, t7, t8, t9, t10, t11, t12, t13, t14⟩ := id sh
  have spP : sepP (sb + 2) ap' := by unfold sepP; omega
  have h9 := ok.2.1
  have pp : 1 ≤ 2 ^ hD (gH G) := Nat.one_le_two_pow
  obtain ⟨h3, fp3, e3, p3, pc3, f3⟩ := p_part (n := n) (x := 2 ^ hD (gH G) - 1) (r := gr G) t1 ok.1 h9 lay.1 w11 hst' lay.2.2.2.2.2.1 t2 hlen hle spP (by omega) ok.2.2.2.2.2 (by omega)
  have a3 : SAt h3 sb as' aq' sl' vv gg' fs fq := t3.fr f3 (fun k z => z) (fun z => by omega) (fun z => sp2 z) (fun z => sp3 z)
  have sh3 : SHp h3 G sb ap' as' aq' sl' len' (st + 1) B' w' fA' 0 Q00 := ⟨vv, gg', fs, fq, fp3, p3, pc3, a3, t4, t5, t6, t7, t8, t9, t10, t11, t12, t13, t14⟩
  have qh3 : HAt h3 hb (gH G) := qh2.fr f3 (fun _ z => z) (fun a _ _ z => by omega)
  have F3 : FrX sb ap' as' aq' h2 h3 := Fr.mono f3 (fun _ _ z => z.elim) (fun _ z => Or.inr (Or.inl z))
  have fresh' : ∀ a e, nS sb ap as aq a → x_at h a = some (.inl e) → a ≠ ap' ∧ a ≠ as' ∧ a ≠ aq' := fun a e hP g => fresh a e hP (F0.2 a e hP g)
  have comp : ∀ h4, FrX sb ap' as' aq' h2 h4 → FrX sb ap as aq h h4 := by
    intro h4 f4
    refine F0.trans ⟨fun a ci k x hF g => f4.1 a ci k x hF (f2.1 a ci k x hF g), fun a e hP g => ?_⟩
    obtain ⟨n1, n2, n3⟩ := fresh a e hP g
    refine f4.2 a e (fun z => ?_) (f2.2 a e hP g)
    rcases z with z | z | z | z
    · exact hP (Or.inl z)
    · exact n1 z
    · exact n2 z
    · exact n3 z
  obtain ⟨h4, Q, k, hd, e4, q4, k4, p4', a4, o4, r4, f4, v4, fg4, fs4, fq4, fp4, u1, u2, u3, u4, u5, u6, u7, u8, u9⟩ := x_spread (n := n) (v3 := prt G (2 ^ hD (gH G) - 1) (gr G)) cx sh3 hn
  have nofd : qfd Q = false := by
    cases e : qfd Q
    · rfl
    · obtain ⟨-, ⟨f, x, r, hR⟩, -⟩ := q4.2.2.1 e
      rw [hm] at hR
      have := (R_bound ok hR).2 0 (by decide)
      rw [hg8] at this
      have := conn_lt ok.1 ok.2.2.2.2.2 this
      omega
  have qh4 : HAt h4 hb (gH G) := qh3.fr f4 (fun _ z => by omega) (fun a _ _ z => by omega)
  have eO : x_gI h2 hb 0 5 = some (nI (gx G)) := by rw [← hO0]; exact qh2.O
  refine ⟨h4, qrs Q, c1 + (c2 + 0), s1 + (s2 + 0), ?_, fun r => ⟨fun z => q4.2.2.2.2.2.1 r z, ?_⟩, ap', as', aq', sl', len', B' + qT Q, v4, fg4, ⟨w', fA', fp4, fs4, fq4, u1, u2.pc0, w11, u3, u5, u9, sp, hlen, hsl⟩, u4, trivial, by omega, qh4, xa, xs, xq, by omega, by omega, comp h4 (F3.trans f4), fresh'⟩
  · obtain ⟨w, fA, fp, fs, fq, p, pc, -, a, -⟩ := id sg
    obtain ⟨w', fA', fp', fs', fq', p', pc', -, a', -⟩ := id sg0
    unfold f_X3_roomsFor
    rw [a.ob, Option.bind_some]
    have e0' : ∀ (X : xH → Option ((Int32 × xH) × Nat × Nat)), ((f_X3_forgetGoals h sb).bind fun q2 => (x_ob q2 sb 3).bind fun _ => (f_X3_addGoal q2 sb 8).bind fun q4 => X q4) = X h0 := by
      intro X
      have : ((f_X3_forgetGoals h sb).bind fun q2 => (x_ob q2 sb 3).bind fun _ => (f_X3_addGoal q2 sb 8).bind fun q4 => X q4) = ((f_X3_forgetGoals h sb).bind (fun q2 => (x_ob q2 sb 3).bind fun _ => f_X3_addGoal q2 sb 8)).bind X := by
        rw [Option.bind_assoc]
        congr 1
        funext q2
        rw [Option.bind_assoc]
      rw [this, e0, Option.bind_some]
    rw [e0', a'.pl, Option.bind_some, p'.ob, Option.bind_some, e1, Option.bind_some]
    show x_add c1 s1 _ = _
    rw [show some ((qrs Q, h4), c1 + (c2 + 0), s1 + (s2 + 0)) = x_add c1 s1 (x_add c2 s2 (some ((qrs Q, h4), 0, 0))) from rfl]
    congr 1
    rw [ob1, Option.bind_some, e2, Option.bind_some]
    congr 1
    rw [qh2.rr, Option.bind_some, qh2.ldR ok.1 ok.2.2.1, Option.bind_some, hR0, eO, Option.bind_some, t3.pl, Option.bind_some, Option.bind_some, t1.gI (k := 6) (by decide) (by decide), Option.bind_some, lay.1, t1.ob, Option.bind_some, i_dbl _ h9, e3, Option.bind_some, a3.ob, Option.bind_some, e4, Option.bind_some, u3.gI (k := 10) (Or.inr ⟨by decide, by decide⟩), u8]
    rfl
  · rintro ⟨n', f', t', x', hR⟩
    rcases o4 with z | z | z
    · rw [nofd] at z; cases z
    · rcases q_all ok q4 (fun i hi _ => p4' i (by omega)) a4 hR with y | ⟨j, j1, j2, j3, -⟩
      · rw [nofd] at y; cases y.1
      · exact q4.2.2.2.2.2.2 j j1 r (by rw [j2]; exact j3)
    · rw [z]
      exact (R_bound ok hR).1
/-- leastFirst -/
theorem x_least (sg : SG h sb ap as aq sl len st B v fg) {ff : Nat} (e : v 9 = nI ff) (h0 : 0 < ff) (h5 : ff < 512) : f_X3_leastFirst h sb = some (nI (rep (nI ff))) := by
  obtain ⟨w, fA, fp, fs, fq, p, pc, w11, a, -⟩ := sg
  unfold f_X3_leastFirst
  rw [a.gI (k := 9) (Or.inr ⟨by decide, by decide⟩), Option.bind_some, e, if_neg (nI_ne0 h0 (by omega)), Option.bind_some, (rep_spec h5 h0).1]
  rfl
end FW
/-- without goals, or with one that is no room: the same is reached -/
theorem R_nogoal {G G' : GP} (ok : GOk G) (ok' : GOk G') (eH : gH G' = gH G) (ep : gp G' = gp G) (ex : gx G' = gx G) (er : gr G' = gr G) (h0 : gm G = 0) (h1 : gm G' = 1) (h8 : gg G' 0 = 8) {n f t x r : Nat} (hR : R G n f t x r) : t = 0 ∧ R G' n f 0 x r := by
  have a0 : ∀ Q t, t = 0 → adv Q (gm G) t = 0 := fun Q t ht => by rw [ht]; exact adv_same (fun z => by omega) (Nat.zero_le _)
  have a1 : ∀ r, r < 8 → adv (Qr (gg G') r) (gm G') 0 = 0 := fun r hr => adv_same (fun _ => decide_eq_false (by rw [h8]; omega)) (Nat.zero_le _)
  have st := R_start (G := G')
  refine R_ind (P := fun n f t x r => t = 0 ∧ R G' n f 0 x r) ?_ ?_ ?_ hR
  · refine ⟨a0 _ _ rfl, ?_⟩
    rw [a1 _ ok'.2.2.2.2.2, ex, er] at st
    exact st
  · rintro n f t x r r' hR ⟨ht, h⟩ w
    refine ⟨a0 _ _ ht, ?_⟩
    have := R_walk h (by rw [eH]; exact w)
    rw [a1 _ (R_in ok' this).2.2.1] at this
    exact this
  · rintro n f t x r d s hR ⟨ht, h⟩ w
    refine ⟨a0 _ _ ht, ?_⟩
    have w' : opn G' x r d s := by
      obtain ⟨w1, w2, w3, w4, w5, w6⟩ := w
      refine ⟨by rw [eH]; exact w1, by rw [eH]; exact w2, w3, by rw [eH]; exact w4, by rw [eH]; exact w5, ?_⟩
      unfold gS at w6 ⊢
      rw [eH, ep]; exact w6
    have := R_open h w'
    rw [a1 _ (R_in ok' h).2.2.1] at this
    exact this
theorem R_nogoal' {G G' : GP} (ok : GOk G) (ok' : GOk G') (eH : gH G' = gH G) (ep : gp G' = gp G) (ex : gx G' = gx G) (er : gr G' = gr G) (h0 : gm G = 0) (h1 : gm G' = 1) (h8 : gg G' 0 = 8) {n f t x r : Nat} (hR : R G' n f t x r) : t = 0 ∧ R G n f 0 x r := by
  have a0 : ∀ Q, adv Q (gm G) 0 = 0 := fun Q => adv_same (fun z => by omega) (Nat.zero_le _)
  have a1 : ∀ r t, t = 0 → r < 8 → adv (Qr (gg G') r) (gm G') t = 0 := fun r t ht hr => by rw [ht]; exact adv_same (fun _ => decide_eq_false (by rw [h8]; omega)) (Nat.zero_le _)
  have st := R_start (G := G)
  refine R_ind (P := fun n f t x r => t = 0 ∧ R G n f 0 x r) ?_ ?_ ?_ hR
  · refine ⟨a1 _ _ rfl ok'.2.2.2.2.2, ?_⟩
    rw [a0, ← ex, ← er] at st
    exact st
  · rintro n f t x r r' hR ⟨ht, h⟩ w
    refine ⟨a1 _ _ ht (R_in ok' (R_walk hR w)).2.2.1, ?_⟩
    have := R_walk h (by rw [← eH]; exact w)
    rw [a0] at this
    exact this
  · rintro n f t x r d s hR ⟨ht, h⟩ w
    refine ⟨a1 _ _ ht (R_in ok' hR).2.2.1, ?_⟩
    have w' : opn G x r d s := by
      obtain ⟨w1, w2, w3, w4, w5, w6⟩ := w
      refine ⟨by rw [← eH]; exact w1, by rw [← eH]; exact w2, w3, by rw [← eH]; exact w4, by rw [← eH]; exact w5, ?_⟩
      unfold gS at w6 ⊢
      rw [← eH, ← ep]; exact w6
    have := R_open h w'
    rw [a0] at this
    exact this
