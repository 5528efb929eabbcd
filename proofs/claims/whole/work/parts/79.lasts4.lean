/-! The reference's lastsBy: turns until nothing changes; counts; its answer. -/
theorem lS_congr {L o t R : Nat} {F G : Nat → Nat → Nat → Nat} (e : ∀ i j r, i ≤ o → j ≤ t → r ≤ R → F i j r = G i j r) {i j r : Nat} (hi : i ≤ o) (hj : j ≤ t) (hr : r ≤ R) : lS L o t F i j r = lS L o t G i j r := by
  unfold lS
  apply mxN_congr
  intro y _
  unfold lT
  by_cases h0 : y ≤ j ∧ L - 2 * y ≤ i
  · rw [if_pos h0, if_pos h0]
    unfold lB
    by_cases a1 : i < o
    · rw [if_pos a1, if_pos a1, e _ _ _ (show i - (L - 2 * y) + 1 ≤ o by omega) (show j - y ≤ t by omega) hr]
      by_cases a2 : j < t
      · rw [if_pos a2, if_pos a2, e _ _ _ (show i - (L - 2 * y) ≤ o by omega) (show j - y + 1 ≤ t by omega) hr]
        by_cases a3 : 0 < r
        · rw [if_pos a3, if_pos a3, e _ _ _ (show i - (L - 2 * y) ≤ o by omega) (show j - y ≤ t by omega) (show r - 1 ≤ R by omega)]
        · rw [if_neg a3, if_neg a3]
      · rw [if_neg a2, if_neg a2]
        by_cases a3 : 0 < r
        · rw [if_pos a3, if_pos a3, e _ _ _ (show i - (L - 2 * y) ≤ o by omega) (show j - y ≤ t by omega) (show r - 1 ≤ R by omega)]
        · rw [if_neg a3, if_neg a3]
    · rw [if_neg a1, if_neg a1]
      by_cases a2 : j < t
      · rw [if_pos a2, if_pos a2, e _ _ _ (show i - (L - 2 * y) ≤ o by omega) (show j - y + 1 ≤ t by omega) hr]
        by_cases a3 : 0 < r
        · rw [if_pos a3, if_pos a3, e _ _ _ (show i - (L - 2 * y) ≤ o by omega) (show j - y ≤ t by omega) (show r - 1 ≤ R by omega)]
        · rw [if_neg a3, if_neg a3]
      · rw [if_neg a2, if_neg a2]
        by_cases a3 : 0 < r
        · rw [if_pos a3, if_pos a3, e _ _ _ (show i - (L - 2 * y) ≤ o by omega) (show j - y ≤ t by omega) (show r - 1 ≤ R by omega)]
        · rw [if_neg a3, if_neg a3]
  · rw [if_neg h0, if_neg h0]
theorem lV_stab {L o t R k : Nat} (e : ∀ i j r, i ≤ o → j ≤ t → r ≤ R → lV L o t (k + 1) i j r = lV L o t k i j r) : ∀ d i j r, i ≤ o → j ≤ t → r ≤ R → lV L o t (k + d) i j r = lV L o t k i j r
  | 0, _, _, _, _, _, _ => rfl
  | d + 1, i, j, r, hi, hj, hr => by
    show lS L o t (lV L o t (k + d)) i j r = _
    rw [lS_congr (G := lV L o t k) (lV_stab e d) hi hj hr]
    exact e i j r hi hj hr
theorem dg_dom {o t G C : Nat} {F K : Nat → Nat → Nat → Nat} (e : ∀ z, z < (o + 1) * (t + 1) * (G + 1) * (C + 1) → dg t G C F z = dg t G C K z) {i j r : Nat} (hi : i ≤ o) (hj : j ≤ t) (hr : r ≤ G + C) : F i j r = K i j r := by
  have := e _ (p4_lt (o := o) (t := t) (G := G) (C := C) (i := i) (j := j) (g := min r G) (c := r - min r G) hi hj (by omega) (by omega))
  rw [dg_p4 hj (by omega) (by omega), dg_p4 hj (by omega) (by omega), show min r G + (r - min r G) = r by omega] at this
  exact this
theorem dg_cod {o t G C : Nat} {F K : Nat → Nat → Nat → Nat} (e : ∀ i j r, i ≤ o → j ≤ t → r ≤ G + C → F i j r = K i j r) {z : Nat} (hz : z < (o + 1) * (t + 1) * (G + 1) * (C + 1)) : dg t G C F z = dg t G C K z := by
  unfold dg
  apply e
  · have h1 : z / (C + 1) < (o + 1) * (t + 1) * (G + 1) := Nat.div_lt_of_lt_mul (by rw [Nat.mul_comm]; exact hz)
    have h2 : z / (C + 1) / (G + 1) < (o + 1) * (t + 1) := Nat.div_lt_of_lt_mul (by rw [Nat.mul_comm]; exact h1)
    have h3 : z / (C + 1) / (G + 1) / (t + 1) < o + 1 := Nat.div_lt_of_lt_mul (by rw [Nat.mul_comm]; exact h2)
    omega
  · have := Nat.mod_lt (z / (C + 1) / (G + 1)) (show 0 < t + 1 by omega)
    omega
  · have := Nat.mod_lt (z / (C + 1)) (show 0 < G + 1 by omega)
    have := Nat.mod_lt z (show 0 < C + 1 by omega)
    omega
section ML
variable {h h' : xH} {m a b n : Nat} {w w' : Nat → Nat} {f g : Nat → Int32} {H : HS}
/-- either way round -/
def MLe (h : xH) (m a b : Nat) (w : Nat → Nat) (P : (Nat → Int32) → Prop) : Prop := ∃ x y f g, ((x = a ∧ y = b) ∨ (x = b ∧ y = a)) ∧ ML h m x y w f g ∧ P g
theorem ml_243 (ok : wOk w) {L : Nat} {v3 v4 : Int32} (h1 : 1 ≤ L) (h4 : L ≤ 4) (hn : 200 ≤ n) {h0 : xH} {s : xH}
    (hs : MLe s m a b w (fun g => ∀ z, z < wN w → g z = nI (dg (w 37) (w 38) (w 39) (lV L (w 36) (w 37) 0) z)) ∧ FrM m a b h0 s) :
    ∃ s', f_X7_lastsBy_L243 n m (nI L) v3 v4 n 1 1 s = some s' ∧ MLe s' m a b w (fun g => ∀ z, z < wN w → g z = nI (dg (w 37) (w 38) (w 39) (lV L (w 36) (w 37) 99) z)) ∧ FrM m a b h0 s' := by
  have := lp0 (L := fun k (s : Int32 × xH) T => f_X7_lastsBy_L243 n m (nI L) v3 v4 k s.1 (nI (T + 1)) s.2)
    (I := fun T s => ∃ gf : Bool, s.1 = bI gf ∧ (gf = false → ∀ z, z < wN w → dg (w 37) (w 38) (w 39) (lV L (w 36) (w 37) T) z = dg (w 37) (w 38) (w 39) (lV L (w 36) (w 37) 99) z) ∧ MLe s.2 m a b w (fun g => ∀ z, z < wN w → g z = nI (dg (w 37) (w 38) (w 39) (lV L (w 36) (w 37) T) z)) ∧ FrM m a b h0 s.2)
    (R := fun s => MLe s m a b w (fun g => ∀ z, z < wN w → g z = nI (dg (w 37) (w 38) (w 39) (lV L (w 36) (w 37) 99) z)) ∧ FrM m a b h0 s) (D := 99) (n := n) (s := (1, s)) (by omega) ⟨true, rfl, (fun z => by cases z), hs⟩
    (fun k s hs => by
      obtain ⟨gf, -, -, r⟩ := hs
      refine ⟨s.2, ?_, r⟩
      show f_X7_lastsBy_L243 n m (nI L) v3 v4 (k + 1) s.1 (nI (99 + 1)) s.2 = _
      rw [f_X7_lastsBy_L243, if_pos (show (99 : Int32) < nI (99 + 1) by decide)])
    (fun k s T hT hs => by
      obtain ⟨gf, e1, e2, ⟨x, y, f, g, hxy, q, hg⟩, fr⟩ := hs
      have st : f_X7_lastsBy_L243 n m (nI L) v3 v4 (k + 1) s.1 (nI (T + 1)) s.2 = if bI gf = 0 then some s.2 else (x_ob s.2 m 7).bind fun _ => (f_X7_turnsOn n s.2 m (nI L) (0 : Int32)).bind fun q52 => f_X7_lastsBy_L243 n m (nI L) v3 v4 k q52.1 (nI (T + 1 + 1)) q52.2 := by
        rw [f_X7_lastsBy_L243, if_neg (show ¬ (99 : Int32) < nI (T + 1) from nI_nlt (a := 99) (by omega) (by omega)), e1]
        simp only [Option.bind_some, nI_1]
      cases gf with
      | false =>
        left
        refine ⟨s.2, ?_, ⟨x, y, f, g, hxy, q, fun z hz => by rw [hg z hz, e2 rfl z hz]⟩, fr⟩
        show f_X7_lastsBy_L243 n m (nI L) v3 v4 (k + 1) s.1 (nI (T + 1)) s.2 = _
        rw [st, if_pos (show bI false = 0 from rfl)]
      | true =>
        right
        obtain ⟨h2, f2, u1, u2, u3, u4⟩ := ml_turn (n := n) (fi := false) (F := lV L (w 36) (w 37) T) q ok (fun i j r => Nat.le_trans (lV_le _ _ _ T i j r) (by omega)) (fun _ => hg) h1 h4 hn
        have hnv : ∀ z, nv L w (lV L (w 36) (w 37) T) false z = dg (w 37) (w 38) (w 39) (lV L (w 36) (w 37) (T + 1)) z := fun z => rfl
        obtain ⟨fl, hfl⟩ : ∃ fl, fl = (false || anB (fun z => decide (nv L w (lV L (w 36) (w 37) T) false z ≠ dg (w 37) (w 38) (w 39) (lV L (w 36) (w 37) T) z)) (wN w)) := ⟨_, rfl⟩
        rw [← hfl] at u1
        refine ⟨(bI fl, h2), ?_, fl, rfl, ?_, ⟨y, x, g, f2, ?_, u2, ?_⟩, ?_⟩
        · show f_X7_lastsBy_L243 n m (nI L) v3 v4 (k + 1) s.1 (nI (T + 1)) s.2 = _
          rw [st, if_neg (show ¬ bI true = 0 by decide), q.ob, Option.bind_some, show f_X7_turnsOn n s.2 m (nI L) 0 = _ from u1, Option.bind_some]
        · intro hz z hzN
          have e3 : ∀ z, z < wN w → dg (w 37) (w 38) (w 39) (lV L (w 36) (w 37) (T + 1)) z = dg (w 37) (w 38) (w 39) (lV L (w 36) (w 37) T) z := by
            intro z hzl
            apply Classical.byContradiction
            intro hne
            have : anB (fun z => decide (nv L w (lV L (w 36) (w 37) T) false z ≠ dg (w 37) (w 38) (w 39) (lV L (w 36) (w 37) T) z)) (wN w) = true := (anB_iff _).mpr ⟨z, hzl, by rw [hnv]; exact decide_eq_true hne⟩
            rw [hfl, Bool.false_or, this] at hz
            cases hz
          have e4 := lV_stab (L := L) (o := w 36) (t := w 37) (R := w 38 + w 39) (k := T) (fun i j r a1 a2 a3 => dg_dom e3 a1 a2 a3)
          apply dg_cod (o := w 36) _ hzN
          intro i j r a1 a2 a3
          rw [e4 1 i j r a1 a2 a3, show 99 = T + (99 - T) by omega, e4 (99 - T) i j r a1 a2 a3]
        · rcases hxy with ⟨rfl, rfl⟩ | ⟨rfl, rfl⟩
          · exact Or.inr ⟨rfl, rfl⟩
          · exact Or.inl ⟨rfl, rfl⟩
        · intro z hz
          rw [u3 z hz, hnv]
        · rcases hxy with ⟨rfl, rfl⟩ | ⟨rfl, rfl⟩
          · exact fr.trans u4
          · exact fr.trans u4.swap)
  obtain ⟨s', e, r⟩ := this
  exact ⟨s', e, r⟩
def cw (H : HS) (more i : Nat) (k : Nat) : Nat := match k with
  | 36 => more + smB (c1 H) i
  | 37 => smB (c2 H) i
  | 38 => smB (c5 H (hO H)) i
  | _ => smB (c4 H (hO H)) i
theorem k40 {k : Nat} (h1 : 36 ≤ k) (h7 : k < 40) : k = 36 ∨ k = 37 ∨ k = 38 ∨ k = 39 := by omega
theorem MH.frM (q : MH h m H) (fr : FrM m a b h h') (hx : (a < m + 17 ∨ m + 33 ≤ a) ∧ (b < m + 17 ∨ m + 33 ≤ b)) : MH h' m H := q.fr fr (fun k h1 h2 z => by omega) (fun x h1 h2 z => by omega)
theorem t_c1o (K : Int32) (b : Bool) : (if K = 5 then some (0 : Int32) else if K = 4 then some 0 else if K = 2 then some 0 else some (nI (if b then 1 else 0))) = some (nI (if b then (if K = 5 then 0 else if K = 4 then 0 else if K = 2 then 0 else 1) else 0)) := by
  by_cases h5 : K = 5
  · simp only [if_pos h5]; cases b <;> rfl
  · by_cases h4 : K = 4
    · simp only [if_neg h5, if_pos h4]; cases b <;> rfl
    · by_cases h2 : K = 2
      · simp only [if_neg h5, if_neg h4, if_pos h2]; cases b <;> rfl
      · simp only [if_neg h5, if_neg h4, if_neg h2]
theorem t_c2o (K : Int32) (b : Bool) : (if K = 2 then some (nI (if b then 1 else 0)) else some (0 : Int32)) = some (nI (if b then (if K = 2 then 1 else 0) else 0)) := by
  by_cases h2 : K = 2
  · simp only [if_pos h2]
  · simp only [if_neg h2]; cases b <;> rfl
theorem ml_cd1 {i k more : Nat} {v1 : Int32} (q : ML h m a b (cw H more i) f g) (qh : MH h m H) (ok : HOk H) (hi : i < hD H) (hx : (a < m + 17 ∨ m + 33 ≤ a) ∧ (b < m + 17 ∨ m + 33 ≤ b)) : ∃ h', f_X7_lastsBy_L53 m v1 (k + 1) (nI (more + smB (c1o H (hO H)) i)) (nI (smB (c2o H (hO H)) i)) (nI i) h = f_X7_lastsBy_L53 m v1 k (nI (more + smB (c1o H (hO H)) (i + 1))) (nI (smB (c2o H (hO H)) (i + 1))) (nI (i + 1)) h' ∧ ML h' m a b (cw H more (i + 1)) f g ∧ FrM m a b h h' := by
  have h14 := ok.1
  have hb : (i_shr (hO H) (nI i)) &&& 1 = nI (if bt (hO H) i then 1 else 0) := by rw [b_get _ (by omega)]; split <;> rfl
  have h1x : (1 : Int32) - nI (if bt (hO H) i then 1 else 0) = nI (if bt (hO H) i then 0 else 1) := by split <;> decide
  obtain ⟨ha1, e1, q1, f1⟩ := q.put (k := 36) (by decide) (by decide) (cw H more i 36 + c1 H i)
  obtain ⟨ha2, e2, q2, f2⟩ := q1.put (k := 37) (by decide) (by decide) (cw H more i 37 + c2 H i)
  obtain ⟨ha3, e3, q3, f3⟩ := q2.put (k := 38) (by decide) (by decide) (cw H more i 38 + c5 H (hO H) i)
  obtain ⟨ha4, e4, q4, f4⟩ := q3.put (k := 39) (by decide) (by decide) (cw H more i 39 + c4 H (hO H) i)
  have g2 : x_gI ha1 m 7 37 = some (nI (cw H more i 37)) := q1.gw (k := 37) (by decide) (by decide)
  have g3 : x_gI ha2 m 7 38 = some (nI (cw H more i 38)) := q2.gw (k := 38) (by decide) (by decide)
  have g4 : x_gI ha3 m 7 39 = some (nI (cw H more i 39)) := q3.gw (k := 39) (by decide) (by decide)
  refine ⟨ha4, ?_, q4.congr (fun k a1 a7 => ?_), f1.trans (f2.trans (f3.trans f4))⟩
  · rw [f_X7_lastsBy_L53]
    simp only [qh.D, qh.rd, qh.ldQ ok hi, qh.ldK ok hi, qh.O, q.gw (k := 36) (by decide) (by decide), Option.bind_some, hb, nI_1, h1x]
    rw [if_neg (nI_ge hi (by omega))]
    have t1 : (if hK H i = 5 then some (0 : Int32) else if hK H i = 4 then some 0 else if hK H i = 2 then some 0 else some 1) = some (nI (c1 H i)) := by unfold c1; split <;> (try split) <;> (try split) <;> rfl
    have t2 : (if hK H i = 5 then some (0 : Int32) else if hK H i = 4 then some 0 else if hK H i = 2 then some 0 else some (nI (if bt (hO H) i then 1 else 0))) = some (nI (c1o H (hO H) i)) := t_c1o _ _
    have t3 : (if hK H i = 2 then some (1 : Int32) else some 0) = some (nI (c2 H i)) := by unfold c2; split <;> rfl
    have t4 : (if hK H i = 2 then some (nI (if bt (hO H) i then 1 else 0)) else some (0 : Int32)) = some (nI (c2o H (hO H) i)) := t_c2o _ _
    have t5 : (if hK H i = 5 then some (nI (if bt (hO H) i then 0 else 1)) else some (0 : Int32)) = some (nI (c5 H (hO H) i)) := by unfold c5; split <;> rfl
    rw [t1]
    simp only [Option.bind_some, nI_add]
    rw [e1]
    simp only [Option.bind_some]
    rw [t2, t3, t4, t5]
    simp only [Option.bind_some, g2, nI_add]
    rw [e2]
    simp only [Option.bind_some, g3, nI_add]
    rw [e3]
    simp only [Option.bind_some, g4, nI_add]
    by_cases h4 : hK H i = 4
    · rw [if_pos h4]
      have : c4 H (hO H) i = if bt (hO H) i then 0 else 1 := by unfold c4; rw [if_pos h4]
      rw [← this, e4, Option.bind_some, Nat.add_assoc more]
      rfl
    · rw [if_neg h4]
      have : c4 H (hO H) i = 0 := by unfold c4; rw [if_neg h4]
      rw [this] at e4
      rw [show nI (cw H more i 39) + 0 = nI (cw H more i 39 + 0) from nI_add _ 0, e4, Option.bind_some, Nat.add_assoc more]
      rfl
  · rcases k40 a1 a7 with rfl | rfl | rfl | rfl <;> simp [uN, cw, smB] <;> omega
theorem cw_ok {more : Nat} (ok : HOk H) (hm : more ≤ 20) : wOk (cw H more (hD H)) := by
  have h14 := ok.1
  have c := c_sum H (hO H) (hD H)
  refine ⟨?_, ?_, ?_, ?_, ?_⟩
  · show more + smB (c1 H) (hD H) ≤ 34; omega
  · show smB (c2 H) (hD H) ≤ 14; omega
  · show smB (c5 H (hO H)) (hD H) ≤ 14; omega
  · show smB (c4 H (hO H)) (hD H) ≤ 14; omega
  · exact p4_size (s := smB (c1 H) (hD H)) (t := smB (c2 H) (hD H)) (g := smB (c5 H (hO H)) (hD H)) (c := smB (c4 H (hO H)) (hD H)) hm (by omega)
/-- lastsBy, its rows being there -/
theorem ml_core {L more : Nat} (q : ML h m a b w f g) (qh : MH h m H) (ok : HOk H) (h1 : 1 ≤ L) (h4 : L ≤ 4) (hm : more ≤ 20) (hn : 200 ≤ n) (hx : (a < m + 17 ∨ m + 33 ≤ a) ∧ (b < m + 17 ∨ m + 33 ≤ b)) : ∃ h',
    ((x_put h m 7 36 (.int (nI more))).bind fun h9 =>
    (x_put h9 m 7 37 (.int (0 : Int32))).bind fun h10 =>
    (x_put h10 m 7 38 (.int (0 : Int32))).bind fun h11 =>
    (x_put h11 m 7 39 (.int (0 : Int32))).bind fun h12 =>
    (f_X7_lastsBy_L53 m (nI L) n (nI more) (0 : Int32) (0 : Int32) h12).bind fun q48 =>
    (x_ob q48.2.2 m 7).bind fun u49 =>
    (f_X7_turnsOn n q48.2.2 m (nI L) (1 : Int32)).bind fun q50 =>
    (f_X7_lastsBy_L243 n m (nI L) q48.1 q48.2.1 n q50.1 (1 : Int32) q50.2).bind fun q56 =>
    (x_gR q56 m 7 35).bind fun a57 =>
    (x_gI q56 m 7 38).bind fun x58 =>
    (x_gI q56 m 7 39).bind fun x59 =>
    (x_ob q56 m 7).bind fun u60 =>
    (f_X7_placeOf q56 m q48.1 q48.2.1 x58 x59).bind fun q61 =>
    (x_ld q56 a57 q61).bind fun x62 =>
    some (((x62, q56) : Int32 × xH), 0, 0)) = some ((nI (sLasts H (hO H) L more), h'), 0, 0) ∧ MLe h' m a b (cw H more (hD H)) (fun _ => True) ∧ FrM m a b h h' := by
  have h14 := ok.1
  obtain ⟨ha1, e1, q1, f1⟩ := q.put (k := 36) (by decide) (by decide) more
  obtain ⟨ha2, e2, q2, f2⟩ := q1.put (k := 37) (by decide) (by decide) 0
  obtain ⟨ha3, e3, q3, f3⟩ := q2.put (k := 38) (by decide) (by decide) 0
  obtain ⟨ha4, e4, q4, f4⟩ := q3.put (k := 39) (by decide) (by decide) 0
  have fr := f1.trans (f2.trans (f3.trans f4))
  have q5 : ML ha4 m a b (cw H more 0) f g := q4.congr (fun k a1 a7 => by rcases k40 a1 a7 with rfl | rfl | rfl | rfl <;> simp [uN, cw, smB])
  have := lp0 (L := fun k (s : Int32 × Int32 × xH) i => f_X7_lastsBy_L53 m (nI L) k s.1 s.2.1 (nI i) s.2.2) (I := fun i s => s.1 = nI (more + smB (c1o H (hO H)) i) ∧ s.2.1 = nI (smB (c2o H (hO H)) i) ∧ ML s.2.2 m a b (cw H more i) f g ∧ FrM m a b h s.2.2) (R := fun s => s.1 = nI (more + smB (c1o H (hO H)) (hD H)) ∧ s.2.1 = nI (smB (c2o H (hO H)) (hD H)) ∧ ML s.2.2 m a b (cw H more (hD H)) f g ∧ FrM m a b h s.2.2) (D := hD H) (n := n) (s := (nI more, 0, ha4)) (by omega) ⟨rfl, rfl, q5, fr⟩
    (fun k s hs => by
      refine ⟨s, ?_, hs⟩
      show f_X7_lastsBy_L53 m (nI L) (k + 1) s.1 s.2.1 (nI (hD H)) s.2.2 = _
      rw [f_X7_lastsBy_L53]
      simp only [(qh.frM hs.2.2.2 hx).D, Option.bind_some]
      rw [if_pos (nI_le (Nat.le_refl _) (by omega))])
    (fun k s i hi hs => by
      right
      obtain ⟨s1, s2, s3, s4⟩ := hs
      obtain ⟨h2, g1, g2, g3⟩ := ml_cd1 (k := k) (v1 := nI L) s3 (qh.frM s4 hx) ok hi hx
      refine ⟨(_, _, h2), ?_, rfl, rfl, g2, s4.trans g3⟩
      show f_X7_lastsBy_L53 m (nI L) (k + 1) s.1 s.2.1 (nI i) s.2.2 = _
      rw [s1, s2]
      exact g1)
  obtain ⟨s, es, r1, r2, r3, r4⟩ := this
  have wk := cw_ok (more := more) ok hm
  obtain ⟨hb, fb, u1, u2, u3, u4⟩ := ml_turn (n := n) (fi := true) (F := fun _ _ _ => 0) r3 wk (fun _ _ _ => Nat.zero_le _) (fun z => by cases z) h1 h4 hn
  obtain ⟨hc, v1, ⟨x, y, fx, gy, hxy, v2, v3⟩, v4⟩ := ml_243 (n := n) (v3 := s.1) (v4 := s.2.1) wk h1 h4 hn (h0 := h) (s := hb) (m := m) (a := a) (b := b) ⟨⟨b, a, g, fb, Or.inr ⟨rfl, rfl⟩, u2, fun z hz => u3 z hz⟩, r4.trans u4⟩
  refine ⟨hc, ?_, ⟨x, y, fx, gy, hxy, v2, trivial⟩, v4⟩
  rw [e1, Option.bind_some, show (0 : Int32) = nI 0 from rfl, e2, Option.bind_some, e3, Option.bind_some, e4, Option.bind_some, show f_X7_lastsBy_L53 m (nI L) n (nI more) (nI 0) (nI 0) ha4 = some s from es]
  simp only [Option.bind_some, r3.ob, r1, r2]
  rw [show f_X7_turnsOn n s.2.2 m (nI L) 1 = _ from u1]
  simp only [Option.bind_some, Bool.true_or]
  rw [← r1, ← r2, show bI true = 1 from rfl, v1]
  simp only [Option.bind_some, v2.rb, v2.gw (k := 38) (by decide) (by decide), v2.gw (k := 39) (by decide) (by decide), v2.ob, r1, r2, ml_placeOf v2]
  have c1 := c1o_le H (hO H) (hD H)
  have c2 := c2o_le H (hO H) (hD H)
  rw [ml_ld (F := lV L (cw H more (hD H) 36) (cw H more (hD H) 37) 99) v2 wk v3 (Nat.add_le_add_left c1 _) c2 (Nat.le_refl _) (Nat.le_refl _)]
  rfl
end ML
