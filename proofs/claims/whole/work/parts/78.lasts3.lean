/-! The reference's lastsBy. -/
theorem x_at_app {h : xH} {a : Nat} {e e0 : xE} (g : x_at h a = some e0) : x_at (h ++ [e]) a = some e0 := by
  obtain ⟨h1, h2⟩ := x_at.spec g
  have hl := (List.getElem?_eq_some_iff.mp h2).1
  unfold x_at
  rw [if_neg (by omega), List.getElem?_append_left hl]
  exact h2
theorem x_at_new {h : xH} {e : xE} : x_at (h ++ [e]) (h.length + 16) = some e := by
  unfold x_at
  rw [if_neg (by omega), Nat.add_sub_cancel, List.getElem?_append_right (Nat.le_refl _), Nat.sub_self]
  rfl
theorem Fr.app {F : Nat → Nat → Prop} {P : Nat → Prop} {h : xH} {e : xE} : Fr F P h (h ++ [e]) := by
  refine ⟨fun a ci k v _ g => ?_, fun a e0 _ g => x_at_app g⟩
  obtain ⟨fs, g1, g2⟩ := g_at g
  unfold x_get
  rw [x_at_app g1]
  show (if ci = ci then fs[k]? else none) = _
  rw [if_pos (Eq.refl ci)]; exact g2
def dg (t G C : Nat) (F : Nat → Nat → Nat → Nat) (q : Nat) : Nat := F (q / (C + 1) / (G + 1) / (t + 1)) (q / (C + 1) / (G + 1) % (t + 1)) (q / (C + 1) % (G + 1) + q % (C + 1))
def p4 (t G C i j g c : Nat) : Nat := ((i * (t + 1) + j) * (G + 1) + g) * (C + 1) + c
theorem dg_p4 {t G C i j g c : Nat} {F : Nat → Nat → Nat → Nat} (hj : j ≤ t) (hg : g ≤ G) (hc : c ≤ C) : dg t G C F (p4 t G C i j g c) = F i j (g + c) := by
  unfold dg p4
  have m1 := mr (x := (i * (t + 1) + j) * (G + 1) + g) (c := c) (n := C + 1) (by omega)
  have m2 := mr (x := i * (t + 1) + j) (c := g) (n := G + 1) (by omega)
  have m3 := mr (x := i) (c := j) (n := t + 1) (by omega)
  rw [m1.1, m1.2, m2.1, m2.2, m3.1, m3.2]
theorem p4_lt {o t G C i j g c : Nat} (hi : i ≤ o) (hj : j ≤ t) (hg : g ≤ G) (hc : c ≤ C) : p4 t G C i j g c < (o + 1) * (t + 1) * (G + 1) * (C + 1) := mr_lt (by omega) (mr_lt (by omega) (mr_lt (by omega) (by omega)))
theorem p4_6000 : ∀ s, s < 15 → ∀ t, t < 15 - s → ∀ g, g < 15 - s - t → ∀ c, c < 15 - s - t - g → (20 + s + 1) * (t + 1) * (g + 1) * (c + 1) ≤ 6000 := by decide +kernel
theorem p4_size {more s t g c : Nat} (hm : more ≤ 20) (h : s + t + g + c ≤ 14) : (more + s + 1) * (t + 1) * (g + 1) * (c + 1) ≤ 6000 :=
  Nat.le_trans (Nat.mul_le_mul_right _ (Nat.mul_le_mul_right _ (Nat.mul_le_mul_right _ (by omega)))) (p4_6000 s (by omega) t (by omega) g (by omega) c (by omega))
/-- the reference's rows for LASTS -/
def ML (h : xH) (m a b : Nat) (w : Nat → Nat) (f g : Nat → Int32) : Prop := x_get h m 7 34 = some (.ref a) ∧ x_get h m 7 35 = some (.ref b) ∧ (∀ k, 36 ≤ k → k < 40 → x_get h m 7 k = some (.int (nI (w k)))) ∧ At h a 6000 f ∧ At h b 6000 g ∧ a ≠ b
def FrM (m a b : Nat) (h h' : xH) : Prop := Fr (fun x k => x = m ∧ 34 ≤ k) (fun x => x = a ∨ x = b) h h'
/-- the counts' bounds: law, singles, doubles, great ones, cats -/
def wOk (w : Nat → Nat) : Prop := w 36 ≤ 34 ∧ w 37 ≤ 14 ∧ w 38 ≤ 14 ∧ w 39 ≤ 14 ∧ (w 36 + 1) * (w 37 + 1) * (w 38 + 1) * (w 39 + 1) ≤ 6000
abbrev wN (w : Nat → Nat) : Nat := (w 36 + 1) * (w 37 + 1) * (w 38 + 1) * (w 39 + 1)
theorem mxo {a c : Nat} (ha : a < 2 ^ 31) (hc : c < 2 ^ 31) : (if nI a ≤ nI c then some (nI c) else some (nI a)) = some (nI (max c a)) := by
  by_cases h : a ≤ c
  · rw [if_pos (nI_le h hc), Nat.max_eq_left h]
  · rw [if_neg (nI_ge (by omega) ha), Nat.max_eq_right (by omega)]
section ML
variable {h h' : xH} {m a b n : Nat} {w w' : Nat → Nat} {f g : Nat → Int32} {H : HS}
theorem FrM.trans {h1 h2 : xH} (x : FrM m a b h h1) (y : FrM m a b h1 h2) : FrM m a b h h2 := Fr.trans x y
theorem FrM.rfl : FrM m a b h h := Fr.rfl
theorem FrM.swap (x : FrM m a b h h') : FrM m b a h h' := Fr.mono x (fun _ _ z => z) (fun _ z => z.symm)
theorem ML.gw (q : ML h m a b w f g) {k : Nat} (h1 : 36 ≤ k) (h2 : k < 40) : x_gI h m 7 k = some (nI (w k)) := g_I (q.2.2.1 k h1 h2)
theorem ML.ra (q : ML h m a b w f g) : x_gR h m 7 34 = some a := g_R q.1
theorem ML.rb (q : ML h m a b w f g) : x_gR h m 7 35 = some b := g_R q.2.1
theorem ML.ob (q : ML h m a b w f g) : x_ob h m 7 = some () := g_ob q.1
theorem ML.congr (q : ML h m a b w f g) (hw : ∀ k, 36 ≤ k → k < 40 → w k = w' k) : ML h m a b w' f g := ⟨q.1, q.2.1, fun k h1 h2 => by rw [← hw k h1 h2]; exact q.2.2.1 k h1 h2, q.2.2.2⟩
theorem ML.st (q : ML h m a b w f g) {j : Nat} (hj : j < 6000) (x : Int32) : ∃ h', x_st h a (nI j) x = some h' ∧ ML h' m a b w (upd f j x) g ∧ FrM m a b h h' := by
  obtain ⟨h', e1, g1, f1⟩ := w_st q.2.2.2.1 hj (by decide) x
  exact ⟨h', e1, ⟨f1.1 _ _ _ _ (fun z => z) q.1, f1.1 _ _ _ _ (fun z => z) q.2.1, fun k j1 j7 => f1.1 _ _ _ _ (fun z => z) (q.2.2.1 k j1 j7), g1, f1.2 _ _ (fun z => q.2.2.2.2.2 z.symm) q.2.2.2.2.1, q.2.2.2.2.2⟩, Fr.mono f1 (fun _ _ z => z.elim) (fun _ z => Or.inl z)⟩
theorem ML.put (q : ML h m a b w f g) {k : Nat} (h1 : 36 ≤ k) (h2 : k < 40) (x : Nat) : ∃ h', x_put h m 7 k (.int (nI x)) = some h' ∧ ML h' m a b (uN w k x) f g ∧ FrM m a b h h' := by
  obtain ⟨h', e1, g1, f1⟩ := w_put (q.2.2.1 k h1 h2) (.int (nI x))
  refine ⟨h', e1, ⟨f1.1 _ _ _ _ (fun z => by omega) q.1, f1.1 _ _ _ _ (fun z => by omega) q.2.1, fun j j1 j7 => ?_, f1.2 _ _ (fun z => z) q.2.2.2.1, f1.2 _ _ (fun z => z) q.2.2.2.2.1, q.2.2.2.2.2⟩, Fr.mono f1 (fun _ _ z => ⟨z.1, by omega⟩) (fun _ z => z.elim)⟩
  by_cases z : j = k
  · subst z; rw [g1]; simp [uN]
  · rw [f1.1 _ _ _ _ (fun y => z y.2) (q.2.2.1 j j1 j7)]; simp [uN, z]
theorem ML.swap (q : ML h m a b w f g) : ∃ h1 h2, x_put h m 7 35 (.ref a) = some h1 ∧ x_put h1 m 7 34 (.ref b) = some h2 ∧ ML h2 m b a w g f ∧ FrM m a b h h2 := by
  obtain ⟨h1, e1, g1, f1⟩ := w_put q.2.1 (.ref a)
  obtain ⟨h2, e2, g2, f2⟩ := w_put (f1.1 _ _ _ _ (fun z => by omega) q.1) (.ref b)
  refine ⟨h1, h2, e1, e2, ⟨g2, f2.1 _ _ _ _ (fun z => by omega) g1, fun k k1 k2 => f2.1 _ _ _ _ (fun z => by omega) (f1.1 _ _ _ _ (fun z => by omega) (q.2.2.1 k k1 k2)), f2.2 _ _ (fun z => z) (f1.2 _ _ (fun z => z) q.2.2.2.2.1), f2.2 _ _ (fun z => z) (f1.2 _ _ (fun z => z) q.2.2.2.1), fun z => q.2.2.2.2.2 z.symm⟩, ?_⟩
  exact Fr.trans (Fr.mono f1 (fun _ _ z => ⟨z.1, by omega⟩) (fun _ z => z.elim)) (Fr.mono f2 (fun _ _ z => ⟨z.1, by omega⟩) (fun _ z => z.elim))
theorem ml_placeOf (q : ML h m a b w f g) (i j x c : Nat) : f_X7_placeOf h m (nI i) (nI j) (nI x) (nI c) = some (nI (p4 (w 37) (w 38) (w 39) i j x c)) := by
  unfold f_X7_placeOf p4
  simp only [q.gw (k := 37) (by decide) (by decide), q.gw (k := 38) (by decide) (by decide), q.gw (k := 39) (by decide) (by decide), Option.bind_some, nI_1, pk_mul, nI_add]
theorem ml_ld (q : ML h m a b w f g) (ok : wOk w) {F : Nat → Nat → Nat → Nat} (hg : ∀ z, z < wN w → g z = nI (dg (w 37) (w 38) (w 39) F z)) {i j x c : Nat} (hi : i ≤ w 36) (hj : j ≤ w 37) (hx : x ≤ w 38) (hc : c ≤ w 39) : x_ld h b (nI (p4 (w 37) (w 38) (w 39) i j x c)) = some (nI (F i j (x + c))) := by
  have hl := p4_lt (o := w 36) hi hj hx hc
  rw [q.2.2.2.2.1.ld (Nat.lt_of_lt_of_le hl ok.2.2.2.2) (by decide), hg _ hl, dg_p4 hj hx hc]
theorem ml_beside (q : ML h m a b w f g) (ok : wOk w) {F : Nat → Nat → Nat → Nat} (hF : ∀ a b c, F a b c ≤ 99) (hg : ∀ z, z < wN w → g z = nI (dg (w 37) (w 38) (w 39) F z)) {i j x c s u : Nat} (hi : i ≤ w 36) (hj : j ≤ w 37) (hx : x ≤ w 38) (hc : c ≤ w 39) (hs : s ≤ i) (hu : u ≤ j) : f_X7_opensBeside h m (nI i) (nI j) (nI x) (nI c) (nI s) (nI u) = some (nI (lB (w 36) (w 37) i j (x + c) F (i - s) (j - u))) := by
  obtain ⟨o1, o2, o3, o4, o5⟩ := id ok
  have F1 := hF (i - s + 1) (j - u) (x + c)
  have F2 := hF (i - s) (j - u + 1) (x + c)
  have F3 := hF (i - s) (j - u) (x + c - 1)
  unfold f_X7_opensBeside
  simp only [q.gw (k := 36) (by decide) (by decide), q.gw (k := 37) (by decide) (by decide), q.rb, q.ob, Option.bind_some, pk_sub hs, pk_sub hu, nI_1, ml_placeOf q, show (0 : Int32) = nI 0 from rfl]
  have d1 : nI (w 36) ≤ nI i ↔ ¬ i < w 36 := by rw [nI_leI (by omega) (by omega)]; omega
  have d2 : nI (w 37) ≤ nI j ↔ ¬ j < w 37 := by rw [nI_leI (by omega) (by omega)]; omega
  have d3 : nI x ≤ nI 0 ↔ ¬ 0 < x := by rw [nI_leI (by omega) (by omega)]; omega
  have d4 : nI c ≤ nI 0 ↔ ¬ 0 < c := by rw [nI_leI (by omega) (by omega)]; omega
  rw [opt1 (P := i < w 36) (x := F (i - s + 1) (j - u) (x + c) + 1) d1 ?_, Option.bind_some, opt1 (P := j < w 37) (x := F (i - s) (j - u + 1) (x + c) + 1) d2 ?_, Option.bind_some, opt1 (P := 0 < x) (x := F (i - s) (j - u) (x + c - 1) + 1) d3 ?_, Option.bind_some, opt1 (P := 0 < c) (x := F (i - s) (j - u) (x + c - 1) + 1) d4 ?_]
  · unfold lB
    congr 2
    by_cases e3 : 0 < x <;> by_cases e4 : 0 < c <;> simp only [e3, e4, if_true, if_false, show (0 < x + c) = (0 < x ∨ 0 < c) by simp only [eq_iff_iff]; omega, or_true, true_or, or_self] <;> omega
  · intro e4
    rw [show nI c - 1 = nI (c - 1) from pk_sub (b := 1) e4, ml_placeOf q, Option.bind_some, ml_ld q ok hg (by omega) (by omega) (by omega) (by omega), Option.bind_some, nI_1, show x + (c - 1) = x + c - 1 by omega]
    exact mxo (by omega) (by split <;> split <;> split <;> omega)
  · intro e3
    rw [show nI x - 1 = nI (x - 1) from pk_sub (b := 1) e3, ml_placeOf q, Option.bind_some, ml_ld q ok hg (by omega) (by omega) (by omega) (by omega), Option.bind_some, nI_1, show x - 1 + c = x + c - 1 by omega, mxo (by omega) (by split <;> split <;> omega)]
    rfl
  · intro e2
    rw [ml_ld q ok hg (by omega) (by omega) (by omega) (by omega), Option.bind_some, nI_1, mxo (by omega) (by split <;> omega)]
    rfl
  · intro e1
    rw [ml_ld q ok hg (by omega) (by omega) (by omega) (by omega), Option.bind_some, nI_1, mxo (by omega) (by omega)]
    rfl
theorem ml_valid : ∀ L, L < 5 → 1 ≤ L → ∀ s, s < 35 → ∀ u, u < 15 → (if nI (s + 2 * u) < nI L then some (0 : Int32) else if nI s = 0 then (if nI u = 0 then some (1 : Int32) else if nI L ≤ nI (s + 2 * u) - (2 : Int32) then some (0 : Int32) else some (1 : Int32)) else if nI L ≤ nI (s + 2 * u) - (1 : Int32) then some (0 : Int32) else if nI u = 0 then some (1 : Int32) else if nI L ≤ nI (s + 2 * u) - (2 : Int32) then some (0 : Int32) else some (1 : Int32)) = some (bI (decide (s = L - 2 * u ∧ 2 * u ≤ L + 1))) := by decide +kernel
/-- the loop over how many singles are shut -/
theorem ml_most15 (q : ML h m a b w f g) (ok : wOk w) {F : Nat → Nat → Nat → Nat} (hF : ∀ a b c, F a b c ≤ 99) (hg : ∀ z, z < wN w → g z = nI (dg (w 37) (w 38) (w 39) F z)) {L i j x c u acc : Nat} (h1 : 1 ≤ L) (h4 : L ≤ 4) (hi : i ≤ w 36) (hj : j ≤ w 37) (hx : x ≤ w 38) (hc : c ≤ w 39) (hu : u ≤ j) (ha : acc ≤ 100) (hn : 200 ≤ n) : f_X7_mostOf_L15 h m (nI L) (nI i) (nI j) (nI x) (nI c) (nI u) n (nI acc) 0 = some (nI (max acc (if 2 * u ≤ L + 1 then lT L (w 36) (w 37) F i j (x + c) u else 0))) := by
  obtain ⟨o1, o2, o3, o4, o5⟩ := id ok
  have lb : lT L (w 36) (w 37) F i j (x + c) u ≤ 100 := lT_le hF
  have e := lpE (L := fun k (s : Int32) y => f_X7_mostOf_L15 h m (nI L) (nI i) (nI j) (nI x) (nI c) (nI u) k s (nI y)) (fun y => nI (max acc (if 2 * u ≤ L + 1 ∧ L - 2 * u < y then lT L (w 36) (w 37) F i j (x + c) u else 0))) (D := i + 1) (n := n) (fin := nI (max acc (if 2 * u ≤ L + 1 then lT L (w 36) (w 37) F i j (x + c) u else 0))) (by omega)
    (fun k => by
      show f_X7_mostOf_L15 h m (nI L) (nI i) (nI j) (nI x) (nI c) (nI u) (k + 1) _ (nI (i + 1)) = _
      rw [f_X7_mostOf_L15, if_pos (nI_lt (by omega) (by omega))]
      congr 3
      by_cases e1 : 2 * u ≤ L + 1
      · by_cases e2 : L - 2 * u < i + 1
        · rw [if_pos ⟨e1, e2⟩, if_pos e1]
        · rw [if_neg (fun z => e2 z.2), if_pos e1]
          unfold lT
          rw [if_neg (fun z => by omega)]
      · rw [if_neg (fun z => e1 z.1), if_neg e1])
    (fun k s hs => by
      show f_X7_mostOf_L15 h m (nI L) (nI i) (nI j) (nI x) (nI c) (nI u) (k + 1) _ (nI s) = _
      rw [f_X7_mostOf_L15, if_neg (nI_nlt (by omega) (by omega))]
      simp only [nI_2m, nI_add, Option.bind_some, nI_1]
      rw [ml_valid L (by omega) h1 s (by omega) u (by omega), Option.bind_some]
      by_cases e : s = L - 2 * u ∧ 2 * u ≤ L + 1
      · rw [decide_eq_true e, if_neg (show ¬ bI true = 0 by decide), q.ob, Option.bind_some, ml_beside q ok hF hg hi hj hx hc (by omega) hu, Option.bind_some, Option.bind_some]
        have el : lT L (w 36) (w 37) F i j (x + c) u = lB (w 36) (w 37) i j (x + c) F (i - s) (j - u) := by
          unfold lT
          rw [if_pos ⟨hu, by omega⟩, e.1]
        rw [← el, if_neg (show ¬ (2 * u ≤ L + 1 ∧ L - 2 * u < s) by omega), if_pos (show 2 * u ≤ L + 1 ∧ L - 2 * u < s + 1 by omega), Nat.max_eq_left (Nat.zero_le acc)]
        by_cases e5 : lT L (w 36) (w 37) F i j (x + c) u ≤ acc
        · rw [if_pos (nI_le e5 (by omega)), Nat.max_eq_left e5]
        · rw [if_neg (nI_ge (by omega) (by omega)), Nat.max_eq_right (by omega)]
      · rw [decide_eq_false e, if_pos (show bI false = 0 from rfl), Option.bind_some, if_pos (show (0 : Int32) ≤ nI _ from nI_pos' (by split <;> omega))]
        have : (2 * u ≤ L + 1 ∧ L - 2 * u < s) = (2 * u ≤ L + 1 ∧ L - 2 * u < s + 1) := by simp only [eq_iff_iff]; omega
        simp only [this])
  simp only [show ¬ (2 * u ≤ L + 1 ∧ L - 2 * u < 0) by omega, if_false, Nat.max_eq_left (Nat.zero_le acc)] at e
  exact e
theorem ml_most (q : ML h m a b w f g) (ok : wOk w) {F : Nat → Nat → Nat → Nat} (hF : ∀ a b c, F a b c ≤ 99) (hg : ∀ z, z < wN w → g z = nI (dg (w 37) (w 38) (w 39) F z)) {L i j x c : Nat} (h1 : 1 ≤ L) (h4 : L ≤ 4) (hi : i ≤ w 36) (hj : j ≤ w 37) (hx : x ≤ w 38) (hc : c ≤ w 39) (hn : 200 ≤ n) : f_X7_mostOf n h m (nI L) (nI i) (nI j) (nI x) (nI c) = some (nI (lS L (w 36) (w 37) F i j (x + c))) := by
  obtain ⟨o1, o2, o3, o4, o5⟩ := id ok
  have hb : ∀ y, mxN (fun u => if 2 * u ≤ L + 1 then lT L (w 36) (w 37) F i j (x + c) u else 0) y ≤ 100 := fun y => mxN_le y (fun j _ => by
    show (if _ then _ else _) ≤ 100
    split
    · exact lT_le hF
    · omega)
  have e := lpE (L := fun k (s : Int32) y => f_X7_mostOf_L6 n h m (nI L) (nI i) (nI j) (nI x) (nI c) k s (nI y)) (fun y => nI (mxN (fun u => if 2 * u ≤ L + 1 then lT L (w 36) (w 37) F i j (x + c) u else 0) y)) (D := j + 1) (n := n) (fin := nI (lS L (w 36) (w 37) F i j (x + c))) (by omega)
    (fun k => by
      show f_X7_mostOf_L6 n h m (nI L) (nI i) (nI j) (nI x) (nI c) (k + 1) _ (nI (j + 1)) = _
      rw [f_X7_mostOf_L6, if_pos (nI_lt (by omega) (by omega))]
      congr 2
      unfold lS
      by_cases e1 : j + 1 ≤ (L + 1) / 2 + 1
      · rw [show (L + 1) / 2 + 1 = j + 1 + ((L + 1) / 2 + 1 - (j + 1)) by omega, mxN_tail (j + 1) _ (fun z z1 z2 => by unfold lT; rw [if_neg (fun y => by omega)])]
        exact mxN_congr _ (fun z hz => if_pos (by omega))
      · rw [show j + 1 = (L + 1) / 2 + 1 + (j + 1 - ((L + 1) / 2 + 1)) by omega, mxN_tail ((L + 1) / 2 + 1) _ (fun z z1 z2 => if_neg (by omega))]
        exact mxN_congr _ (fun z hz => if_pos (by omega)))
    (fun k u hu => by
      show f_X7_mostOf_L6 n h m (nI L) (nI i) (nI j) (nI x) (nI c) (k + 1) _ (nI u) = _
      rw [f_X7_mostOf_L6, if_neg (nI_nlt (by omega) (by omega)), ml_most15 q ok hF hg h1 h4 hi hj hx hc (by omega) (hb u) hn]
      simp only [Option.bind_some, nI_1]
      rfl)
  unfold f_X7_mostOf
  rw [show f_X7_mostOf_L6 n h m (nI L) (nI i) (nI j) (nI x) (nI c) n 0 0 = some _ from e]
  rfl
/-- what a turn writes at a place -/
def nv (L : Nat) (w : Nat → Nat) (F : Nat → Nat → Nat → Nat) (fi : Bool) (z : Nat) : Nat := if fi then 0 else dg (w 37) (w 38) (w 39) (lS L (w 36) (w 37) F) z
def TI (L : Nat) (w : Nat → Nat) (F : Nat → Nat → Nat → Nat) (fi : Bool) (m a b : Nat) (g : Nat → Int32) (h0 : xH) (P : Nat) (s : Int32 × xH) : Prop := ∃ f, ML s.2 m a b w f g ∧ (∀ z, z < P → f z = nI (nv L w F fi z)) ∧ s.1 = bI (fi || anB (fun z => decide (nv L w F fi z ≠ dg (w 37) (w 38) (w 39) F z)) P) ∧ FrM m a b h0 s.2
theorem bI_or1 (x : Bool) : bI x ||| 1 = 1 := by cases x <;> decide
theorem nv_le {L : Nat} {F : Nat → Nat → Nat → Nat} {fi : Bool} {z : Nat} (hF : ∀ a b c, F a b c ≤ 99) : nv L w F fi z ≤ 100 := by
  unfold nv
  split
  · omega
  · exact mxN_le _ (fun j _ => lT_le hF)
theorem ml_41 (ok : wOk w) {F : Nat → Nat → Nat → Nat} (hF : ∀ a b c, F a b c ≤ 99) {fi : Bool} (hg : fi = false → ∀ z, z < wN w → g z = nI (dg (w 37) (w 38) (w 39) F z)) {h0 : xH} {L i j x : Nat} (h1 : 1 ≤ L) (h4 : L ≤ 4) (hi : i ≤ w 36) (hj : j ≤ w 37) (hx : x ≤ w 38) (hn : 200 ≤ n) {s : Int32 × xH} (hs : TI L w F fi m a b g h0 (((i * (w 37 + 1) + j) * (w 38 + 1) + x) * (w 39 + 1)) s) : ∃ s', f_X7_turnsOn_L41 n m (nI L) (bI fi) (nI i) (nI j) (nI x) n s.1 0 s.2 = some s' ∧ TI L w F fi m a b g h0 (((i * (w 37 + 1) + j) * (w 38 + 1) + (x + 1)) * (w 39 + 1)) s' := by
  obtain ⟨o1, o2, o3, o4, o5⟩ := id ok
  refine lp0 (L := fun k (s : Int32 × xH) c => f_X7_turnsOn_L41 n m (nI L) (bI fi) (nI i) (nI j) (nI x) k s.1 (nI c) s.2) (I := fun c s => TI L w F fi m a b g h0 (((i * (w 37 + 1) + j) * (w 38 + 1) + x) * (w 39 + 1) + c) s) (R := fun s => TI L w F fi m a b g h0 (((i * (w 37 + 1) + j) * (w 38 + 1) + (x + 1)) * (w 39 + 1)) s) (D := w 39 + 1) (n := n) (s := s) (by omega) hs ?_ ?_
  · intro k s hs
    refine ⟨s, ?_, ?_⟩
    · obtain ⟨f, q, -⟩ := hs
      show f_X7_turnsOn_L41 n m (nI L) (bI fi) (nI i) (nI j) (nI x) (k + 1) s.1 (nI (w 39 + 1)) s.2 = _
      rw [f_X7_turnsOn_L41]
      simp only [q.gw (k := 39) (by decide) (by decide), Option.bind_some]
      rw [if_pos (nI_lt (by omega) (by omega))]
    · have : ((i * (w 37 + 1) + j) * (w 38 + 1) + (x + 1)) * (w 39 + 1) = ((i * (w 37 + 1) + j) * (w 38 + 1) + x) * (w 39 + 1) + (w 39 + 1) := Nat.succ_mul _ _
      rw [this]; exact hs
  · intro k s c hc hs
    right
    obtain ⟨f, q, q1, q2, q3⟩ := hs
    have hl := p4_lt (o := w 36) hi hj hx (show c ≤ w 39 by omega)
    have hl2 := Nat.lt_of_lt_of_le hl o5
    obtain ⟨h2, e2, r2, f2⟩ := q.st hl2 (nI (nv L w F fi (p4 (w 37) (w 38) (w 39) i j x c)))
    have hP : ((i * (w 37 + 1) + j) * (w 38 + 1) + x) * (w 39 + 1) + c = p4 (w 37) (w 38) (w 39) i j x c := rfl
    have up : ∀ z, z < p4 (w 37) (w 38) (w 39) i j x c + 1 → upd f (p4 (w 37) (w 38) (w 39) i j x c) (nI (nv L w F fi (p4 (w 37) (w 38) (w 39) i j x c))) z = nI (nv L w F fi z) := by
      intro z hz
      by_cases e : z = p4 (w 37) (w 38) (w 39) i j x c
      · rw [e]; exact pk_us
      · rw [pk_un e]; exact q1 z (by rw [hP]; omega)
    rw [hP] at q2
    have st0 : f_X7_turnsOn_L41 n m (nI L) (bI fi) (nI i) (nI j) (nI x) (k + 1) s.1 (nI c) s.2 = f_X7_turnsOn_L41 n m (nI L) (bI fi) (nI i) (nI j) (nI x) k (bI (fi || anB (fun z => decide (nv L w F fi z ≠ dg (w 37) (w 38) (w 39) F z)) (p4 (w 37) (w 38) (w 39) i j x c + 1))) (nI (c + 1)) h2 := by
      rw [f_X7_turnsOn_L41]
      simp only [q.gw (k := 39) (by decide) (by decide), q.ob, q.ra, ml_placeOf q, Option.bind_some, nI_1, r2.ra, r2.rb]
      rw [if_neg (nI_nlt (by omega) (by omega))]
      have hv : (if bI fi = 0 then (f_X7_mostOf n s.2 m (nI L) (nI i) (nI j) (nI x) (nI c)).bind fun q10 => some q10 else some 0) = some (nI (nv L w F fi (p4 (w 37) (w 38) (w 39) i j x c))) := by
        cases fi with
        | false =>
          rw [if_pos (show bI false = 0 from rfl), ml_most q ok hF (hg rfl) h1 h4 hi hj hx (by omega) hn, Option.bind_some]
          unfold nv
          rw [if_neg (by decide), dg_p4 hj hx (by omega)]
        | true => rw [if_neg (show ¬ bI true = 0 by decide)]; rfl
      rw [hv, Option.bind_some, e2, Option.bind_some, q2]
      cases fi with
      | true =>
        rw [if_neg (show ¬ bI true = 0 by decide)]
        show f_X7_turnsOn_L41 n m (nI L) (bI true) (nI i) (nI j) (nI x) k (1 ||| 0) (nI (c + 1)) h2 = _
        simp only [Bool.true_or]
        rfl
      | false =>
        rw [if_pos (show bI false = 0 from rfl)]
        have l1 : x_ld h2 a (nI (p4 (w 37) (w 38) (w 39) i j x c)) = some (nI (nv L w F false (p4 (w 37) (w 38) (w 39) i j x c))) := by
          rw [r2.2.2.2.1.ld hl2 (by decide), pk_us]
        have l2 : x_ld h2 b (nI (p4 (w 37) (w 38) (w 39) i j x c)) = some (nI (dg (w 37) (w 38) (w 39) F (p4 (w 37) (w 38) (w 39) i j x c))) := by
          rw [r2.2.2.2.2.1.ld hl2 (by decide), hg rfl _ hl]
        rw [r2.ra, Option.bind_some, l1, Option.bind_some, r2.rb, Option.bind_some, l2, Option.bind_some]
        have b1 := nv_le (L := L) (w := w) (fi := false) (z := p4 (w 37) (w 38) (w 39) i j x c) hF
        have b2 : dg (w 37) (w 38) (w 39) F (p4 (w 37) (w 38) (w 39) i j x c) ≤ 99 := hF _ _ _
        show (if nI _ = nI _ then _ else _) = f_X7_turnsOn_L41 n m (nI L) (bI false) (nI i) (nI j) (nI x) k (bI (false || (anB _ _ || decide (nv L w F false (p4 (w 37) (w 38) (w 39) i j x c) ≠ dg (w 37) (w 38) (w 39) F (p4 (w 37) (w 38) (w 39) i j x c))))) (nI (c + 1)) h2
        by_cases e : nv L w F false (p4 (w 37) (w 38) (w 39) i j x c) = dg (w 37) (w 38) (w 39) F (p4 (w 37) (w 38) (w 39) i j x c)
        · rw [if_pos (by rw [e]), decide_eq_false (fun z => z e), i_or0, Bool.or_false]
        · rw [if_neg (fun z => e ((nI_eq (by omega) (by omega)).mp z)), decide_eq_true e, bI_or1, Bool.or_true, Bool.or_true]
          rfl
    exact ⟨(bI (fi || anB (fun z => decide (nv L w F fi z ≠ dg (w 37) (w 38) (w 39) F z)) (p4 (w 37) (w 38) (w 39) i j x c + 1)), h2), st0, _, r2, up, rfl, q3.trans f2⟩
theorem ml_29 (ok : wOk w) {F : Nat → Nat → Nat → Nat} (hF : ∀ a b c, F a b c ≤ 99) {fi : Bool} (hg : fi = false → ∀ z, z < wN w → g z = nI (dg (w 37) (w 38) (w 39) F z)) {h0 : xH} {L i j : Nat} (h1 : 1 ≤ L) (h4 : L ≤ 4) (hi : i ≤ w 36) (hj : j ≤ w 37) (hn : 200 ≤ n) {s : Int32 × xH} (hs : TI L w F fi m a b g h0 ((i * (w 37 + 1) + j) * (w 38 + 1) * (w 39 + 1)) s) : ∃ s', f_X7_turnsOn_L29 n m (nI L) (bI fi) (nI i) (nI j) n s.1 0 s.2 = some s' ∧ TI L w F fi m a b g h0 ((i * (w 37 + 1) + (j + 1)) * (w 38 + 1) * (w 39 + 1)) s' := by
  obtain ⟨o1, o2, o3, o4, o5⟩ := id ok
  refine lp0 (L := fun k (s : Int32 × xH) x => f_X7_turnsOn_L29 n m (nI L) (bI fi) (nI i) (nI j) k s.1 (nI x) s.2) (I := fun x s => TI L w F fi m a b g h0 (((i * (w 37 + 1) + j) * (w 38 + 1) + x) * (w 39 + 1)) s) (R := fun s => TI L w F fi m a b g h0 ((i * (w 37 + 1) + (j + 1)) * (w 38 + 1) * (w 39 + 1)) s) (D := w 38 + 1) (n := n) (s := s) (by omega) hs ?_ ?_
  · intro k s hs
    refine ⟨s, ?_, ?_⟩
    · obtain ⟨f, q, -⟩ := hs
      show f_X7_turnsOn_L29 n m (nI L) (bI fi) (nI i) (nI j) (k + 1) s.1 (nI (w 38 + 1)) s.2 = _
      rw [f_X7_turnsOn_L29]
      simp only [q.gw (k := 38) (by decide) (by decide), Option.bind_some]
      rw [if_pos (nI_lt (by omega) (by omega))]
    · have : (i * (w 37 + 1) + (j + 1)) * (w 38 + 1) = (i * (w 37 + 1) + j) * (w 38 + 1) + (w 38 + 1) := Nat.succ_mul _ _
      rw [this]; exact hs
  · intro k s x hx hs
    right
    obtain ⟨s', e, r⟩ := ml_41 ok hF hg h1 h4 hi hj (show x ≤ w 38 by omega) hn hs
    obtain ⟨f, q, -⟩ := hs
    refine ⟨s', ?_, r⟩
    show f_X7_turnsOn_L29 n m (nI L) (bI fi) (nI i) (nI j) (k + 1) s.1 (nI x) s.2 = _
    rw [f_X7_turnsOn_L29]
    simp only [q.gw (k := 38) (by decide) (by decide), Option.bind_some, nI_1]
    rw [if_neg (nI_nlt (by omega) (by omega)), e, Option.bind_some]
theorem ml_17 (ok : wOk w) {F : Nat → Nat → Nat → Nat} (hF : ∀ a b c, F a b c ≤ 99) {fi : Bool} (hg : fi = false → ∀ z, z < wN w → g z = nI (dg (w 37) (w 38) (w 39) F z)) {h0 : xH} {L i : Nat} (h1 : 1 ≤ L) (h4 : L ≤ 4) (hi : i ≤ w 36) (hn : 200 ≤ n) {s : Int32 × xH} (hs : TI L w F fi m a b g h0 (i * (w 37 + 1) * (w 38 + 1) * (w 39 + 1)) s) : ∃ s', f_X7_turnsOn_L17 n m (nI L) (bI fi) (nI i) n s.1 0 s.2 = some s' ∧ TI L w F fi m a b g h0 ((i + 1) * (w 37 + 1) * (w 38 + 1) * (w 39 + 1)) s' := by
  obtain ⟨o1, o2, o3, o4, o5⟩ := id ok
  refine lp0 (L := fun k (s : Int32 × xH) x => f_X7_turnsOn_L17 n m (nI L) (bI fi) (nI i) k s.1 (nI x) s.2) (I := fun x s => TI L w F fi m a b g h0 ((i * (w 37 + 1) + x) * (w 38 + 1) * (w 39 + 1)) s) (R := fun s => TI L w F fi m a b g h0 ((i + 1) * (w 37 + 1) * (w 38 + 1) * (w 39 + 1)) s) (D := w 37 + 1) (n := n) (s := s) (by omega) hs ?_ ?_
  · intro k s hs
    refine ⟨s, ?_, ?_⟩
    · obtain ⟨f, q, -⟩ := hs
      show f_X7_turnsOn_L17 n m (nI L) (bI fi) (nI i) (k + 1) s.1 (nI (w 37 + 1)) s.2 = _
      rw [f_X7_turnsOn_L17]
      simp only [q.gw (k := 37) (by decide) (by decide), Option.bind_some]
      rw [if_pos (nI_lt (by omega) (by omega))]
    · have : (i + 1) * (w 37 + 1) = i * (w 37 + 1) + (w 37 + 1) := Nat.succ_mul _ _
      rw [this]; exact hs
  · intro k s x hx hs
    right
    obtain ⟨s', e, r⟩ := ml_29 ok hF hg h1 h4 hi (show x ≤ w 37 by omega) hn hs
    obtain ⟨f, q, -⟩ := hs
    refine ⟨s', ?_, r⟩
    show f_X7_turnsOn_L17 n m (nI L) (bI fi) (nI i) (k + 1) s.1 (nI x) s.2 = _
    rw [f_X7_turnsOn_L17]
    simp only [q.gw (k := 37) (by decide) (by decide), Option.bind_some, nI_1]
    rw [if_neg (nI_nlt (by omega) (by omega)), e, Option.bind_some]
theorem ml_5 (ok : wOk w) {F : Nat → Nat → Nat → Nat} (hF : ∀ a b c, F a b c ≤ 99) {fi : Bool} (hg : fi = false → ∀ z, z < wN w → g z = nI (dg (w 37) (w 38) (w 39) F z)) {h0 : xH} {L : Nat} (h1 : 1 ≤ L) (h4 : L ≤ 4) (hn : 200 ≤ n) {s : Int32 × xH} (hs : TI L w F fi m a b g h0 0 s) : ∃ s', f_X7_turnsOn_L5 n m (nI L) (bI fi) n s.1 0 s.2 = some s' ∧ TI L w F fi m a b g h0 (wN w) s' := by
  obtain ⟨o1, o2, o3, o4, o5⟩ := id ok
  refine lp0 (L := fun k (s : Int32 × xH) x => f_X7_turnsOn_L5 n m (nI L) (bI fi) k s.1 (nI x) s.2) (I := fun x s => TI L w F fi m a b g h0 (x * (w 37 + 1) * (w 38 + 1) * (w 39 + 1)) s) (R := fun s => TI L w F fi m a b g h0 (wN w) s) (D := w 36 + 1) (n := n) (s := s) (by omega) (by rw [Nat.zero_mul, Nat.zero_mul, Nat.zero_mul]; exact hs) ?_ ?_
  · intro k s hs
    refine ⟨s, ?_, hs⟩
    obtain ⟨f, q, -⟩ := hs
    show f_X7_turnsOn_L5 n m (nI L) (bI fi) (k + 1) s.1 (nI (w 36 + 1)) s.2 = _
    rw [f_X7_turnsOn_L5]
    simp only [q.gw (k := 36) (by decide) (by decide), Option.bind_some]
    rw [if_pos (nI_lt (by omega) (by omega))]
  · intro k s x hx hs
    right
    obtain ⟨s', e, r⟩ := ml_17 ok hF hg h1 h4 (show x ≤ w 36 by omega) hn hs
    obtain ⟨f, q, -⟩ := hs
    refine ⟨s', ?_, r⟩
    show f_X7_turnsOn_L5 n m (nI L) (bI fi) (k + 1) s.1 (nI x) s.2 = _
    rw [f_X7_turnsOn_L5]
    simp only [q.gw (k := 36) (by decide) (by decide), Option.bind_some, nI_1]
    rw [if_neg (nI_nlt (by omega) (by omega)), e, Option.bind_some]
theorem ml_turn (q : ML h m a b w f g) (ok : wOk w) {F : Nat → Nat → Nat → Nat} (hF : ∀ a b c, F a b c ≤ 99) {fi : Bool} (hg : fi = false → ∀ z, z < wN w → g z = nI (dg (w 37) (w 38) (w 39) F z)) {L : Nat} (h1 : 1 ≤ L) (h4 : L ≤ 4) (hn : 200 ≤ n) : ∃ h' f', f_X7_turnsOn n h m (nI L) (bI fi) = some (bI (fi || anB (fun z => decide (nv L w F fi z ≠ dg (w 37) (w 38) (w 39) F z)) (wN w)), h') ∧ ML h' m b a w g f' ∧ (∀ z, z < wN w → f' z = nI (nv L w F fi z)) ∧ FrM m a b h h' := by
  obtain ⟨s, e, f', r1, r2, r3, r4⟩ := ml_5 (n := n) (m := m) (a := a) (b := b) (g := g) (h0 := h) (s := (bI fi, h)) ok hF hg h1 h4 hn ⟨f, q, fun z hz => absurd hz (Nat.not_lt_zero _), by cases fi <;> rfl, FrM.rfl⟩
  obtain ⟨ha, hb, e1, e2, r5, r6⟩ := r1.swap
  refine ⟨hb, f', ?_, r5, r2, r4.trans r6⟩
  unfold f_X7_turnsOn
  rw [show f_X7_turnsOn_L5 n m (nI L) (bI fi) n (bI fi) 0 h = some s from e]
  simp only [Option.bind_some, r1.rb, r1.ra, e1, e2, r3, x_bool_bI]
end ML
