/-! The class's most; the reference's turns. -/
section LL
variable {h h' : xH} {b e n : Nat} {v v' : Nat → Nat} {fb : Nat → Int32} {H : HS}
theorem lT_le {L o t i j r y : Nat} {F : Nat → Nat → Nat → Nat} (hF : ∀ a b c, F a b c ≤ 99) : lT L o t F i j r y ≤ 100 := by
  unfold lT lB
  have a1 := hF (i - (L - 2 * y) + 1) (j - y) r
  have a2 := hF (i - (L - 2 * y)) (j - y + 1) r
  have a3 := hF (i - (L - 2 * y)) (j - y) (r - 1)
  by_cases h0 : y ≤ j ∧ L - 2 * y ≤ i <;> by_cases h1 : i < o <;> by_cases h2 : j < t <;> by_cases h3 : 0 < r <;> simp only [h0, h1, h2, h3, if_true, if_false, and_self] <;> omega
theorem mxN_zero (f : Nat → Nat) : mxN f 0 = 0 := rfl
theorem mxN_succ (f : Nat → Nat) (i : Nat) : mxN f (i + 1) = max (mxN f i) (f i) := rfl
theorem l_mostFrom (q : LAt h b e v fb) {i j r : Nat} {F : Nat → Nat → Nat → Nat} (hL : v 1 ≤ 4) (h2 : v 2 ≤ 34) (h3 : v 3 ≤ 14) (h4 : v 4 ≤ 14) (hi : i ≤ v 2) (hj : j ≤ v 3) (hr : r ≤ v 4) (sz : (v 3 + 1) * (v 2 + 1) * (v 4 + 1) ≤ 1344) (hF : ∀ a b c, F a b c ≤ 99) (hn : 20 ≤ n)
    (hs : ∀ y, y ≤ j → 2 * y ≤ v 1 + 1 → v 1 - 2 * y ≤ i → (i < v 2 → fb (pl (v 2) (v 4) (i - (v 1 - 2 * y) + 1) (j - y) r) = nI (F (i - (v 1 - 2 * y) + 1) (j - y) r)) ∧ (j < v 3 → fb (pl (v 2) (v 4) (i - (v 1 - 2 * y)) (j - y + 1) r) = nI (F (i - (v 1 - 2 * y)) (j - y + 1) r)) ∧ (0 < r → fb (pl (v 2) (v 4) (i - (v 1 - 2 * y)) (j - y) (r - 1)) = nI (F (i - (v 1 - 2 * y)) (j - y) (r - 1)))) :
    f_X1_mostFrom n h b (nI i) (nI j) (nI r) = some (nI (min 99 (lS (v 1) (v 2) (v 3) F i j r))) := by
  have hb : ∀ y, mxN (lT (v 1) (v 2) (v 3) F i j r) y ≤ 100 := fun y => mxN_le y (fun j _ => lT_le hF)
  have := lp0 (L := fun k (s : Int32) y => f_X1_mostFrom_L6 h b (nI i) (nI j) (nI r) k s (nI y)) (I := fun y s => s = nI (mxN (lT (v 1) (v 2) (v 3) F i j r) y)) (R := fun s => s = nI (mxN (lT (v 1) (v 2) (v 3) F i j r) ((v 1 + 1) / 2 + 1))) (D := (v 1 + 1) / 2 + 1) (n := n) (s := nI 0) (by omega) (congrArg nI (mxN_zero _).symm)
    (fun k s hs0 => by
      refine ⟨s, ?_, hs0⟩
      show f_X1_mostFrom_L6 h b (nI i) (nI j) (nI r) (k + 1) s (nI ((v 1 + 1) / 2 + 1)) = _
      rw [f_X1_mostFrom_L6, q.g (k := 1) (by decide) (by decide), Option.bind_some, if_pos (show nI (v 1) + 1 < 2 * nI ((v 1 + 1) / 2 + 1) by rw [nI_1, nI_2m]; exact nI_lt (by omega) (by omega))])
    (fun k s y hy hs0 => by
      subst hs0
      by_cases hyj : y ≤ j
      · right
        exact ⟨_, l_mf1 q hL h2 h3 h4 hi hj hr sz hyj (by omega) hF (hb y) (fun hc => hs y hyj (by omega) hc), congrArg nI (mxN_succ _ _).symm⟩
      · left
        refine ⟨nI (mxN (lT (v 1) (v 2) (v 3) F i j r) y), ?_, ?_⟩
        · show f_X1_mostFrom_L6 h b (nI i) (nI j) (nI r) (k + 1) _ (nI y) = _
          rw [f_X1_mostFrom_L6, q.g (k := 1) (by decide) (by decide), Option.bind_some, if_neg (show ¬ nI (v 1) + 1 < 2 * nI y by rw [nI_1, nI_2m]; exact nI_nlt (by omega) (by omega)), if_pos (nI_lt (by omega) (by omega))]
        · rw [show (v 1 + 1) / 2 + 1 = y + ((v 1 + 1) / 2 + 1 - y) by omega, mxN_tail y _ (fun z h1 h2 => by unfold lT; rw [if_neg (fun w => by omega)])])
  obtain ⟨s, es, rs⟩ := this
  unfold f_X1_mostFrom
  rw [show f_X1_mostFrom_L6 h b (nI i) (nI j) (nI r) n 0 0 = some s from es, Option.bind_some, rs]
  unfold lS
  have := hb ((v 1 + 1) / 2 + 1)
  rw [show (99 : Int32) = nI 99 from rfl, x_min_nI (by omega) (by omega)]
/-- what is noted: all of less stock, and of this stock those with fewer singles -/
def KnS (v : Nat → Nat) (fb : Nat → Int32) (s w : Nat) : Prop := ∀ i j r, i ≤ v 2 → j ≤ v 3 → r ≤ v 4 → (i + 2 * j < s ∨ (i + 2 * j = s ∧ i < w)) → fb (pl (v 2) (v 4) i j r) = nI (lV (v 1) (v 2) (v 3) 99 i j r)
/-- the bounds of counts -/
def vOk (v : Nat → Nat) : Prop := 1 ≤ v 1 ∧ v 1 ≤ 4 ∧ v 2 ≤ 34 ∧ v 3 ≤ 14 ∧ v 4 ≤ 14 ∧ (v 3 + 1) * (v 2 + 1) * (v 4 + 1) ≤ 1344
theorem l_note (q : LAt h b e v fb) (ok : vOk v) {i j r : Nat} (hi : i ≤ v 2) (hj : j ≤ v 3) (hr : r ≤ v 4) (hn : 20 ≤ n) (kn : KnS v fb (i + 2 * j) i) : ∃ h', f_X1_note n h b (nI i) (nI j) (nI r) = some h' ∧ LAt h' b e v (upd fb (pl (v 2) (v 4) i j r) (nI (lV (v 1) (v 2) (v 3) 99 i j r))) ∧ FrL b e h h' := by
  obtain ⟨o1, o2, o3, o4, o5, sz⟩ := ok
  have hp : pl (v 2) (v 4) i j r < 1344 := Nat.lt_of_lt_of_le (pl_lt (t := v 3) hi hj hr) sz
  unfold f_X1_note
  simp only [q.ob, l_placeOf q, q.r, l_changes q o2 o3 o4 hi hj, Option.bind_some]
  rw [if_neg (nI_pos (by omega)), if_neg (show ¬ (1344 : Int32) ≤ nI _ from nI_ge (b := 1344) hp (by decide))]
  cases hc : cfB (v 1) (v 2) (v 3) i j
  · rw [if_pos (show bI false = 0 from rfl)]
    have ncf : ¬ cfP (v 1) (v 2) (v 3) i j := fun z => by rw [cfB_iff.mpr z] at hc; cases hc
    unfold cfP at ncf
    have e1 := l_mostFrom (n := n) (F := lV (v 1) (v 2) (v 3) 99) q o2 o3 o4 o5 hi hj hr sz (lV_le _ _ _ 99) hn (fun y hy hy2 hx => ⟨fun c => kn _ _ _ (by omega) (by omega) (by omega) (by omega), fun c => kn _ _ _ (by omega) (by omega) (by omega) (by omega), fun c => kn _ _ _ (by omega) (by omega) (by omega) (by omega)⟩)
    rw [← lV_99] at e1
    obtain ⟨h2, e2, q2, f2⟩ := q.st hp (nI (lV (v 1) (v 2) (v 3) 99 i j r))
    refine ⟨h2, ?_, q2, f2⟩
    rw [e1, Option.bind_some, e2]
    rfl
  · rw [if_neg (show ¬ bI true = 0 by decide)]
    obtain ⟨h2, e2, q2, f2⟩ := q.st hp (nI (lV (v 1) (v 2) (v 3) 99 i j r))
    have e9 : lV (v 1) (v 2) (v 3) 99 i j r = 99 := Nat.le_antisymm (lV_le _ _ _ _ _ _ _) (lV_cf _ _ _ _ 99 i j hi hj (cfB_iff.mp hc))
    refine ⟨h2, ?_, q2, f2⟩
    rw [e9] at e2
    rw [show (99 : Int32) = nI 99 from rfl, e2]
    rfl
theorem l_88 (q : LAt h b e v fb) (ok : vOk v) {i j : Nat} {v5 v6 : Int32} (hi : i ≤ v 2) (hj : j ≤ v 3) (hn : 20 ≤ n) (kn : KnS v fb (i + 2 * j) i) : ∃ h' fb', f_X1_most_L88 n b v5 v6 (nI i) (nI j) n 0 h = some h' ∧ LAt h' b e v fb' ∧ KnS v fb' (i + 2 * j) (i + 1) ∧ FrL b e h h' := by
  obtain ⟨o1, o2, o3, o4, o5, sz⟩ := id ok
  have := lp0 (L := fun k (s : xH) r => f_X1_most_L88 n b v5 v6 (nI i) (nI j) k (nI r) s)
    (I := fun r s => ∃ fc, LAt s b e v fc ∧ KnS v fc (i + 2 * j) i ∧ (∀ r', r' < r → r' ≤ v 4 → fc (pl (v 2) (v 4) i j r') = nI (lV (v 1) (v 2) (v 3) 99 i j r')) ∧ FrL b e h s)
    (R := fun s => ∃ fc, LAt s b e v fc ∧ KnS v fc (i + 2 * j) (i + 1) ∧ FrL b e h s) (D := v 4 + 1) (n := n) (s := h) (by omega) ⟨fb, q, kn, fun r' hr' => absurd hr' (Nat.not_lt_zero _), FrL.rfl⟩
    (fun k s hs => by
      obtain ⟨fc, g1, g2, g3, g4⟩ := hs
      refine ⟨s, ?_, fc, g1, ?_, g4⟩
      · show f_X1_most_L88 n b v5 v6 (nI i) (nI j) (k + 1) (nI (v 4 + 1)) s = _
        rw [f_X1_most_L88]
        simp only [g1.g (k := 4) (by decide) (by decide), Option.bind_some]
        rw [if_pos (nI_lt (by omega) (by omega))]
      · intro a c r ha hc hr hx
        by_cases hz : a = i ∧ c = j
        · obtain ⟨rfl, rfl⟩ := hz
          exact g3 r (by omega) hr
        · exact g2 a c r ha hc hr (by omega))
    (fun k s r hr hs => by
      right
      obtain ⟨fc, g1, g2, g3, g4⟩ := hs
      obtain ⟨h2, e2, q2, f2⟩ := l_note (n := n) g1 ok hi hj (r := r) (by omega) hn g2
      refine ⟨h2, ?_, _, q2, ?_, ?_, g4.trans f2⟩
      · show f_X1_most_L88 n b v5 v6 (nI i) (nI j) (k + 1) (nI r) s = _
        rw [f_X1_most_L88]
        simp only [g1.g (k := 4) (by decide) (by decide), g1.g (k := 3) (by decide) (by decide), g1.ob, Option.bind_some, nI_1]
        rw [if_neg (nI_nlt (by omega) (by omega)), if_neg (nI_nlt (by omega) (by omega)), e2]
        rfl
      · intro a c r' ha hc hr' hx
        rw [pk_un (fun z => by have := pl_inj ha hr' hi (by omega) z; omega)]
        exact g2 a c r' ha hc hr' hx
      · intro r' hr' hr2
        by_cases hz : r' = r
        · subst hz; exact pk_us
        · rw [pk_un (fun z => by have := pl_inj hi hr2 hi (by omega) z; omega)]
          exact g3 r' (by omega) hr2)
  obtain ⟨s, es, fc, r1, r2, r3⟩ := this
  exact ⟨s, fc, es, r1, r2, r3⟩
theorem i_and1 {s : Nat} (h : s < 2 ^ 31) : nI s &&& 1 = nI (s % 2) := pk_andN (m := 1) (by omega) 1 rfl
theorem l_60 (q : LAt h b e v fb) (ok : vOk v) {s : Nat} {v5 : Int32} (hs : s ≤ 100) (hn : 200 ≤ n) (kn : KnS v fb s 0) : ∃ h' fb', f_X1_most_L60 n b v5 (nI s) n (nI s &&& 1) h = some h' ∧ LAt h' b e v fb' ∧ KnS v fb' (s + 1) 0 ∧ FrL b e h h' := by
  obtain ⟨o1, o2, o3, o4, o5, sz⟩ := id ok
  have := lp0 (L := fun k (g : xH) u => f_X1_most_L60 n b v5 (nI s) k (nI (s % 2 + 2 * u)) g)
    (I := fun u g => ∃ fc, LAt g b e v fc ∧ KnS v fc s (s % 2 + 2 * u) ∧ FrL b e h g)
    (R := fun g => ∃ fc, LAt g b e v fc ∧ KnS v fc (s + 1) 0 ∧ FrL b e h g) (D := s / 2 + 1) (n := n) (s := h) (by omega) ⟨fb, q, fun a c r ha hc hr hx => kn a c r ha hc hr (by omega), FrL.rfl⟩
    (fun k g hg => by
      obtain ⟨fc, g1, g2, g4⟩ := hg
      refine ⟨g, ?_, fc, g1, fun a c r ha hc hr hx => g2 a c r ha hc hr (by omega), g4⟩
      show f_X1_most_L60 n b v5 (nI s) (k + 1) (nI (s % 2 + 2 * (s / 2 + 1))) g = _
      rw [f_X1_most_L60, if_pos (nI_lt (by omega) (by omega))])
    (fun k g u hu hg => by
      obtain ⟨fc, g1, g2, g4⟩ := hg
      have e0 : f_X1_most_L60 n b v5 (nI s) (k + 1) (nI (s % 2 + 2 * u)) g = if nI (v 2) < nI (s % 2 + 2 * u) then some g else (f_X1_most_L88 n b v5 (nI s) (nI (s % 2 + 2 * u)) (nI ((s - (s % 2 + 2 * u)) / 2)) n 0 g).bind fun q21 => f_X1_most_L60 n b v5 (nI s) k (nI (s % 2 + 2 * (u + 1))) q21 := by
        rw [f_X1_most_L60, if_neg (nI_nlt (by omega) (by omega))]
        simp only [g1.g (k := 2) (by decide) (by decide), Option.bind_some]
        rw [pk_sub (by omega), show x_idiv (nI (s - (s % 2 + 2 * u))) 2 = some (nI ((s - (s % 2 + 2 * u)) / 2)) by
          unfold x_idiv
          rw [if_neg (by decide), show (2 : Int32) = nI 2 from rfl, pk_div (by omega) (by decide) (by decide)], Option.bind_some, show nI (s % 2 + 2 * u) + 2 = nI (s % 2 + 2 * (u + 1)) from nI_add _ 2]
      by_cases ho : v 2 < s % 2 + 2 * u
      · left
        refine ⟨g, ?_, fc, g1, fun a c r ha hc hr hx => g2 a c r ha hc hr (by omega), g4⟩
        show f_X1_most_L60 n b v5 (nI s) (k + 1) (nI (s % 2 + 2 * u)) g = _
        rw [e0, if_pos (nI_lt ho (by omega))]
      · right
        rw [if_neg (nI_nlt (by omega) (by omega))] at e0
        by_cases ht : (s - (s % 2 + 2 * u)) / 2 ≤ v 3
        · obtain ⟨h2, fd, e2, q2, k2, f2⟩ := l_88 (n := n) (v5 := v5) (v6 := nI s) g1 ok (i := s % 2 + 2 * u) (j := (s - (s % 2 + 2 * u)) / 2) (by omega) ht (by omega) (by rw [show s % 2 + 2 * u + 2 * ((s - (s % 2 + 2 * u)) / 2) = s by omega]; exact g2)
          rw [show s % 2 + 2 * u + 2 * ((s - (s % 2 + 2 * u)) / 2) = s by omega] at k2
          refine ⟨h2, ?_, fd, q2, fun a c r ha hc hr hx => k2 a c r ha hc hr (by omega), g4.trans f2⟩
          show f_X1_most_L60 n b v5 (nI s) (k + 1) (nI (s % 2 + 2 * u)) g = _
          rw [e0, e2, Option.bind_some]
        · refine ⟨g, ?_, fc, g1, fun a c r ha hc hr hx => g2 a c r ha hc hr (by omega), g4⟩
          show f_X1_most_L60 n b v5 (nI s) (k + 1) (nI (s % 2 + 2 * u)) g = _
          have : f_X1_most_L88 n b v5 (nI s) (nI (s % 2 + 2 * u)) (nI ((s - (s % 2 + 2 * u)) / 2)) n 0 g = some g := by
            obtain ⟨n', rfl⟩ : ∃ n', n = n' + 1 := ⟨n - 1, by omega⟩
            rw [f_X1_most_L88]
            simp only [g1.g (k := 4) (by decide) (by decide), g1.g (k := 3) (by decide) (by decide), Option.bind_some]
            rw [if_neg (show ¬ nI (v 4) < 0 from nI_pos (by omega)), if_pos (nI_lt (by omega) (by omega))]
          rw [e0, this, Option.bind_some])
  obtain ⟨g, es, fc, r1, r2, r3⟩ := this
  refine ⟨g, fc, ?_, r1, r2, r3⟩
  rw [i_and1 (by omega)]
  exact es
theorem l_47 (q : LAt h b e v fb) (ok : vOk v) {st : Nat} (hs : st ≤ 100) (hn : 200 ≤ n) : ∃ h' fb', f_X1_most_L47 n b (nI st) n 0 h = some h' ∧ LAt h' b e v fb' ∧ KnS v fb' (st + 1) 0 ∧ FrL b e h h' := by
  have := lp0 (L := fun k (g : xH) s => f_X1_most_L47 n b (nI st) k (nI s) g)
    (I := fun s g => ∃ fc, LAt g b e v fc ∧ KnS v fc s 0 ∧ FrL b e h g)
    (R := fun g => ∃ fc, LAt g b e v fc ∧ KnS v fc (st + 1) 0 ∧ FrL b e h g) (D := st + 1) (n := n) (s := h) (by omega) ⟨fb, q, fun a c r ha hc hr hx => by omega, FrL.rfl⟩
    (fun k g hg => by
      refine ⟨g, ?_, hg⟩
      show f_X1_most_L47 n b (nI st) (k + 1) (nI (st + 1)) g = _
      rw [f_X1_most_L47, if_pos (nI_lt (by omega) (by omega))])
    (fun k g s hu hg => by
      right
      obtain ⟨fc, g1, g2, g4⟩ := hg
      obtain ⟨h2, fd, e2, q2, k2, f2⟩ := l_60 (n := n) (v5 := nI st) g1 ok (s := s) (by omega) hn g2
      refine ⟨h2, ?_, fd, q2, k2, g4.trans f2⟩
      show f_X1_most_L47 n b (nI st) (k + 1) (nI s) g = _
      rw [f_X1_most_L47, if_neg (nI_nlt (by omega) (by omega))]
      simp only [Option.bind_some]
      rw [e2, Option.bind_some, nI_1])
  obtain ⟨g, es, fc, r1, r2, r3⟩ := this
  exact ⟨g, fc, es, r1, r2, r3⟩
theorem cv_ok {ob : Int32} {L more : Nat} (ok : HOk H) (h1 : 1 ≤ L) (h4 : L ≤ 4) (hm : more ≤ 20) : vOk (cv H ob L more (hD H)) := by
  have h14 := ok.1
  have c := c_sum H ob (hD H)
  refine ⟨h1, h4, ?_, ?_, ?_, ?_⟩
  · show more + smB (c1 H) (hD H) ≤ 34; omega
  · show smB (c2 H) (hD H) ≤ 14; omega
  · show smB (c5 H ob) (hD H) + smB (c4 H ob) (hD H) ≤ 14; omega
  · exact pl_size (s := smB (c1 H) (hD H)) (t := smB (c2 H) (hD H)) (r := smB (c5 H ob) (hD H) + smB (c4 H ob) (hD H)) hm (by omega)
theorem l_most {hb L more : Nat} {ob : Int32} (q : LAt h b e v fb) (qh : HAt h hb H) (ok : HOk H) (h1 : 1 ≤ L) (h4 : L ≤ 4) (hm : more ≤ 20) (hn : 200 ≤ n) (hx : (b < hb ∨ hb + 5 ≤ b) ∧ (e < hb ∨ hb + 5 ≤ e)) : ∃ h' v' fb', f_X1_most n h b hb (nI L) ob (nI more) = some (nI (sLasts H ob L more), h') ∧ LAt h' b e v' fb' ∧ FrL b e h h' := by
  have h14 := ok.1
  have hk := cv_ok (ob := ob) ok h1 h4 hm
  obtain ⟨o1, o2, o3, o4, o5, sz⟩ := id hk
  obtain ⟨ha, e1, q1, f1⟩ := q.put (k := 1) (by decide) (by decide) L
  obtain ⟨hc, e2, q2, f2⟩ := l_countDoors (n := n) (L := L) (more := more) (ob := ob) q1 (by simp [uN]) (qh.frL f1 hx) ok (by omega) hx
  have l1 : cv H ob L more (hD H) 5 ≤ cv H ob L more (hD H) 2 := Nat.add_le_add_left (c1o_le H ob _) _
  have l2 : cv H ob L more (hD H) 6 ≤ cv H ob L more (hD H) 3 := c2o_le H ob _
  have es : sLasts H ob L more = lV (cv H ob L more (hD H) 1) (cv H ob L more (hD H) 2) (cv H ob L more (hD H) 3) 99 (cv H ob L more (hD H) 5) (cv H ob L more (hD H) 6) (cv H ob L more (hD H) 4) := rfl
  rw [es]
  generalize cv H ob L more (hD H) = w at *
  unfold f_X1_most
  rw [e1, Option.bind_some]
  simp only [q1.ob, e2, Option.bind_some, q2.g (k := 5) (by decide) (by decide), q2.g (k := 6) (by decide) (by decide), q2.ob, l_changes q2 o2 o3 o4 l1 l2, nI_2m, nI_add]
  cases hcf : cfB (w 1) (w 2) (w 3) (w 5) (w 6)
  · rw [if_pos (show bI false = 0 from rfl)]
    obtain ⟨hd, fd, e3, q3, k3, f3⟩ := l_47 (n := n) q2 hk (st := w 5 + 2 * w 6) (by omega) hn
    have hp : pl (w 2) (w 4) (w 5) (w 6) (w 4) < 1344 := Nat.lt_of_lt_of_le (pl_lt (t := w 3) l1 l2 (Nat.le_refl _)) sz
    refine ⟨hd, w, fd, ?_, q3, f1.trans (f2.trans f3)⟩
    rw [e3]
    simp only [Option.bind_some, q3.g (k := 5) (by decide) (by decide), q3.g (k := 6) (by decide) (by decide), q3.g (k := 4) (by decide) (by decide), q3.ob, l_noted q3 hp]
    rw [k3 _ _ _ l1 l2 (Nat.le_refl _) (Or.inl (by omega))]
  · rw [if_neg (show ¬ bI true = 0 by decide)]
    refine ⟨hc, w, fb, ?_, q2, f1.trans f2⟩
    rw [show lV (w 1) (w 2) (w 3) 99 (w 5) (w 6) (w 4) = 99 from Nat.le_antisymm (lV_le _ _ _ _ _ _ _) (lV_cf _ _ _ _ 99 _ _ l1 l2 (cfB_iff.mp hcf))]
    rfl
end LL
