/-! The class's Plan: lay. -/
def pz (k : Nat) : Nat := match k with
  | 0 => 9
  | 1 => 8
  | 2 => 8
  | _ => 126
theorem pz_lt (k : Nat) : pz k < 2 ^ 31 := by unfold pz; split <;> decide
def PAt (h : xH) (b ap len : Nat) (w : Nat → Int32) (fA : Nat → Nat → Int32) (fp : Nat → Int32) : Prop :=
  (∀ k, k < 4 → x_get h b 2 k = some (.ref (b + 1 + k))) ∧ x_get h b 2 4 = some (.ref ap) ∧ (∀ k, 5 ≤ k → k < 12 → x_get h b 2 k = some (.int (w k))) ∧ (∀ k, k < 4 → At h (b + 1 + k) (pz k) (fA k)) ∧ At h ap len fp
def sepP (b ap : Nat) : Prop := ap < b ∨ b + 5 ≤ ap
def FrP (b : Nat) (h h' : xH) : Prop := Fr (fun a _ => a = b) (fun a => b + 1 ≤ a ∧ a < b + 5) h h'
def uA (fA : Nat → Nat → Int32) (k : Nat) (f : Nat → Int32) : Nat → Nat → Int32 := fun j => if j = k then f else fA j
def sgD (H : HS) (d : Nat) : Bool := decide (wtN (hK H d) = 1)
def dbD (H : HS) (d : Nat) : Bool := decide (hK H d = 2)
def gSg (H : HS) : Int32 := mkB (sgD H) (hD H)
def gDb (H : HS) : Int32 := mkB (dbD H) (hD H)
def gUs (H : HS) : Int32 := gSg H ||| gDb H
def shF (H : HS) (r : Int32) : Int32 := mkB (fun d => sShuts H d r) (hD H) &&& gUs H
def opF (H : HS) (r : Int32) : Int32 := mkB (fun d => sOpens H d r) (hD H)
theorem wtN_2 : wtN 2 = 2 := by decide
theorem x_len_n {h : xH} {a n : Nat} {f : Nat → Int32} (q : At h a n f) : x_len h a = some (nI n) := by
  unfold x_len
  rw [show x_at h a = some (.inl (.int, n, .inl f)) from q]
  rfl
section PL
variable {h h' : xH} {b ap len hb p n : Nat} {w : Nat → Int32} {fA : Nat → Nat → Int32} {fp : Nat → Int32} {H : HS}
theorem FrP.trans {h1 h2 : xH} (x : FrP b h h1) (y : FrP b h1 h2) : FrP b h h2 := Fr.trans x y
theorem FrP.refl : FrP b h h := Fr.rfl
theorem PAt.gI (q : PAt h b ap len w fA fp) {k : Nat} (h1 : 5 ≤ k) (h2 : k < 12) : x_gI h b 2 k = some (w k) := g_I (q.2.2.1 k h1 h2)
theorem PAt.gR (q : PAt h b ap len w fA fp) {k : Nat} (h1 : k < 4) : x_gR h b 2 k = some (b + 1 + k) := g_R (q.1 k h1)
theorem PAt.gP (q : PAt h b ap len w fA fp) : x_gR h b 2 4 = some ap := g_R q.2.1
theorem PAt.ob (q : PAt h b ap len w fA fp) : x_ob h b 2 = some () := g_ob q.2.1
theorem PAt.ld (q : PAt h b ap len w fA fp) {k i : Nat} (hk : k < 4) (hi : i < pz k) : x_ld h (b + 1 + k) (nI i) = some (fA k i) := (q.2.2.2.1 k hk).ld hi (pz_lt k)
theorem PAt.put (q : PAt h b ap len w fA fp) {k : Nat} (h1 : 5 ≤ k) (h2 : k < 12) (x : Int32) : ∃ h', x_put h b 2 k (.int x) = some h' ∧ PAt h' b ap len (upd w k x) fA fp ∧ Fr (fun a _ => a = b) (fun _ => False) h h' := by
  obtain ⟨h', e1, g, f⟩ := w_put (q.2.2.1 k h1 h2) (.int x)
  refine ⟨h', e1, ⟨fun j hj => f.1 _ _ _ _ (fun z => by omega) (q.1 j hj), f.1 _ _ _ _ (fun z => by omega) q.2.1, fun j j1 j2 => ?_, fun j hj => f.2 _ _ id (q.2.2.2.1 j hj), f.2 _ _ id q.2.2.2.2⟩, Fr.mono f (fun _ _ z => z.1) (fun _ z => z)⟩
  by_cases z : j = k
  · subst z; rw [g, pk_us]
  · rw [f.1 _ _ _ _ (fun y => z y.2) (q.2.2.1 j j1 j2), pk_un z]
theorem PAt.st (q : PAt h b ap len w fA fp) (sp : sepP b ap) {k i : Nat} (hk : k < 4) (hi : i < pz k) (x : Int32) : ∃ h', x_st h (b + 1 + k) (nI i) x = some h' ∧ PAt h' b ap len w (uA fA k (upd (fA k) i x)) fp ∧ FrP b h h' := by
  obtain ⟨h', e1, g, f⟩ := w_st (q.2.2.2.1 k hk) hi (pz_lt k) x
  refine ⟨h', e1, ⟨fun j hj => f.1 _ _ _ _ id (q.1 j hj), f.1 _ _ _ _ id q.2.1, fun j j1 j2 => f.1 _ _ _ _ id (q.2.2.1 j j1 j2), fun j hj => ?_, f.2 _ _ (fun z => by unfold sepP at sp; omega) q.2.2.2.2⟩, Fr.mono f (fun _ _ z => z.elim) (fun _ z => by omega)⟩
  by_cases z : j = k
  · subst z; unfold uA; rw [if_pos rfl]; exact g
  · unfold uA; rw [if_neg z]; exact f.2 _ _ (fun y => by omega) (q.2.2.2.1 j hj)
theorem FrP.put {h' : xH} (f : Fr (fun a _ => a = b) (fun _ => False) h h') : FrP b h h' := Fr.mono f (fun _ _ z => z) (fun _ z => z.elim)
theorem HAt.frP (q : HAt h hb H) (f : FrP b h h') (hx : b + 5 ≤ hb ∨ hb + 5 ≤ b) : HAt h' hb H := q.fr f (fun _ z => by omega) (fun a h1 h2 z => by omega)
/-- sortDoors -/
theorem p_sort (q : PAt h b ap len w fA fp) (qh : HAt h hb H) (ok : HOk H) (h9 : hD H ≤ 9) (w6 : w 6 = nI (hD H)) (sp : sepP b ap) (hx : b + 5 ≤ hb ∨ hb + 5 ≤ b) (hn : 20 ≤ n) : ∃ h' w' fA', f_X2_sortDoors n h b hb = some h' ∧ PAt h' b ap len w' fA' fp ∧ w' 8 = gSg H ∧ w' 9 = gDb H ∧ (∀ k, k ≠ 8 → k ≠ 9 → w' k = w k) ∧ (∀ d, d < hD H → fA' 0 d = sSd H d) ∧ FrP b h h' := by
  obtain ⟨h1, e1, q1, f1⟩ := q.put (k := 8) (by decide) (by decide) 0
  obtain ⟨h2, e2, q2, f2⟩ := q1.put (k := 9) (by decide) (by decide) 0
  have := lp0 (L := fun k (s : xH) d => f_X2_sortDoors_L12 b hb k (nI d) s)
    (I := fun d s => ∃ w' fA', PAt s b ap len w' fA' fp ∧ w' 8 = mkB (sgD H) d ∧ w' 9 = mkB (dbD H) d ∧ (∀ k, k ≠ 8 → k ≠ 9 → w' k = w k) ∧ (∀ j, j < d → fA' 0 j = sSd H j) ∧ FrP b h s)
    (R := fun s => ∃ w' fA', PAt s b ap len w' fA' fp ∧ w' 8 = gSg H ∧ w' 9 = gDb H ∧ (∀ k, k ≠ 8 → k ≠ 9 → w' k = w k) ∧ (∀ j, j < hD H → fA' 0 j = sSd H j) ∧ FrP b h s) (D := hD H) (n := n) (s := h2) (by omega)
    ⟨_, _, q2, by rw [pk_un (by decide), pk_us]; rfl, by rw [pk_us]; rfl, fun k k1 k2 => by rw [pk_un k2, pk_un k1], fun j hj => absurd hj (Nat.not_lt_zero _), FrP.trans (FrP.put f1) (FrP.put f2)⟩
    (fun k s hs => by
      refine ⟨s, ?_, hs⟩
      obtain ⟨w', fA', c1, c2, c3, c4, -⟩ := hs
      show f_X2_sortDoors_L12 b hb (k + 1) (nI (hD H)) s = _
      rw [f_X2_sortDoors_L12, c1.gI (k := 6) (by decide) (by decide), Option.bind_some, c4 6 (by decide) (by decide), w6, if_pos (nI_le (Nat.le_refl _) (by omega))])
    (fun k s d hd hs => by
      right
      obtain ⟨w', fA', c1, c2, c3, c4, c5, c6⟩ := hs
      have qs := qh.frP c6 hx
      obtain ⟨h9', t1, t2, t3⟩ := c1.st sp (k := 0) (i := d) (by decide) (show d < 9 by omega) (sSd H d)
      have qs9 := qs.frP t3 hx
      have fr9 := c6.trans t3
      have a0 : ∀ j, j < d + 1 → uA fA' 0 (upd (fA' 0) d (sSd H d)) 0 j = sSd H j := by
        intro j hj
        show (if 0 = 0 then upd (fA' 0) d (sSd H d) else fA' 0) j = _
        rw [if_pos rfl]
        by_cases ej : j = d
        · rw [ej, pk_us]
        · rw [pk_un ej]; exact c5 j (by omega)
      have st : f_X2_sortDoors_L12 b hb (k + 1) (nI d) s = if hK H d = 2 then (x_put h9' b 2 9 (.int (w' 9 ||| i_shl 1 (nI d)))).bind fun h13 => f_X2_sortDoors_L12 b hb k (nI (d + 1)) h13 else if nI (wtN (hK H d)) = 1 then (x_put h9' b 2 8 (.int (w' 8 ||| i_shl 1 (nI d)))).bind fun h18 => f_X2_sortDoors_L12 b hb k (nI (d + 1)) h18 else f_X2_sortDoors_L12 b hb k (nI (d + 1)) h9' := by
        rw [f_X2_sortDoors_L12, c1.gI (k := 6) (by decide) (by decide), Option.bind_some, c4 6 (by decide) (by decide), w6, if_neg (nI_ge hd (by omega)), c1.gR (k := 0) (by decide), Option.bind_some, qs.ra, Option.bind_some, qs.ldA ok hd, Option.bind_some, qs.rb, Option.bind_some, qs.ldB ok hd, Option.bind_some]
        rw [show x_st s (b + 1 + 0) (nI d) (i_shl 1 (hA H d) ||| i_shl 1 (hB H d)) = some h9' from t1]
        simp only [Option.bind_some, qs9.rk, qs9.ldK ok hd, qs9.ob, h_weightOf qs9 ok hd, t2.gI (k := 9) (by decide) (by decide), t2.gI (k := 8) (by decide) (by decide), nI_1]
      by_cases h2' : hK H d = 2
      · rw [if_pos h2'] at st
        obtain ⟨h13, u1, u2, u3⟩ := t2.put (k := 9) (by decide) (by decide) (w' 9 ||| i_shl 1 (nI d))
        refine ⟨h13, ?_, _, _, u2, ?_, ?_, ?_, a0, fr9.trans (FrP.put u3)⟩
        · show f_X2_sortDoors_L12 b hb (k + 1) (nI d) s = _
          rw [st, u1, Option.bind_some]
        · rw [pk_un (by decide), c2]
          show _ = if sgD H d then _ else _
          rw [if_neg (by unfold sgD; rw [h2', wtN_2]; decide)]
        · rw [pk_us, c3]
          show _ = if dbD H d then _ else _
          rw [if_pos (by unfold dbD; exact decide_eq_true h2')]
        · intro k k1 k2
          rw [pk_un k2]; exact c4 k k1 k2
      · rw [if_neg h2'] at st
        have wl := wtN_le (hK H d)
        by_cases h1' : wtN (hK H d) = 1
        · rw [if_pos (by rw [h1']; rfl)] at st
          obtain ⟨h13, u1, u2, u3⟩ := t2.put (k := 8) (by decide) (by decide) (w' 8 ||| i_shl 1 (nI d))
          refine ⟨h13, ?_, _, _, u2, ?_, ?_, ?_, a0, fr9.trans (FrP.put u3)⟩
          · show f_X2_sortDoors_L12 b hb (k + 1) (nI d) s = _
            rw [st, u1, Option.bind_some]
          · rw [pk_us, c2]
            show _ = if sgD H d then _ else _
            rw [if_pos (by unfold sgD; exact decide_eq_true h1')]
          · rw [pk_un (by decide), c3]
            show _ = if dbD H d then _ else _
            rw [if_neg (by unfold dbD; rw [decide_eq_false h2']; decide)]
          · intro k k1 k2
            rw [pk_un k1]; exact c4 k k1 k2
        · rw [if_neg (show ¬ nI (wtN (hK H d)) = 1 from fun z => h1' ((nI_eq (by omega) (by omega)).mp (show nI _ = nI 1 from z)))] at st
          refine ⟨h9', st, _, _, t2, ?_, ?_, c4, a0, fr9⟩
          · rw [c2]
            show _ = if sgD H d then _ else _
            rw [if_neg (by unfold sgD; rw [decide_eq_false h1']; decide)]
          · rw [c3]
            show _ = if dbD H d then _ else _
            rw [if_neg (by unfold dbD; rw [decide_eq_false h2']; decide)])
  obtain ⟨s, es, w', fA', r1, r2, r3, r4, r5, r6⟩ := this
  refine ⟨s, w', fA', ?_, r1, r2, r3, r4, r5, r6⟩
  unfold f_X2_sortDoors
  rw [e1, Option.bind_some, e2, Option.bind_some, show f_X2_sortDoors_L12 b hb n 0 h2 = some s from es]
  rfl
theorem p_look8 (q : PAt h b ap len w fA fp) (qh : HAt h hb H) (ok : HOk H) (h9 : hD H ≤ 9) (w6 : w 6 = nI (hD H)) {r : Int32} (hn : 20 ≤ n) : f_X2_lookFrom_L8 h b hb r n 0 0 0 = some (mkB (fun d => sShuts H d r) (hD H), opF H r) := by
  refine lpE (L := fun k (s : Int32 × Int32) d => f_X2_lookFrom_L8 h b hb r k s.1 s.2 (nI d)) (fun d => (mkB (fun d => sShuts H d r) d, mkB (fun d => sOpens H d r) d)) (D := hD H) (n := n) (by omega) (fun k => ?_) (fun k d hd => ?_)
  · show f_X2_lookFrom_L8 h b hb r (k + 1) _ _ (nI (hD H)) = _
    rw [f_X2_lookFrom_L8, q.gI (k := 6) (by decide) (by decide), Option.bind_some, w6, if_pos (nI_le (Nat.le_refl _) (by omega))]
    rfl
  · show f_X2_lookFrom_L8 h b hb r (k + 1) _ _ (nI d) = f_X2_lookFrom_L8 h b hb r k (if sShuts H d r then _ else _) (if sOpens H d r then _ else _) (nI (d + 1))
    rw [f_X2_lookFrom_L8, q.gI (k := 6) (by decide) (by decide), Option.bind_some, w6, if_neg (nI_ge hd (by omega)), qh.ob, Option.bind_some, h_shutsFrom qh ok hd, Option.bind_some]
    simp only [Option.bind_some, h_opensFrom qh ok hd, nI_1]
    cases sShuts H d r <;> cases sOpens H d r <;> rfl
theorem p_look (q : PAt h b ap len w fA fp) (qh : HAt h hb H) (ok : HOk H) (h9 : hD H ≤ 9) (w6 : w 6 = nI (hD H)) (w8 : w 8 = gSg H) (w9 : w 9 = gDb H) (sp : sepP b ap) {r : Nat} (hr : r < 8) (hn : 20 ≤ n) : ∃ h' fA', f_X2_lookFrom n h b hb (nI r) = some h' ∧ PAt h' b ap len w fA' fp ∧ fA' 0 = fA 0 ∧ fA' 3 = fA 3 ∧ fA' 1 = upd (fA 1) r (shF H (nI r)) ∧ fA' 2 = upd (fA 2) r (opF H (nI r)) ∧ FrP b h h' := by
  obtain ⟨h1, e1, q1, f1⟩ := q.st sp (k := 1) (i := r) (by decide) hr (shF H (nI r))
  obtain ⟨h2, e2, q2, f2⟩ := q1.st sp (k := 2) (i := r) (by decide) hr (opF H (nI r))
  refine ⟨h2, _, ?_, q2, rfl, rfl, rfl, rfl, f1.trans f2⟩
  unfold f_X2_lookFrom
  rw [p_look8 q qh ok h9 w6 hn, Option.bind_some, q.gR (k := 1) (by decide), Option.bind_some, q.gI (k := 8) (by decide) (by decide), Option.bind_some, q.gI (k := 9) (by decide) (by decide), Option.bind_some, w8, w9]
  rw [show x_st h (b + 1 + 1) (nI r) (mkB (fun d => sShuts H d (nI r)) (hD H) &&& (gSg H ||| gDb H)) = some h1 from e1, Option.bind_some, q1.gR (k := 2) (by decide), Option.bind_some, e2]
  rfl
theorem p_66 (q : PAt h b ap len w fA fp) (qh : HAt h hb H) (ok : HOk H) (h9 : hD H ≤ 9) (w6 : w 6 = nI (hD H)) (w8 : w 8 = gSg H) (w9 : w 9 = gDb H) (sp : sepP b ap) (hx : b + 5 ≤ hb ∨ hb + 5 ≤ b) {v2 : Int32} (hn : 20 ≤ n) : ∃ h' fA', f_X2_lay_L66 n b hb v2 n 0 h = some h' ∧ PAt h' b ap len w fA' fp ∧ fA' 0 = fA 0 ∧ fA' 3 = fA 3 ∧ (∀ r, r < 8 → fA' 1 r = shF H (nI r) ∧ fA' 2 r = opF H (nI r)) ∧ FrP b h h' := by
  have := lp0 (L := fun k (s : xH) r => f_X2_lay_L66 n b hb v2 k (nI r) s) (I := fun r s => ∃ fA', PAt s b ap len w fA' fp ∧ fA' 0 = fA 0 ∧ fA' 3 = fA 3 ∧ (∀ j, j < r → fA' 1 j = shF H (nI j) ∧ fA' 2 j = opF H (nI j)) ∧ FrP b h s) (R := fun s => ∃ fA', PAt s b ap len w fA' fp ∧ fA' 0 = fA 0 ∧ fA' 3 = fA 3 ∧ (∀ j, j < 8 → fA' 1 j = shF H (nI j) ∧ fA' 2 j = opF H (nI j)) ∧ FrP b h s) (D := 8) (n := n) (s := h) (by omega) ⟨fA, q, rfl, rfl, fun j hj => absurd hj (Nat.not_lt_zero _), FrP.refl⟩
    (fun k s hs => by
      refine ⟨s, ?_, hs⟩
      show f_X2_lay_L66 n b hb v2 (k + 1) (nI 8) s = _
      rw [f_X2_lay_L66, if_pos (show (8 : Int32) ≤ nI 8 by decide)])
    (fun k s r hr hs => by
      right
      obtain ⟨fA', c1, c2, c3, c4, c5⟩ := hs
      obtain ⟨h2, fA2, e2, q2, g0, g3, g1, g2, f2⟩ := p_look (n := n) c1 (qh.frP c5 hx) ok h9 w6 w8 w9 sp hr hn
      refine ⟨h2, ?_, fA2, q2, by rw [g0, c2], by rw [g3, c3], fun j hj => ?_, c5.trans f2⟩
      · show f_X2_lay_L66 n b hb v2 (k + 1) (nI r) s = _
        rw [f_X2_lay_L66, if_neg (show ¬ (8 : Int32) ≤ nI r from nI_ge (b := 8) hr (by decide)), c1.ob, Option.bind_some, e2, Option.bind_some, Option.bind_some, nI_1]
      · rw [g1, g2]
        by_cases ej : j = r
        · rw [ej, pk_us, pk_us]; exact ⟨rfl, rfl⟩
        · rw [pk_un ej, pk_un ej]; exact c4 j (by omega))
  obtain ⟨s, es, fA', r⟩ := this
  exact ⟨s, fA', es, r⟩
/-- doors that others may shut -/
def othF (H : HS) (p : Nat) : Nat → Int32
  | 0 => 0
  | i + 1 => if i = p then othF H p i else othF H p i ||| shF H (hR H i)
theorem othF_bt (H : HS) (p k : Nat) : ∀ i, bt (othF H p i) k = anB (fun j => !decide (j = p) && bt (shF H (hR H j)) k) i
  | 0 => b_0 k
  | i + 1 => by
    show bt (if i = p then _ else _) k = (anB _ i || (!decide (i = p) && bt (shF H (hR H i)) k))
    by_cases e : i = p
    · rw [if_pos e, decide_eq_true e, othF_bt H p k i]; simp
    · rw [if_neg e, decide_eq_false e, b_or, othF_bt H p k i]; simp
theorem p_91 (q : PAt h b ap len w fA fp) (qh : HAt h hb H) (ok : HOk H) (hs : ∀ r, r < 8 → fA 1 r = shF H (nI r)) (w10 : w 10 = 0) (hx : b + 5 ≤ hb ∨ hb + 5 ≤ b) (hn : 20 ≤ n) (hp : p < 2 ^ 31) : ∃ h' w', f_X2_lay_L91 b hb (nI p) n 0 h = some h' ∧ PAt h' b ap len w' fA fp ∧ w' 10 = othF H p (hP H) ∧ (∀ k, k ≠ 10 → w' k = w k) ∧ FrP b h h' := by
  have h4 := ok.2.1
  have := lp0 (L := fun k (s : xH) i => f_X2_lay_L91 b hb (nI p) k (nI i) s) (I := fun i s => ∃ w', PAt s b ap len w' fA fp ∧ w' 10 = othF H p i ∧ (∀ k, k ≠ 10 → w' k = w k) ∧ FrP b h s) (R := fun s => ∃ w', PAt s b ap len w' fA fp ∧ w' 10 = othF H p (hP H) ∧ (∀ k, k ≠ 10 → w' k = w k) ∧ FrP b h s) (D := hP H) (n := n) (s := h) (by omega) ⟨w, q, w10, fun _ _ => rfl, FrP.refl⟩
    (fun k s hs => by
      refine ⟨s, ?_, hs⟩
      obtain ⟨w', c1, c2, c3, c4⟩ := hs
      show f_X2_lay_L91 b hb (nI p) (k + 1) (nI (hP H)) s = _
      rw [f_X2_lay_L91, (qh.frP c4 hx).P, Option.bind_some, if_pos (nI_le (Nat.le_refl _) (by omega))])
    (fun k s i hi hs2 => by
      right
      obtain ⟨w', c1, c2, c3, c4⟩ := hs2
      have qs := qh.frP c4 hx
      obtain ⟨r, hr, er⟩ := ok.2.2.2.1 i hi
      by_cases e : i = p
      · refine ⟨s, ?_, w', c1, ?_, c3, c4⟩
        · show f_X2_lay_L91 b hb (nI p) (k + 1) (nI i) s = _
          rw [f_X2_lay_L91, qs.P, Option.bind_some, if_neg (nI_ge hi (by omega)), if_pos (by rw [e]), Option.bind_some, nI_1]
        · show _ = if i = p then _ else _
          rw [if_pos e]; exact c2
      · obtain ⟨h2, e2, q2, f2⟩ := c1.put (k := 10) (by decide) (by decide) (w' 10 ||| shF H (hR H i))
        refine ⟨h2, ?_, _, q2, ?_, fun k hk => by rw [pk_un hk]; exact c3 k hk, c4.trans (FrP.put f2)⟩
        · show f_X2_lay_L91 b hb (nI p) (k + 1) (nI i) s = _
          have l1 : x_ld s (b + 1 + 1) (hR H i) = some (shF H (hR H i)) := by rw [er, c1.ld (k := 1) (by decide) hr, hs r hr]
          rw [f_X2_lay_L91, qs.P, Option.bind_some, if_neg (nI_ge hi (by omega)), if_neg (fun z => e ((nI_eq (by omega) hp).mp z)), c1.gI (k := 10) (by decide) (by decide), Option.bind_some, c1.gR (k := 1) (by decide), Option.bind_some, qs.rr, Option.bind_some, qs.ldR ok hi, Option.bind_some, l1, Option.bind_some, e2, Option.bind_some, Option.bind_some, nI_1]
        · rw [pk_us, c2]
          show _ = if i = p then _ else _
          rw [if_neg e])
  obtain ⟨s, es, w', r⟩ := this
  exact ⟨s, w', es, r⟩
end PL
