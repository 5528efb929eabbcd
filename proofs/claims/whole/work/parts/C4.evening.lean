/-! evening. -/
def tOp2 (H : HS) (z1 z2 : Int32) (p d : Nat) : Nat := if sLeast (sSeed (sSeed H z1) z2) p d = -1 then 0 else 1
def tOp (H : HS) : Nat := tOp2 H (sDrawn H) (sDrawn (sSeed H (sDrawn H))) (sVal H (hP H)) (sVal (sSeed H (sDrawn H)) (hD H))
def sEve (H : HS) : Nat → HS × Nat
  | 0 => (H, 0)
  | i + 1 => (sTurn (sEve H i).1, (sEve H i).2 + tOp (sEve H i).1)
section Ev
variable {h h' : xH} {H : HS} {D : DS} {w : Nat → Nat} {A : AS} {n : Nat}
theorem turn2_D (z1 z2 : Int32) (p d : Nat) : hD (sTurn2 H z1 z2 p d) = hD H ∧ hP (sTurn2 H z1 z2 p d) = hP H ∧ hN (sTurn2 H z1 z2 p d) = hN H + nI (tOp2 H z1 z2 p d) := by
  unfold sTurn2 sTurn1 tOp2
  generalize hl : sLeast (sSeed (sSeed H z1) z2) p d = l
  by_cases c : l = -1
  · rw [if_pos c, if_pos c]
    have e0 : hN H + nI 0 = hN H := by rw [show nI 0 = (0 : Int32) from rfl, Int32.add_zero]
    rw [e0]
    cases sMayWalk (sSeed (sSeed H z1) z2) p d <;> exact ⟨rfl, rfl, rfl⟩
  · rw [if_neg c, if_neg c]; exact ⟨rfl, rfl, rfl⟩
theorem turn_D : hD (sTurn H) = hD H ∧ hP (sTurn H) = hP H ∧ hN (sTurn H) = hN H + nI (tOp H) := by
  unfold sTurn tOp
  exact turn2_D _ _ _ _
theorem eve_D : ∀ i, hD (sEve H i).1 = hD H ∧ hP (sEve H i).1 = hP H ∧ hN (sEve H i).1 = hN H + nI (sEve H i).2
  | 0 => ⟨rfl, rfl, by show hN H = hN H + nI 0; rw [show nI 0 = (0 : Int32) from rfl, Int32.add_zero]⟩
  | i + 1 => by
    obtain ⟨a, b, c⟩ := eve_D i
    obtain ⟨d, e, f⟩ := turn_D (H := (sEve H i).1)
    refine ⟨d.trans a, e.trans b, f.trans ?_⟩
    show _ = hN H + nI ((sEve H i).2 + tOp (sEve H i).1)
    rw [c, ← nI_add, Int32.add_assoc]
theorem ok_eve (ok : HOk H) (hd : 0 < hD H) : ∀ i, HOk (sEve H i).1
  | 0 => ok
  | i + 1 => ok_turn (ok_eve ok hd i) (by rw [(eve_D (H := H) i).1]; exact hd)
theorem m_turn {v1 : Int32} {m i k many : Nat} (ok : HOk H) (hn : 20000 ≤ n) (hp : 0 < hP H) (hd : 0 < hD H) (q : MH h m H) (hi : ¬ v1 ≤ nI i) : ∃ h', f_X7_evening_L44 n m v1 (k + 1) (nI many) (nI i) h = f_X7_evening_L44 n m v1 k (nI (many + tOp H)) (nI (i + 1)) h' ∧ MH h' m (sTurn H) ∧ FrH m h h' := by
  have h14 := ok.1
  have h4 := ok.2.1
  have l1 := sVal_lt H hp
  have l2 := sVal_lt (sSeed H (sDrawn H)) hd
  unfold tOp sTurn
  exact m_turn2 ok hn l1 l2 q hi (m_draw q hp (by omega)) (fun h1 q1 => m_draw q1 hd (by omega))
theorem h_eve {m : Nat} (ok : HOk H) (hp : 0 < hP H) (hd : 0 < hD H) (hm : m ≤ 60) (g : CI h D A) (eH : zH A = H) (x : Int32) (hn : 100 ≤ n) : ∃ h', f_X6_evening_L55 n 16 (nI m) x n 0 h = some h' ∧ HAt h' 17 (sEve H m).1 ∧ FrB 17 5 h h' ∧ x_gR h' 16 6 0 = some 17 := by
  obtain ⟨s, e, r⟩ := lp0 (L := fun k (s : xH) i => f_X6_evening_L55 n 16 (nI m) x k (nI i) s) (I := fun i s => HAt s 17 (sEve H i).1 ∧ FrB 17 5 h s ∧ x_get s 16 6 0 = some (.ref 17)) (R := fun s => HAt s 17 (sEve H m).1 ∧ FrB 17 5 h s ∧ x_get s 16 6 0 = some (.ref 17)) (D := m) (n := n) (s := h) (by omega) ⟨by rw [← eH]; exact g.H, FrB.rfl, g.1 0 (by decide)⟩
    (fun k s hs => ⟨s, by
      show f_X6_evening_L55 n 16 (nI m) x (k + 1) (nI m) s = _
      rw [f_X6_evening_L55, if_pos (nI_le (Nat.le_refl _) (by omega))], hs⟩)
    (fun k s i hi hs => by
      obtain ⟨q1, f1, g1⟩ := hs
      obtain ⟨dD, dP, -⟩ := eve_D (H := H) i
      obtain ⟨s', e', q2, f2⟩ := h_takeTurn (n := n) (ok_eve ok hd i) (by omega) (by rw [dP]; exact hp) (by rw [dD]; exact hd) q1
      refine Or.inr ⟨s', ?_, q2, f1.trans f2, f2.1 _ _ _ _ (fun z => by omega) g1⟩
      show f_X6_evening_L55 n 16 (nI m) x (k + 1) (nI i) s = f_X6_evening_L55 n 16 (nI m) x k (nI (i + 1)) s'
      rw [f_X6_evening_L55, if_neg (nI_ge hi (by omega)), g_R g1, Option.bind_some, q1.ob, Option.bind_some, e', Option.bind_some, Option.bind_some, nI_1])
  exact ⟨s, e, r.1, r.2.1, g_R r.2.2⟩
theorem m_eve {m : Nat} (ok : HOk H) (hp : 0 < hP H) (hd : 0 < hD H) (hm : m ≤ 60) (g : MH h 64 H) (hn : 20000 ≤ n) : ∃ h', f_X7_evening_L44 n 64 (nI m) n 0 0 h = some (nI (sEve H m).2, h') ∧ MH h' 64 (sEve H m).1 ∧ FrH 64 h h' := by
  obtain ⟨b, e, r⟩ := lp0 (L := fun k (s : Int32 × xH) i => f_X7_evening_L44 n 64 (nI m) k s.1 (nI i) s.2) (I := fun i s => s.1 = nI (sEve H i).2 ∧ MH s.2 64 (sEve H i).1 ∧ FrH 64 h s.2) (R := fun b => b.1 = nI (sEve H m).2 ∧ MH b.2 64 (sEve H m).1 ∧ FrH 64 h b.2) (D := m) (n := n) (s := (0, h)) (by omega) ⟨rfl, g, FrH.rfl⟩
    (fun k s hs => ⟨s, by
      show f_X7_evening_L44 n 64 (nI m) (k + 1) s.1 (nI m) s.2 = _
      rw [f_X7_evening_L44, if_pos (nI_le (Nat.le_refl _) (by omega))], hs⟩)
    (fun k s i hi hs => by
      obtain ⟨e1, q1, f1⟩ := hs
      obtain ⟨dD, dP, -⟩ := eve_D (H := H) i
      obtain ⟨s', e', q2, f2⟩ := m_turn (n := n) (v1 := nI m) (k := k) (i := i) (many := (sEve H i).2) (ok_eve ok hd i) hn (by rw [dP]; exact hp) (by rw [dD]; exact hd) q1 (nI_ge hi (by omega))
      refine Or.inr ⟨(nI (sEve H (i + 1)).2, s'), ?_, rfl, q2, f1.trans f2⟩
      show f_X7_evening_L44 n 64 (nI m) (k + 1) s.1 (nI i) s.2 = _
      rw [e1, e']
      rfl)
  obtain ⟨b1, b2⟩ := b
  obtain ⟨r1, r2, r3⟩ := r
  refine ⟨b2, ?_, r2, r3⟩
  have e2 : f_X7_evening_L44 n 64 (nI m) n 0 0 h = some (b1, b2) := e
  rw [e2, show b1 = nI (sEve H m).2 from r1]
end Ev
