/-! The class's House: become, draw, turns, wind, told acts; the least set and how many. -/
def sMul (x : Int32) : Int32 := x * 1103515245 + 12345
def sDrawn (H : HS) : Int32 := sMul (hS H)
theorem sMul_e (x : Int32) : x * 1103515245 + 12345 = sMul x := rfl
def sVal (H : HS) (m : Nat) : Nat := ((sDrawn H).toBitVec.toNat / 65536) % m
section HL
variable {h h' : xH} {b d p n lo len : Nat} {H T : HS} {r set x : Int32}
theorem h_putk {m : Nat} (g : ∀ k, k < 11 → x_get h b 0 k = some (if 4 ≤ k ∧ k < m then hf b H k else hf b T k)) (h4 : 4 ≤ m) (h11 : m < 11) : ∃ h', x_put h b 0 m (hf b H m) = some h' ∧ (∀ k, k < 11 → x_get h' b 0 k = some (if 4 ≤ k ∧ k < m + 1 then hf b H k else hf b T k)) ∧ (∀ a e, x_at h a = some (.inl e) → x_at h' a = some (.inl e)) ∧ FrB b 5 h h' := by
  obtain ⟨h1, e, g1, f1, f2, f3⟩ := w_put5 (len := 5) (g m h11) (by omega) (hf b H m)
  refine ⟨h1, e, fun k hk => ?_, f2, f3⟩
  by_cases ek : k = m
  · subst ek; rw [if_pos ⟨h4, by omega⟩]; exact g1
  · rw [show (if 4 ≤ k ∧ k < m + 1 then hf b H k else hf b T k) = (if 4 ≤ k ∧ k < m then hf b H k else hf b T k) by
      by_cases c : 4 ≤ k ∧ k < m
      · rw [if_pos c, if_pos ⟨c.1, by omega⟩]
      · rw [if_neg c, if_neg (by omega)]]
    exact f1 _ _ _ _ (Or.inr ek) (g k hk)
theorem h_become {o : Nat} (ok : HOk H) (hd : b + 5 ≤ o ∨ o + 5 ≤ b) (hn : 20 ≤ n) (q : HAt h b T) (qo : HAt h o H) : ∃ h', f_X0_become n h b o = some h' ∧ HAt h' b H ∧ FrB b 5 h h' := by
  obtain ⟨h1, fk, fa, fb, fr0, e1, g1, a1, a2, a3, a4, c1, qo1, s1⟩ := h_become2 ok hd hn q qo
  obtain ⟨h2, fr, e2, g2, a1, a2, a3, a4, c2, qo2, s2⟩ := h_become54 ok hd hn g1 a1 a2 a3 a4 qo1
  obtain ⟨h4, e4, g4, r4, s4⟩ := h_putk (H := H) (T := T) (m := 4) (fun k hk => by rw [if_neg (by omega)]; exact g2 k hk) (by omega) (by omega)
  have q4 := qo2.frB s4 (by omega)
  obtain ⟨h5, e5, g5, r5, s5⟩ := h_putk (m := 5) g4 (by omega) (by omega)
  have q5 := q4.frB s5 (by omega)
  obtain ⟨h6, e6, g6, r6, s6⟩ := h_putk (m := 6) g5 (by omega) (by omega)
  have q6 := q5.frB s6 (by omega)
  obtain ⟨h7, e7, g7, r7, s7⟩ := h_putk (m := 7) g6 (by omega) (by omega)
  have q7 := q6.frB s7 (by omega)
  obtain ⟨h8, e8, g8, r8, s8⟩ := h_putk (m := 8) g7 (by omega) (by omega)
  have q8 := q7.frB s8 (by omega)
  obtain ⟨h9, e9, g9, r9, s9⟩ := h_putk (m := 9) g8 (by omega) (by omega)
  have q9 := q8.frB s9 (by omega)
  obtain ⟨h10, e10, g10, r10, s10⟩ := h_putk (m := 10) g9 (by omega) (by omega)
  have R : ∀ a e, x_at h2 a = some (.inl e) → x_at h10 a = some (.inl e) := fun a e z => r10 _ _ (r9 _ _ (r8 _ _ (r7 _ _ (r6 _ _ (r5 _ _ (r4 _ _ z))))))
  refine ⟨h10, ?_, ⟨fun k hk => ?_, fk, fa, fb, fr, R _ _ a1, R _ _ a2, R _ _ a3, R _ _ a4, c1, c2⟩, s1.trans (s2.trans (s4.trans (s5.trans (s6.trans (s7.trans (s8.trans (s9.trans s10)))))))⟩
  · unfold f_X0_become
    rw [e1, Option.bind_some, e2, Option.bind_some, qo2.D, Option.bind_some, show x_put h2 b 0 4 (Value.int (nI (hD H))) = some h4 from e4, Option.bind_some, q4.O, Option.bind_some, show x_put h4 b 0 5 (Value.int (hO H)) = some h5 from e5, Option.bind_some, q5.P, Option.bind_some, show x_put h5 b 0 6 (Value.int (nI (hP H))) = some h6 from e6, Option.bind_some, q6.L, Option.bind_some, show x_put h6 b 0 7 (Value.int (hL H)) = some h7 from e7, Option.bind_some, q7.W, Option.bind_some, show x_put h7 b 0 8 (Value.int (hW H)) = some h8 from e8, Option.bind_some, q8.S, Option.bind_some, show x_put h8 b 0 9 (Value.int (hS H)) = some h9 from e9, Option.bind_some, q9.N, Option.bind_some, show x_put h9 b 0 10 (Value.int (hN H)) = some h10 from e10, Option.bind_some]
  · by_cases k4 : 4 ≤ k
    · have := g10 k hk
      rw [if_pos ⟨k4, by omega⟩] at this
      exact this
    · have := g10 k hk
      rw [if_neg (by omega)] at this
      rw [this]
      have : k = 0 ∨ k = 1 ∨ k = 2 ∨ k = 3 := by omega
      rcases this with rfl | rfl | rfl | rfl <;> rfl
theorem i_ushr16 (x : Int32) : i_ushr x 16 = nI (x.toBitVec.toNat / 65536) := by
  apply Int32.toBitVec_inj.mp
  apply BitVec.eq_of_toNat_eq
  have h1 : (i_ushr x 16).toBitVec.toNat = x.toBitVec.toNat / 2 ^ 16 := pk_ushr x 16 16 (by decide)
  rw [h1, pk_tn (by have := x.toBitVec.isLt; omega)]
theorem i_rem_n {a m : Nat} (ha : a < 2 ^ 31) (h0 : 0 < m) (hm : m < 2 ^ 31) : i_rem (nI a) (nI m) = nI (a % m) := pk_rem ha h0 hm
theorem ushr_lt (x : Int32) : x.toBitVec.toNat / 65536 < 65536 := by have := x.toBitVec.isLt; omega
theorem h_draw {m : Nat} (q : HAt h b H) (h0 : 0 < m) (hm : m < 2 ^ 31) : ∃ h', f_X0_draw h b (nI m) = some (nI (sVal H m), h') ∧ HAt h' b (sSeed H (sDrawn H)) ∧ FrB b 5 h h' := by
  obtain ⟨h1, e1, q1, f1⟩ := q.putS (sDrawn H)
  refine ⟨h1, ?_, q1, f1⟩
  unfold f_X0_draw
  rw [q.S, Option.bind_some, sMul_e, show sMul (hS H) = sDrawn H from rfl, e1, Option.bind_some, if_neg (show ¬ nI m ≤ 0 from nI_nle h0 hm), q1.S, Option.bind_some, pj_sSeed_S]
  have hl := ushr_lt (sDrawn H)
  unfold x_irem
  rw [if_neg (nI_ne0 h0 hm), i_ushr16, i_rem_n (by omega) h0 hm]
  rfl
theorem h_draw0 (q : HAt h b H) : ∃ h', f_X0_draw h b (nI 0) = some (0, h') ∧ HAt h' b (sSeed H (sDrawn H)) ∧ FrB b 5 h h' := by
  obtain ⟨h1, e1, q1, f1⟩ := q.putS (sDrawn H)
  refine ⟨h1, ?_, q1, f1⟩
  unfold f_X0_draw
  rw [q.S, Option.bind_some, sMul_e, show sMul (hS H) = sDrawn H from rfl, e1, Option.bind_some, if_pos (by decide)]
/-- wind: how the house is, and how many it opened, behind i doors (c: not so; z: the seed then) -/
def sBl2 (G : HS × Nat) (i : Nat) (c : Bool) (z : Int32) : HS × Nat := if bt (hO G.1) i then G else if c then (sSeed G.1 z, G.2) else (sO (sSeed G.1 z) (hO G.1 ||| i_shl 1 (nI i)), G.2 + 1)
def sBlw (G : HS × Nat) (i : Nat) : HS × Nat := sBl2 G i (decide (hW G.1 ≤ nI (sVal G.1 100))) (sDrawn G.1)
def sBlow (H : HS) : Nat → HS × Nat
  | 0 => (H, 0)
  | i + 1 => sBlw (sBlow H i) i
theorem sBl2_D (G : HS × Nat) (i : Nat) (c : Bool) (z : Int32) : hD (sBl2 G i c z).1 = hD G.1 ∧ hP (sBl2 G i c z).1 = hP G.1 := by
  unfold sBl2
  cases bt (hO G.1) i
  · cases c
    · exact ⟨rfl, rfl⟩
    · exact ⟨rfl, rfl⟩
  · exact ⟨rfl, rfl⟩
theorem sBlow_D (H : HS) : ∀ i, hD (sBlow H i).1 = hD H ∧ hP (sBlow H i).1 = hP H
  | 0 => ⟨rfl, rfl⟩
  | i + 1 => ⟨((sBl2_D (sBlow H i) i _ _).1).trans (sBlow_D H i).1, ((sBl2_D (sBlow H i) i _ _).2).trans (sBlow_D H i).2⟩
theorem h_blow1 {G : HS × Nat} {i v k : Nat} {z : Int32} (q : HAt h b G.1) (hi : i < hD G.1) (h14 : hD G.1 ≤ 14) (dr : ∃ h', f_X0_draw h b 100 = some (nI v, h') ∧ HAt h' b (sSeed G.1 z) ∧ FrB b 5 h h') : ∃ s' : Int32 × xH, f_X0_blow_L4 b (k + 1) (nI G.2) (nI i) h = f_X0_blow_L4 b k s'.1 (nI (i + 1)) s'.2 ∧ s'.1 = nI (sBl2 G i (decide (hW G.1 ≤ nI v)) z).2 ∧ HAt s'.2 b (sBl2 G i (decide (hW G.1 ≤ nI v)) z).1 ∧ FrB b 5 h s'.2 := by
  rw [f_X0_blow_L4]
  unfold sBl2
  simp only [q.D, Option.bind_some, q.ob, h_isOpen q (show i < 32 by omega)]
  rw [if_neg (nI_ge hi (by omega))]
  cases hb : bt (hO G.1) i
  · rw [if_pos (show bI false = 0 from rfl), if_neg (by decide)]
    obtain ⟨h1, e1, q1, f1⟩ := dr
    rw [e1]
    simp only [Option.bind_some, q1.W, q1.O, nI_1, pj_sSeed_W, pj_sSeed_O]
    by_cases hw : hW G.1 ≤ nI v
    · rw [if_pos hw, decide_eq_true hw, if_pos rfl]
      exact ⟨(nI G.2, h1), rfl, rfl, q1, f1⟩
    · rw [if_neg hw, decide_eq_false hw, if_neg (by decide)]
      obtain ⟨h2, e2, q2, f2⟩ := q1.putO (hO G.1 ||| i_shl 1 (nI i))
      rw [e2]
      exact ⟨(nI (G.2 + 1), h2), rfl, rfl, q2, f1.trans f2⟩
  · rw [if_neg (show ¬ bI true = 0 by decide), if_pos rfl]
    simp only [nI_1]
    exact ⟨(nI G.2, h), rfl, rfl, q, FrB.rfl⟩
theorem h_blow (q : HAt h b H) (h14 : hD H ≤ 14) (hn : 20 ≤ n) : ∃ h', f_X0_blow n h b = some (nI (sBlow H (hD H)).2, h') ∧ HAt h' b (sBlow H (hD H)).1 ∧ FrB b 5 h h' := by
  have := lp0 (L := fun k (s : Int32 × xH) i => f_X0_blow_L4 b k s.1 (nI i) s.2) (I := fun i s => s.1 = nI (sBlow H i).2 ∧ HAt s.2 b (sBlow H i).1 ∧ FrB b 5 h s.2) (R := fun s => s.1 = nI (sBlow H (hD H)).2 ∧ HAt s.2 b (sBlow H (hD H)).1 ∧ FrB b 5 h s.2) (D := hD H) (n := n) (s := (0, h)) (by omega)
    ⟨rfl, q, FrB.rfl⟩
    (fun k s hs => by
      refine ⟨s, ?_, hs⟩
      obtain ⟨c1, c2, c3⟩ := hs
      show f_X0_blow_L4 b (k + 1) s.1 (nI (hD H)) s.2 = _
      unfold f_X0_blow_L4
      simp only [c2.D, Option.bind_some, (sBlow_D H (hD H)).1]
      rw [if_pos (nI_le (Nat.le_refl _) (by omega))])
    (fun k s i hi hs => by
      right
      obtain ⟨c1, c2, c3⟩ := hs
      have eD := (sBlow_D H i).1
      obtain ⟨s', e1, e2, e3, e4⟩ := h_blow1 (k := k) (i := i) c2 (by omega) (by omega) (h_draw c2 (m := 100) (by omega) (by omega))
      refine ⟨s', ?_, e2, e3, c3.trans e4⟩
      show f_X0_blow_L4 b (k + 1) s.1 (nI i) s.2 = _
      rw [c1]
      exact e1)
  obtain ⟨s, e, c1, c2, c3⟩ := this
  refine ⟨s.2, ?_, c2, c3⟩
  unfold f_X0_blow
  rw [show f_X0_blow_L4 b n 0 0 h = some s from e, Option.bind_some, c1]
/-- the least set: from all that can be shut, the greatest numbers are left out where the rest weighs enough -/
theorem sClr_bt {i k : Nat} (hi : i < 32) (hk : k < 32) : bt (sClr set i) k = (bt set k && !decide (k = i)) := by
  unfold sClr
  rw [b_and, b_not _ hk, b_bit hi hk]
theorem smB_drop {f g : Nat → Nat} {i : Nat} (hne : ∀ j, j ≠ i → g j = f j) (h0 : g i = 0) : ∀ m, i < m → smB g m + f i = smB f m
  | 0, h => absurd h (by omega)
  | m + 1, h => by
    by_cases e : m = i
    · subst e
      show smB g m + g m + f m = smB f m + f m
      rw [h0, smB_congr m (fun j hj => hne j (by omega))]
      omega
    · have := smB_drop hne h0 m (by omega)
      show smB g m + g m + f i = smB f m + f m
      rw [hne m e]; omega
end HL
