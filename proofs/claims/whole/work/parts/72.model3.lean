/-! The reference: taking over another's house. -/
section MM
variable {h h' : xH} {m o d p n : Nat} {H T : HS} {r set x : Int32}
theorem m_take18 {f g : Nat → Int32} (hd : d < 14) (hne : m ≠ o) (hn : 20 ≤ n) (r1 : x_gR h m 7 10 = some (m + 17)) (r2 : x_gR h o 7 10 = some (o + 17)) (q1 : ∃ fo, AtQ h (m + 17) 14 (.array .int) fo ∧ ∀ j, j < 14 → fo j = some (m + 18 + j)) (q2 : ∃ fo, AtQ h (o + 17) 14 (.array .int) fo ∧ ∀ j, j < 14 → fo j = some (o + 18 + j)) (a1 : At h (m + 18 + d) 3 f) (a2 : At h (o + 18 + d) 3 g) (hx : m + 36 ≤ o ∨ o + 36 ≤ m) : ∃ h' f', f_X7_takeFrom_L18 m o (nI d) n 0 h = some h' ∧ At h' (m + 18 + d) 3 f' ∧ (∀ j, j < 3 → f' j = g j) ∧ Fr (fun _ _ => False) (fun a => a = m + 18 + d) h h' := by
  have g1 := x_gR.spec r1
  have g2 := x_gR.spec r2
  obtain ⟨s, e, f', c1, c2, c3⟩ := lp0 (L := fun k s i => f_X7_takeFrom_L18 m o (nI d) k (nI i) s) (I := fun i s => ∃ f', At s (m + 18 + d) 3 f' ∧ (∀ j, j < i → f' j = g j) ∧ Fr (fun _ _ => False) (fun a => a = m + 18 + d) h s) (R := fun s => ∃ f', At s (m + 18 + d) 3 f' ∧ (∀ j, j < 3 → f' j = g j) ∧ Fr (fun _ _ => False) (fun a => a = m + 18 + d) h s) (D := 3) (n := n) (s := h) (by omega)
    ⟨f, a1, fun j hj => absurd hj (by omega), Fr.rfl⟩
    (fun k s hs => ⟨s, by
      show f_X7_takeFrom_L18 m o (nI d) (k + 1) (nI 3) s = _
      rw [f_X7_takeFrom_L18, if_pos (by decide)], hs⟩)
    (fun k s i hi hs => by
      right
      obtain ⟨f', c1, c2, c3⟩ := hs
      obtain ⟨h1, e1, b1, t1⟩ := w_st c1 hi (by decide) (g i)
      obtain ⟨fo1, ao1, eo1⟩ := q1
      obtain ⟨fo2, ao2, eo2⟩ := q2
      refine ⟨h1, ?_, upd f' i (g i), b1, ?_, c3.trans t1⟩
      · show f_X7_takeFrom_L18 m o (nI d) (k + 1) (nI i) s = f_X7_takeFrom_L18 m o (nI d) k (nI (i + 1)) h1
        rw [f_X7_takeFrom_L18, if_neg (show ¬ (3 : Int32) ≤ nI i from nI_ge (b := 3) hi (by omega)), g_R (c3.1 _ _ _ _ (fun z => z) g1), Option.bind_some, AtQ.ld (c3.2 _ _ (by omega) ao1) rfl hd (by decide) (eo1 d hd), Option.bind_some, g_R (c3.1 _ _ _ _ (fun z => z) g2), Option.bind_some, AtQ.ld (c3.2 _ _ (by omega) ao2) rfl hd (by decide) (eo2 d hd), Option.bind_some, At.ld (c3.2 _ _ (by omega) a2) hi (by decide), Option.bind_some, e1, Option.bind_some, Option.bind_some, nI_1]
      · intro j hj
        by_cases e : j = i
        · subst e; exact pk_us
        · rw [pk_un e]; exact c2 j (by omega))
  exact ⟨s, f', e, c1, c2, c3⟩
theorem m_take10 {fd gd : Nat → Nat → Int32} (hn : 20 ≤ n) (r1 : x_gR h m 7 10 = some (m + 17)) (r2 : x_gR h o 7 10 = some (o + 17)) (q1 : ∃ fo, AtQ h (m + 17) 14 (.array .int) fo ∧ ∀ j, j < 14 → fo j = some (m + 18 + j)) (q2 : ∃ fo, AtQ h (o + 17) 14 (.array .int) fo ∧ ∀ j, j < 14 → fo j = some (o + 18 + j)) (a1 : ∀ j, j < 14 → At h (m + 18 + j) 3 (fd j)) (a2 : ∀ j, j < 14 → At h (o + 18 + j) 3 (gd j)) (hx : m + 36 ≤ o ∨ o + 36 ≤ m) : ∃ (h' : xH) (fd' : Nat → Nat → Int32), f_X7_takeFrom_L10 n m o n 0 h = some h' ∧ (∀ j, j < 14 → At h' (m + 18 + j) 3 (fd' j)) ∧ (∀ j, j < 14 → ∀ k, k < 3 → fd' j k = gd j k) ∧ Fr (fun _ _ => False) (fun a => m + 18 ≤ a ∧ a < m + 32) h h' := by
  obtain ⟨s, e, f', c1, c2, c3⟩ := lp0 (L := fun k s i => f_X7_takeFrom_L10 n m o k (nI i) s) (I := fun i s => ∃ fd' : Nat → Nat → Int32, (∀ j, j < 14 → At s (m + 18 + j) 3 (fd' j)) ∧ (∀ j, j < i → ∀ k, k < 3 → fd' j k = gd j k) ∧ Fr (fun _ _ => False) (fun a => m + 18 ≤ a ∧ a < m + 32) h s) (R := fun s => ∃ fd' : Nat → Nat → Int32, (∀ j, j < 14 → At s (m + 18 + j) 3 (fd' j)) ∧ (∀ j, j < 14 → ∀ k, k < 3 → fd' j k = gd j k) ∧ Fr (fun _ _ => False) (fun a => m + 18 ≤ a ∧ a < m + 32) h s) (D := 14) (n := n) (s := h) (by omega)
    ⟨fd, a1, fun j hj => absurd hj (by omega), Fr.rfl⟩
    (fun k s hs => ⟨s, by
      show f_X7_takeFrom_L10 n m o (k + 1) (nI 14) s = _
      rw [f_X7_takeFrom_L10, if_pos (by decide)], hs⟩)
    (fun k s i hi hs => by
      right
      obtain ⟨fd', c1, c2, c3⟩ := hs
      obtain ⟨fo1, ao1, eo1⟩ := q1
      obtain ⟨fo2, ao2, eo2⟩ := q2
      obtain ⟨h1, f1, e1, b1, b2, t1⟩ := m_take18 (n := n) hi (by omega) hn (g_R (c3.1 _ _ _ _ (fun z => z) (x_gR.spec r1))) (g_R (c3.1 _ _ _ _ (fun z => z) (x_gR.spec r2))) ⟨fo1, c3.2 _ _ (by omega) ao1, eo1⟩ ⟨fo2, c3.2 _ _ (by omega) ao2, eo2⟩ (c1 i hi) (c3.2 _ _ (by omega) (a2 i hi)) hx
      refine ⟨h1, ?_, fun j => if j = i then f1 else fd' j, ?_, ?_, c3.trans (t1.mono (fun _ _ z => z) (fun a z => by omega))⟩
      · show f_X7_takeFrom_L10 n m o (k + 1) (nI i) s = f_X7_takeFrom_L10 n m o k (nI (i + 1)) h1
        rw [f_X7_takeFrom_L10, if_neg (show ¬ (14 : Int32) ≤ nI i from nI_ge (b := 14) hi (by omega)), e1, Option.bind_some, Option.bind_some, nI_1]
      · intro j hj
        by_cases e : j = i
        · subst e; simp only [if_true]; exact b1
        · simp only [if_neg e]; exact t1.2 _ _ (by omega) (c1 j hj)
      · intro j hj k hk
        by_cases e : j = i
        · subst e; simp only [if_true]; exact b2 k hk
        · simp only [if_neg e]; exact c2 j (by omega) k hk)
  exact ⟨s, f', e, c1, c2, c3⟩
theorem m_take69 {fr gr : Nat → Int32} (hn : 20 ≤ n) (r1 : x_gR h m 7 13 = some (m + 32)) (r2 : x_gR h o 7 13 = some (o + 32)) (a1 : At h (m + 32) 4 fr) (a2 : At h (o + 32) 4 gr) (hx : m + 36 ≤ o ∨ o + 36 ≤ m) : ∃ h' fr', f_X7_takeFrom_L69 m o n 0 h = some h' ∧ At h' (m + 32) 4 fr' ∧ (∀ j, j < 4 → fr' j = gr j) ∧ Fr (fun _ _ => False) (fun a => a = m + 32) h h' := by
  obtain ⟨s, e, f', c1, c2, c3⟩ := lp0 (L := fun k s i => f_X7_takeFrom_L69 m o k (nI i) s) (I := fun i s => ∃ f', At s (m + 32) 4 f' ∧ (∀ j, j < i → f' j = gr j) ∧ Fr (fun _ _ => False) (fun a => a = m + 32) h s) (R := fun s => ∃ f', At s (m + 32) 4 f' ∧ (∀ j, j < 4 → f' j = gr j) ∧ Fr (fun _ _ => False) (fun a => a = m + 32) h s) (D := 4) (n := n) (s := h) (by omega)
    ⟨fr, a1, fun j hj => absurd hj (by omega), Fr.rfl⟩
    (fun k s hs => ⟨s, by
      show f_X7_takeFrom_L69 m o (k + 1) (nI 4) s = _
      rw [f_X7_takeFrom_L69, if_pos (by decide)], hs⟩)
    (fun k s i hi hs => by
      right
      obtain ⟨f', c1, c2, c3⟩ := hs
      obtain ⟨h1, e1, b1, t1⟩ := w_st c1 hi (by decide) (gr i)
      refine ⟨h1, ?_, upd f' i (gr i), b1, ?_, c3.trans t1⟩
      · show f_X7_takeFrom_L69 m o (k + 1) (nI i) s = f_X7_takeFrom_L69 m o k (nI (i + 1)) h1
        rw [f_X7_takeFrom_L69, if_neg (show ¬ (4 : Int32) ≤ nI i from nI_ge (b := 4) hi (by omega)), g_R (c3.1 _ _ _ _ (fun z => z) (x_gR.spec r1)), Option.bind_some, g_R (c3.1 _ _ _ _ (fun z => z) (x_gR.spec r2)), Option.bind_some, At.ld (c3.2 _ _ (by omega) a2) hi (by decide), Option.bind_some, e1, Option.bind_some, Option.bind_some, nI_1]
      · intro j hj
        by_cases e : j = i
        · subst e; exact pk_us
        · rw [pk_un e]; exact c2 j (by omega))
  exact ⟨s, f', e, c1, c2, c3⟩
theorem m_putk {j : Nat} (g : ∀ k, 9 ≤ k → k < 18 → x_get h m 7 k = some (if k < j then mf m H k else mf m T k)) (h9 : 9 ≤ j) (h18 : j < 18) : ∃ h', x_put h m 7 j (mf m H j) = some h' ∧ (∀ k, 9 ≤ k → k < 18 → x_get h' m 7 k = some (if k < j + 1 then mf m H k else mf m T k)) ∧ (∀ a e, x_at h a = some (.inl e) → x_at h' a = some (.inl e)) ∧ FrH m h h' := by
  obtain ⟨h1, e, g1, f1⟩ := w_put (g j h9 h18) (mf m H j)
  refine ⟨h1, e, fun k hk hk2 => ?_, fun a e z => f1.2 a e (fun z => z) z, f1.mono (fun a j z => by omega) (fun a z => absurd z (fun z => z))⟩
  by_cases ek : k = j
  · subst ek; rw [if_pos (by omega)]; exact g1
  · rw [show (if k < j + 1 then mf m H k else mf m T k) = (if k < j then mf m H k else mf m T k) by
      by_cases c : k < j
      · rw [if_pos c, if_pos (by omega)]
      · rw [if_neg c, if_neg (by omega)]]
    exact f1.1 _ _ _ _ (fun z => ek z.2) (g k hk hk2)
theorem m_skip {j : Nat} (hj : mf m H j = mf m T j) (g : ∀ k, 9 ≤ k → k < 18 → x_get h m 7 k = some (if k < j then mf m H k else mf m T k)) : ∀ k, 9 ≤ k → k < 18 → x_get h m 7 k = some (if k < j + 1 then mf m H k else mf m T k) := by
  intro k hk hk2
  rw [g k hk hk2]
  by_cases c : k = j
  · subst c; rw [if_neg (by omega), if_pos (by omega), hj]
  · by_cases c2 : k < j
    · rw [if_pos c2, if_pos (by omega)]
    · rw [if_neg c2, if_neg (by omega)]
theorem m_takeFrom (hn : 20 ≤ n) (hx : m + 36 ≤ o ∨ o + 36 ≤ m) (h14 : hD H ≤ 14) (h4 : hP H ≤ 4) (q : MH h m T) (qo : MH h o H) : ∃ h', f_X7_takeFrom n h m o = some h' ∧ MH h' m H ∧ FrH m h h' := by
  obtain ⟨g, ⟨fo, ao, eo⟩, fd, fr, a1, a2, -, -⟩ := q
  have Qo := qo
  obtain ⟨go, ⟨fo2, ao2, eo2⟩, gd, gr, b1, b2, k1, k2⟩ := qo
  obtain ⟨h1, e1, g1, r1, s1⟩ := m_putk (H := H) (T := T) (j := 9) (fun k hk hk2 => by rw [if_neg (by omega)]; exact g k hk hk2) (by omega) (by omega)
  have q1 : MH h1 o H := Qo.fr s1 (fun k _ _ => by omega) (fun a _ _ => by omega)
  have g1' := m_skip (H := H) (T := T) (j := 10) rfl g1
  obtain ⟨h2, fd2, e2, a1', c2, s2⟩ := m_take10 (h := h1) (m := m) (o := o) (fd := fd) (gd := gd) hn (g_R (by have := g1 10 (by omega) (by omega); exact this)) q1.rd ⟨fo, r1 _ _ ao, eo⟩ ⟨fo2, r1 _ _ ao2, eo2⟩ (fun j hj => r1 _ _ (a1 j hj)) (fun j hj => r1 _ _ (b1 j hj)) hx
  have s2' : FrH m h1 h2 := s2.mono (fun a k z => absurd z (fun z => z)) (fun a z => by omega)
  have q2 : MH h2 o H := q1.fr s2' (fun k _ _ => by omega) (fun a _ _ => by omega)
  have g2 : ∀ k, 9 ≤ k → k < 18 → x_get h2 m 7 k = some (if k < 11 then mf m H k else mf m T k) := fun k hk hk2 => s2.1 _ _ _ _ (fun z => z) (g1' k hk hk2)
  obtain ⟨h3, e3, g3, r3, s3⟩ := m_putk g2 (by omega) (by omega)
  have q3 : MH h3 o H := q2.fr s3 (fun k _ _ => by omega) (fun a _ _ => by omega)
  obtain ⟨h4', e4, g4, r4, s4⟩ := m_putk g3 (by omega) (by omega)
  have q4 : MH h4' o H := q3.fr s4 (fun k _ _ => by omega) (fun a _ _ => by omega)
  have g4' := m_skip (H := H) (T := T) (j := 13) rfl g4
  obtain ⟨h5, fr5, e5, a5, c5, s5⟩ := m_take69 (h := h4') (m := m) (o := o) (fr := fr) (gr := gr) hn (g_R (by have := g4 13 (by omega) (by omega); exact this)) q4.rr (r4 _ _ (r3 _ _ (s2.2 _ _ (by omega) (r1 _ _ a2)))) (r4 _ _ (r3 _ _ (s2.2 _ _ (by omega) (r1 _ _ b2)))) hx
  have s5' : FrH m h4' h5 := s5.mono (fun a k z => absurd z (fun z => z)) (fun a z => by omega)
  have q5 : MH h5 o H := q4.fr s5' (fun k _ _ => by omega) (fun a _ _ => by omega)
  have g5 : ∀ k, 9 ≤ k → k < 18 → x_get h5 m 7 k = some (if k < 14 then mf m H k else mf m T k) := fun k hk hk2 => s5.1 _ _ _ _ (fun z => z) (g4' k hk hk2)
  obtain ⟨h6, e6, g6, r6, s6⟩ := m_putk g5 (by omega) (by omega)
  have q6 : MH h6 o H := q5.fr s6 (fun k _ _ => by omega) (fun a _ _ => by omega)
  obtain ⟨h7, e7, g7, r7, s7⟩ := m_putk g6 (by omega) (by omega)
  have q7 : MH h7 o H := q6.fr s7 (fun k _ _ => by omega) (fun a _ _ => by omega)
  obtain ⟨h8, e8, g8, r8, s8⟩ := m_putk g7 (by omega) (by omega)
  have q8 : MH h8 o H := q7.fr s8 (fun k _ _ => by omega) (fun a _ _ => by omega)
  obtain ⟨h9, e9, g9, r9, s9⟩ := m_putk g8 (by omega) (by omega)
  have R2 : ∀ a e, x_at h5 a = some (.inl e) → x_at h9 a = some (.inl e) := fun a e z => r9 _ _ (r8 _ _ (r7 _ _ (r6 _ _ z)))
  have R1 : ∀ a e, x_at h2 a = some (.inl e) → a ≠ m + 32 → x_at h9 a = some (.inl e) := fun a e z hne => R2 _ _ (s5.2 _ _ hne (r4 _ _ (r3 _ _ z)))
  refine ⟨h9, ?_, ⟨fun k hk hk2 => ?_, ⟨fo, R1 _ _ (s2.2 _ _ (by omega) (r1 _ _ ao)) (by omega), eo⟩, fd2, fr5, fun j hj => R1 _ _ (a1' j hj) (by omega), R2 _ _ a5, ?_, ?_⟩, s1.trans (s2'.trans (s3.trans (s4.trans (s5'.trans (s6.trans (s7.trans (s8.trans s9)))))))⟩
  · unfold f_X7_takeFrom
    rw [Qo.D, Option.bind_some, show x_put h m 7 9 (Value.int (nI (hD H))) = some h1 from e1, Option.bind_some, e2, Option.bind_some, q2.O, Option.bind_some, show x_put h2 m 7 11 (Value.int (hO H)) = some h3 from e3, Option.bind_some, q3.P, Option.bind_some, show x_put h3 m 7 12 (Value.int (nI (hP H))) = some h4' from e4, Option.bind_some, e5, Option.bind_some, q5.L, Option.bind_some, show x_put h5 m 7 14 (Value.int (hL H)) = some h6 from e6, Option.bind_some, q6.W, Option.bind_some, show x_put h6 m 7 15 (Value.int (hW H)) = some h7 from e7, Option.bind_some, q7.N, Option.bind_some, show x_put h7 m 7 16 (Value.int (hN H)) = some h8 from e8, Option.bind_some, q8.S, Option.bind_some, show x_put h8 m 7 17 (Value.int (hS H)) = some h9 from e9, Option.bind_some]
  · have := g9 k hk hk2
    rw [if_pos (by omega)] at this
    exact this
  · intro j hj
    have k1' := k1 j hj
    rw [c2 j (by omega) 0 (by omega), c2 j (by omega) 1 (by omega), c2 j (by omega) 2 (by omega)]
    exact k1'
  · intro p hp
    rw [c5 p (by omega)]
    exact k2 p hp
end MM
