/-! The reference's statements, and all of them. -/
def MRS (h h' : xH) (m : Nat) (t : TP) (fb : Nat → Int32) (s : Int32) (r : Int32) (R : RS) : Prop := FrNH m h h' ∧ match R with
  | .inl f => r = 0 ∧ MFail h' m t fb f ∧ ∃ H', MH h' m H'
  | .inr (H', τ') => r = 1 ∧ MH h' m H' ∧ ∃ ft, MTk h' m t fb ft s τ'
section MSt
variable {h h' : xH} {m n : Nat} {v fb ft : Nat → Int32} {t : TP} {τ : TK} {H : HS} {s : Int32}
theorem MRS.no {f : Nat} (fr : FrNH m h h') (x : MFail h' m t fb f) (q : MH h' m H) : MRS h h' m t fb s 0 (.inl f) := ⟨fr, rfl, x, H, q⟩
theorem MRS.yes (fr : FrNH m h h') (q : MH h' m H) (a : MTk h' m t fb ft s τ) : MRS h h' m t fb s 1 (.inr (H, τ)) := ⟨fr, rfl, q, ft, a⟩
theorem MFail.frH {f : Nat} (a : MFail h m t fb f) (fr : FrH m h h') : MFail h' m t fb f := by
  obtain ⟨v, ft, ⟨a1, a2, a3, a4, a5⟩, x⟩ := a
  exact ⟨v, ft, ⟨fr.1 _ _ _ _ (fun z => by omega) a1, fr.1 _ _ _ _ (fun z => by omega) a2, fun k hk => fr.1 _ _ _ _ (fun z => by omega) (a3 k hk), fr.2 _ _ (fun z => by omega) a4, fr.2 _ _ (fun z => by omega) a5⟩, x⟩
theorem fig_num {lo hi w : Nat} {τ' : TK} (e : pNum t τ lo hi = some (w, τ')) : fig t τ = w := by
  unfold pNum at e
  split at e
  · next c =>
    cases e
    unfold fig
    rw [if_pos c.1, fgN_v _ _ _ c.2.1]
    rfl
  · cases e
theorem fig_le (ok : TkOk t τ) : fig t τ ≤ 100000 := by
  unfold fig
  split
  · next c1 =>
    by_cases c2 : τ.2.2 - τ.2.1 ≤ 2
    · rw [fgN_v _ _ _ c2]
      have := numV_le ok c1 c2
      unfold numV at this
      omega
    · rw [fgN_big _ _ (by omega)]; exact Nat.le_refl _
  · exact Nat.zero_le _
def pDoor2 (t : TP) (H : HS) (k c : Nat) (τ : TK) : RS := match pNum t τ 0 7 with
  | none => .inl τ.2.1
  | some (b, τ3) => if k ≠ 1 ∧ b = c then .inl τ.2.1 else pDoor3 t H k c b τ3
theorem m_door61 (a : MTk h m t fb ft s τ) (b : TB t fb) (ok : TkOk t τ) (q : MH h m H) (hH : HOk H) (h14 : hD H < 14) {k c : Nat} (hk : k < 6) (hc : c < 8) (f0 : ft 0 = nI k) (f1 : ft 1 = nI c) (hne : k = 1 ∨ ¬ (τ.1 = 2 ∧ fig t τ = c)) (hn : 300 ≤ n) : ∃ h' r, f_X7_doorTold_J61 n h m = some (r, h') ∧ MRS h h' m t fb s r (pDoor2 t H k c τ) := by
  obtain ⟨h1, fr1, alt⟩ := m_number (n := n) a b ok (i := 2) (lo := 0) (by decide) (p3 := 7) (c := 7) (by decide) (by decide) (by decide) hn
  have q1 := q.frN fr1
  unfold f_X7_doorTold_J61 pDoor2
  rw [a.ob, Option.bind_some]
  rcases alt with ⟨e1, x1, y1⟩ | ⟨e1, -, y1, a1⟩
  · rw [show f_X7_number n h m 2 0 7 = some (0, h1) from e1, Option.bind_some, if_pos rfl, y1 7 rfl]
    exact ⟨h1, 0, rfl, MRS.no (FrNH.ofN fr1) x1 q1⟩
  · have y2 : pNum t τ 0 7 = some (numV t τ, nxt t τ.2.2) := y1
    have hv := pNum_lt y2
    have hf := fig_num y2
    have hne2 : k = 1 ∨ c ≠ numV t τ := hne.imp id (fun z w => z ⟨hv.2.2.2.2, by rw [hf, w]⟩)
    obtain ⟨h2, e2, q2, fr2⟩ := m_addD (k := k) (a := c) (c := numV t τ) q1 hH h14 hk hc (by omega) hne2
    have a2 := a1.frH fr2
    have t0 : x_ld h1 (m + 33) 0 = some (nI k) := by
      have := a1.told (i := 0) (by decide)
      rw [pk_un (by decide), f0] at this
      exact this
    have t1 : x_ld h1 (m + 33) 1 = some (nI c) := by
      have := a1.told (i := 1) (by decide)
      rw [pk_un (by decide), f1] at this
      exact this
    have t2 : x_ld h1 (m + 33) 2 = some (nI (numV t τ)) := by
      have := a1.told (i := 2) (by decide)
      rw [pk_us] at this
      exact this
    have ok2 := nxt_ok t ok.2.2.1
    have hw : f_X7_isWord n h2 m 14 = some (bI (isW t (nxt t τ.2.2) 8)) := m_isWord a2 b ok2 (w := 14) (by decide) (by decide) (show 20 ≤ n by omega)
    rw [show f_X7_number n h m 2 0 7 = some (1, h1) from e1, Option.bind_some, if_neg (show ¬ (1 : Int32) = 0 by decide), a1.rt, Option.bind_some, t0, Option.bind_some, Option.bind_some, t1, Option.bind_some, Option.bind_some, t2, Option.bind_some, a1.ob, Option.bind_some, e2, Option.bind_some, a2.ob, Option.bind_some, hw, Option.bind_some, y2]
    have E : (if k ≠ 1 ∧ numV t τ = c then (Sum.inl τ.2.1 : RS) else pDoor3 t H k c (numV t τ) (nxt t τ.2.2)) = pDoor3 t H k c (numV t τ) (nxt t τ.2.2) := by
      rw [if_neg]
      rintro ⟨z1, z2⟩
      rcases hne2 with z | z
      · exact z1 z
      · exact z z2.symm
    show ∃ h' r, _ ∧ MRS h h' m t fb s r (if k ≠ 1 ∧ numV t τ = c then (Sum.inl τ.2.1 : RS) else pDoor3 t H k c (numV t τ) (nxt t τ.2.2))
    rw [E]
    unfold pDoor3
    have F2 : FrNH m h h2 := (FrNH.ofN fr1).trans (FrNH.ofH fr2)
    cases hW : isW t (nxt t τ.2.2) 8 with
    | false =>
      rw [if_pos (show bI false = 0 from rfl), if_neg (by decide)]
      exact ⟨h2, 1, rfl, MRS.yes F2 q2 a2⟩
    | true =>
      rw [if_neg (show ¬ bI true = 0 by decide), if_pos rfl]
      obtain ⟨h3, e3, a3, fr3⟩ := a2.next b ok2.2.2.1 hn
      have q3 := q2.frN fr3
      have o3 : x_gI h3 m 7 11 = some (hO H) := q3.O
      obtain ⟨h4, e4, q4, fr4⟩ := q3.putO (hO H ||| i_shl 1 (nI (hD H)))
      rw [Option.bind_some, e3, Option.bind_some, o3, Option.bind_some, e4, Option.bind_some]
      exact ⟨h4, 1, rfl, MRS.yes ((F2.trans (FrNH.ofN fr3)).trans (FrNH.ofH fr4)) q4 (a3.frH fr4)⟩
theorem m_doorTold (a : MTk h m t fb ft s τ) (b : TB t fb) (ok : TkOk t τ) (hw : isW t τ 9 = true) (q : MH h m H) (hH : HOk H) (h14 : hD H < 14) (hn : 300 ≤ n) : ∃ h' r, f_X7_doorTold n h m = some (r, h') ∧ MRS h h' m t fb s r (pDoor t H (nxt t τ.2.2)) := by
  obtain ⟨h1, fr1, alt1⟩ := m_tells (n := n) a b ok (w := 9) (i := 0) (lo := 0) (by decide) (by decide) hw (by decide) (p3 := 5) (c := 5) (by decide) (by decide) (by decide) hn
  have ok1 := nxt_ok t ok.2.2.1
  have ok2 := nxt_ok t ok1.2.2.1
  have ok3 := nxt_ok t ok2.2.2.1
  have q1 := q.frN fr1
  unfold f_X7_doorTold pDoor
  rw [a.ob, Option.bind_some]
  rcases alt1 with ⟨e1, x1, y1⟩ | ⟨e1, -, y1, a1⟩
  · rw [show f_X7_tells n h m 9 0 0 5 = some (0, h1) from e1, Option.bind_some, if_pos rfl, y1 5 rfl]
    exact ⟨h1, 0, rfl, MRS.no (FrNH.ofN fr1) x1 q1⟩
  · have y1' : pNum t (nxt t τ.2.2) 0 5 = some (numV t (nxt t τ.2.2), nxt t (nxt t τ.2.2).2.2) := y1
    have v1 := pNum_lt y1'
    obtain ⟨h2, fr2, alt2⟩ := m_number (n := n) a1 b ok2 (i := 1) (lo := 0) (by decide) (p3 := 7) (c := 7) (by decide) (by decide) (by decide) hn
    have q2 := q1.frN fr2
    have F2 : FrNH m h h2 := FrNH.ofN (fr1.trans fr2)
    rw [show f_X7_tells n h m 9 0 0 5 = some (1, h1) from e1, Option.bind_some, if_neg (show ¬ (1 : Int32) = 0 by decide), a1.ob, Option.bind_some, y1']
    rcases alt2 with ⟨e2, x2, y2⟩ | ⟨e2, -, y2, a2⟩
    · rw [show f_X7_number n h1 m 1 0 7 = some (0, h2) from e2, Option.bind_some, if_pos rfl]
      refine ⟨h2, 0, rfl, ?_⟩
      dsimp only
      rw [y2 7 rfl]
      exact MRS.no F2 x2 q2
    · have y2' : pNum t (nxt t (nxt t τ.2.2).2.2) 0 7 = some (numV t (nxt t (nxt t τ.2.2).2.2), nxt t (nxt t (nxt t τ.2.2).2.2).2.2) := y2
      have v2 := pNum_lt y2'
      have t0 : x_ld h2 (m + 33) 0 = some (nI (numV t (nxt t τ.2.2))) := by
        have := a2.told (i := 0) (by decide)
        rw [pk_un (by decide), pk_us] at this
        exact this
      have t1 : x_ld h2 (m + 33) 1 = some (nI (numV t (nxt t (nxt t τ.2.2).2.2))) := by
        have := a2.told (i := 1) (by decide)
        rw [pk_us] at this
        exact this
      rw [show f_X7_number n h1 m 1 0 7 = some (1, h2) from e2, Option.bind_some, if_neg (show ¬ (1 : Int32) = 0 by decide), a2.rt, Option.bind_some, t0, Option.bind_some, a2.tok, Option.bind_some]
      generalize hk : numV t (nxt t τ.2.2) = k at *
      generalize hT2 : nxt t (nxt t τ.2.2).2.2 = τ2 at *
      generalize hc : numV t τ2 = c at *
      generalize hT3 : nxt t τ2.2.2 = τ3 at *
      have G : ∀ hne : k = 1 ∨ ¬ (τ3.1 = 2 ∧ fig t τ3 = c), ∃ h' r, f_X7_doorTold_J61 n h2 m = some (r, h') ∧ MRS h h' m t fb s r (pDoor2 t H k c τ3) := by
        intro hne
        obtain ⟨h5, r, e5, y1, y2⟩ := m_door61 (n := n) a2 b ok3 q2 hH h14 (k := k) (c := c) (by omega) (by omega) (by rw [pk_un (by decide), pk_us]) pk_us hne hn
        exact ⟨h5, r, e5, F2.trans y1, y2⟩
      dsimp only
      rw [y2']
      show ∃ h' r, _ ∧ MRS h h' m t fb s r (pDoor2 t H k c τ3)
      by_cases k1 : k = 1
      · rw [if_pos (show nI k = 1 by rw [k1]; rfl)]
        exact G (Or.inl k1)
      · rw [if_neg (show ¬ nI k = 1 from fun z => k1 ((nI_eqc (by omega) (by decide)).mp (show nI k = nI 1 from z)))]
        by_cases c2 : τ3.1 = 2
        · have ff := fig_le ok3
          rw [if_pos (show nI τ3.1 = 2 by rw [c2]; rfl), a2.fg, Option.bind_some, Option.bind_some, t1, Option.bind_some]
          by_cases c3 : fig t τ3 = c
          · rw [if_pos (by rw [c3])]
            obtain ⟨h3, e3, x3, fr3⟩ := m_wrong a2
            rw [a2.ob, Option.bind_some, e3, Option.bind_some]
            refine ⟨h3, 0, rfl, ?_⟩
            have : pDoor2 t H k c τ3 = .inl τ3.2.1 := by
              unfold pDoor2
              cases e : pNum t τ3 0 7 with
              | none => rfl
              | some p =>
                obtain ⟨w, τ4⟩ := p
                show (if k ≠ 1 ∧ w = c then (Sum.inl τ3.2.1 : RS) else _) = _
                rw [if_pos ⟨k1, by rw [← fig_num e, c3]⟩]
            rw [this]
            exact MRS.no (F2.trans (FrNH.ofN fr3)) x3 (q2.frN fr3)
          · rw [if_neg (fun z => c3 ((nI_eq (by omega) (by omega)).mp z))]
            exact G (Or.inr (fun z => c3 z.2))
        · rw [if_neg (show ¬ nI τ3.1 = 2 from fun z => c2 ((nI_eqc (by have := ok3.1; omega) (by decide)).mp (show nI _ = nI 2 from z)))]
          exact G (Or.inr (fun z => c2 z.1))
theorem isW_ne {x y : Nat} (hx : isW t τ x = true) (hd : (wd x).length ≠ (wd y).length ∨ (0 < (wd x).length ∧ 0 < (wd y).length ∧ (wd x).getD 0 0 ≠ (wd y).getD 0 0)) : isW t τ y = false := by
  cases hy : isW t τ y with
  | false => rfl
  | true =>
    exfalso
    unfold isW at hx hy
    rw [Bool.and_eq_true, Bool.and_eq_true, decide_eq_true_eq, decide_eq_true_eq, Bool.not_eq_true', ← Bool.not_eq_true, anB_iff] at hx hy
    rcases hd with z | ⟨z1, z2, z3⟩
    · exact z (hx.1.2.symm.trans hy.1.2)
    · have e1 : t.2 (τ.2.1 + 0) = (wd x).getD 0 0 := Classical.byContradiction fun w => hx.2 ⟨0, z1, by rw [decide_eq_false w]; rfl⟩
      have e2 : t.2 (τ.2.1 + 0) = (wd y).getD 0 0 := Classical.byContradiction fun w => hy.2 ⟨0, z2, by rw [decide_eq_false w]; rfl⟩
      exact z3 (e1.symm.trans e2)
theorem m_tellsNo (a : MTk h m t fb ft s τ) (b : TB t fb) (ok : TkOk t τ) {w : Nat} (h3 : 3 ≤ w) (h15 : w < 15) (hw : isW t τ w = false) {p1 p2 p3 : Int32} (hn : 300 ≤ n) : ∃ h', f_X7_tells n h m w p1 p2 p3 = some (0, h') ∧ MFail h' m t fb τ.2.1 ∧ FrN m h h' := by
  obtain ⟨h1, e1, x1, f1⟩ := m_wrong a
  refine ⟨h1, ?_, x1, f1⟩
  unfold f_X7_tells
  rw [a.ob, Option.bind_some, m_isWord a b ok h3 h15 (by omega), Option.bind_some, hw, if_pos (show bI false = 0 from rfl), Option.bind_some, e1, Option.bind_some]
  rfl
theorem hP_1 (h4 : hP H ≤ 4) : (nI (hP H) - 1).toInt = (hP H : Int) - 1 := by
  generalize hP H = p at *
  have : p = 0 ∨ p = 1 ∨ p = 2 ∨ p = 3 ∨ p = 4 := by omega
  rcases this with rfl | rfl | rfl | rfl | rfl <;> decide
theorem m_stm68 (a : MTk h m t fb ft s τ) (b : TB t fb) (ok : TkOk t τ) (q : MH h m H) (hH : HOk H) (hn : 300 ≤ n) : ∃ h' r, f_X7_statement_J68 n h m = some (r, h') ∧ MRS h h' m t fb s r (if isW t τ 5 then pLaw t H (nxt t τ.2.2) else if isW t τ 6 then pWind t H (nxt t τ.2.2) else if isW t τ 7 then pMoves t H (nxt t τ.2.2) else .inl τ.2.1) := by
  have w11 : f_X7_isWord n h m 11 = some (bI (isW t τ 5)) := m_isWord a b ok (w := 11) (by decide) (by decide) (by omega)
  have w12 : f_X7_isWord n h m 12 = some (bI (isW t τ 6)) := m_isWord a b ok (w := 12) (by decide) (by decide) (by omega)
  have ok1 := nxt_ok t ok.2.2.1
  have ok2 := nxt_ok t ok1.2.2.1
  unfold f_X7_statement_J68
  rw [a.ob, Option.bind_some, w11, Option.bind_some, Option.bind_some, w12, Option.bind_some]
  cases h5 : isW t τ 5 with
  | true =>
    rw [if_neg (show ¬ bI true = 0 by decide), if_pos rfl]
    obtain ⟨h1, fr1, alt⟩ := m_tells (n := n) a b ok (w := 11) (i := 0) (lo := 1) (by decide) (by decide) h5 (by decide) (p3 := 4) (c := 4) (by decide) (by decide) (by decide) hn
    have q1 := q.frN fr1
    unfold pLaw
    rcases alt with ⟨e1, x1, y1⟩ | ⟨e1, -, y1, a1⟩
    · obtain ⟨h2, e2, q2, fr2⟩ := q1.putL (hL H)
      rw [Option.bind_some, show f_X7_tells n h m 11 0 1 4 = some (0, h1) from e1, Option.bind_some, if_pos rfl, q1.L, Option.bind_some, e2, Option.bind_some, y1 4 rfl]
      exact ⟨h2, 0, rfl, MRS.no ((FrNH.ofN fr1).trans (FrNH.ofH fr2)) (x1.frH fr2) q2⟩
    · have y2 : pNum t (nxt t τ.2.2) 1 4 = some (numV t (nxt t τ.2.2), nxt t (nxt t τ.2.2).2.2) := y1
      obtain ⟨h2, e2, q2, fr2⟩ := q1.putL (nI (numV t (nxt t τ.2.2)))
      have t0 : x_ld h1 (m + 33) 0 = some (nI (numV t (nxt t τ.2.2))) := by
        have := a1.told (i := 0) (by decide)
        rw [pk_us] at this
        exact this
      rw [Option.bind_some, show f_X7_tells n h m 11 0 1 4 = some (1, h1) from e1, Option.bind_some, if_neg (show ¬ (1 : Int32) = 0 by decide), a1.rt, Option.bind_some, t0, Option.bind_some, e2, Option.bind_some, y2]
      exact ⟨h2, 1, rfl, MRS.yes ((FrNH.ofN fr1).trans (FrNH.ofH fr2)) q2 (a1.frH fr2)⟩
  | false =>
    rw [if_pos (show bI false = 0 from rfl), if_neg (show ¬ false = true by decide)]
    cases h6 : isW t τ 6 with
    | true =>
      rw [if_neg (show ¬ bI true = 0 by decide), if_pos rfl]
      obtain ⟨h1, fr1, alt⟩ := m_tells (n := n) a b ok (w := 12) (i := 0) (lo := 0) (by decide) (by decide) h6 (by decide) (p3 := 99) (c := 99) (by decide) (by decide) (by decide) hn
      have q1 := q.frN fr1
      unfold pWind
      rcases alt with ⟨e1, x1, y1⟩ | ⟨e1, -, y1, a1⟩
      · obtain ⟨h2, e2, q2, fr2⟩ := q1.putW (hW H)
        rw [Option.bind_some, show f_X7_tells n h m 12 0 0 99 = some (0, h1) from e1, Option.bind_some, if_pos rfl, q1.W, Option.bind_some, e2, Option.bind_some, y1 99 rfl]
        exact ⟨h2, 0, rfl, MRS.no ((FrNH.ofN fr1).trans (FrNH.ofH fr2)) (x1.frH fr2) q2⟩
      · have y2 : pNum t (nxt t τ.2.2) 0 99 = some (numV t (nxt t τ.2.2), nxt t (nxt t τ.2.2).2.2) := y1
        obtain ⟨h2, e2, q2, fr2⟩ := q1.putW (nI (numV t (nxt t τ.2.2)))
        have t0 : x_ld h1 (m + 33) 0 = some (nI (numV t (nxt t τ.2.2))) := by
          have := a1.told (i := 0) (by decide)
          rw [pk_us] at this
          exact this
        rw [Option.bind_some, show f_X7_tells n h m 12 0 0 99 = some (1, h1) from e1, Option.bind_some, if_neg (show ¬ (1 : Int32) = 0 by decide), a1.rt, Option.bind_some, t0, Option.bind_some, e2, Option.bind_some, y2]
        exact ⟨h2, 1, rfl, MRS.yes ((FrNH.ofN fr1).trans (FrNH.ofH fr2)) q2 (a1.frH fr2)⟩
    | false =>
      have h4 := hH.2.1
      rw [if_pos (show bI false = 0 from rfl), if_neg (show ¬ false = true by decide), q.P, Option.bind_some, Option.bind_some]
      cases h7 : isW t τ 7 with
      | false =>
        obtain ⟨h1, e1, x1, fr1⟩ := m_tellsNo (n := n) (p1 := 0) (p2 := 0) (p3 := nI (hP H) - 1) a b ok (w := 13) (by decide) (by decide) h7 hn
        rw [e1, Option.bind_some, if_pos rfl, if_neg (show ¬ false = true by decide)]
        exact ⟨h1, 0, rfl, MRS.no (FrNH.ofN fr1) x1 (q.frN fr1)⟩
      | true =>
        obtain ⟨h1, fr1, alt⟩ := m_tells (n := n) a b ok (w := 13) (i := 0) (lo := 0) (by decide) (by decide) h7 (by decide) (p3 := nI (hP H) - 1) (c := (hP H : Int) - 1) (hP_1 h4) (by omega) (by decide) hn
        have q1 := q.frN fr1
        rw [if_pos rfl]
        unfold pMoves
        rcases alt with ⟨e1, x1, y1⟩ | ⟨e1, hc0, y1, a1⟩
        · rw [show f_X7_tells n h m 13 0 0 (nI (hP H) - 1) = some (0, h1) from e1, Option.bind_some, if_pos rfl]
          refine ⟨h1, 0, rfl, ?_⟩
          by_cases p0 : hP H = 0
          · rw [if_pos p0]
            exact MRS.no (FrNH.ofN fr1) x1 q1
          · rw [if_neg p0, y1 (hP H - 1) (by omega)]
            exact MRS.no (FrNH.ofN fr1) x1 q1
        · have p0 : ¬ hP H = 0 := by omega
          have y2 : pNum t (nxt t τ.2.2) 0 (hP H - 1) = some (numV t (nxt t τ.2.2), nxt t (nxt t τ.2.2).2.2) := by
            rw [← y1, show ((hP H : Int) - 1).toNat = hP H - 1 by omega]
          have v1 := pNum_lt y2
          obtain ⟨h2, fr2, alt2⟩ := m_number (n := n) a1 b ok2 (i := 1) (lo := 0) (by decide) (p3 := 7) (c := 7) (by decide) (by decide) (by decide) hn
          have q2 := q1.frN fr2
          have F2 : FrNH m h h2 := FrNH.ofN (fr1.trans fr2)
          rw [show f_X7_tells n h m 13 0 0 (nI (hP H) - 1) = some (1, h1) from e1, Option.bind_some, if_neg (show ¬ (1 : Int32) = 0 by decide), a1.ob, Option.bind_some, if_neg p0, y2]
          rcases alt2 with ⟨e2, x2, z2⟩ | ⟨e2, -, z2, a2⟩
          · rw [show f_X7_number n h1 m 1 0 7 = some (0, h2) from e2, Option.bind_some, if_pos rfl]
            refine ⟨h2, 0, rfl, ?_⟩
            dsimp only
            rw [z2 7 rfl]
            exact MRS.no F2 x2 q2
          · have z3 : pNum t (nxt t (nxt t τ.2.2).2.2) 0 7 = some (numV t (nxt t (nxt t τ.2.2).2.2), nxt t (nxt t (nxt t τ.2.2).2.2).2.2) := z2
            have t0 : x_ld h2 (m + 33) 0 = some (nI (numV t (nxt t τ.2.2))) := by
              have := a2.told (i := 0) (by decide)
              rw [pk_un (by decide), pk_us] at this
              exact this
            have t1 : x_ld h2 (m + 33) 1 = some (nI (numV t (nxt t (nxt t τ.2.2).2.2))) := by
              have := a2.told (i := 1) (by decide)
              rw [pk_us] at this
              exact this
            obtain ⟨h3, e3, q3, fr3⟩ := q2.stR h4 (p := numV t (nxt t τ.2.2)) (by omega) (nI (numV t (nxt t (nxt t τ.2.2).2.2)))
            rw [show f_X7_number n h1 m 1 0 7 = some (1, h2) from e2, Option.bind_some, if_neg (show ¬ (1 : Int32) = 0 by decide), q2.rr, Option.bind_some, a2.rt, Option.bind_some, t0, Option.bind_some, Option.bind_some, t1, Option.bind_some, e3, Option.bind_some]
            refine ⟨h3, 1, rfl, ?_⟩
            dsimp only
            rw [z3]
            exact MRS.yes (F2.trans (FrNH.ofH fr3)) q3 (a2.frH fr3)
theorem m_stm (a : MTk h m t fb ft s τ) (b : TB t fb) (ok : TkOk t τ) (q : MH h m H) (hH : HOk H) (hn : 300 ≤ n) : ∃ h' r, f_X7_statement n h m = some (r, h') ∧ MRS h h' m t fb s r (pStm t H τ) := by
  have w9 : f_X7_isWord n h m 9 = some (bI (isW t τ 3)) := m_isWord a b ok (w := 9) (by decide) (by decide) (by omega)
  have w10 : f_X7_isWord n h m 10 = some (bI (isW t τ 4)) := m_isWord a b ok (w := 10) (by decide) (by decide) (by omega)
  have h14 := hH.1
  have h4 := hH.2.1
  have J68 := m_stm68 a b ok q hH hn
  unfold f_X7_statement pStm
  rw [a.ob, Option.bind_some, w9, Option.bind_some]
  have J23n : isW t τ 4 = false → ∃ h' r, f_X7_statement_J23 n h m = some (r, h') ∧ MRS h h' m t fb s r (if isW t τ 5 then pLaw t H (nxt t τ.2.2) else if isW t τ 6 then pWind t H (nxt t τ.2.2) else if isW t τ 7 then pMoves t H (nxt t τ.2.2) else .inl τ.2.1) := by
    intro z
    unfold f_X7_statement_J23
    rw [a.ob, Option.bind_some, w10, Option.bind_some, z, if_pos (show bI false = 0 from rfl)]
    exact J68
  cases h3 : isW t τ 3 with
  | true =>
    rw [if_neg (show ¬ bI true = 0 by decide), if_pos rfl, q.D, Option.bind_some]
    by_cases cD : hD H < 14
    · rw [if_neg (show ¬ (14 : Int32) ≤ nI (hD H) from nI_ge (b := 14) cD (by decide)), if_pos cD, Option.bind_some]
      obtain ⟨h1, r, e1, x⟩ := m_doorTold a b ok h3 q hH cD hn
      refine ⟨h1, r, ?_, x⟩
      exact num_bool e1 (by
        obtain ⟨-, x⟩ := x
        cases e : pDoor t H (nxt t τ.2.2) with
        | inl f => rw [e] at x; exact Or.inl x.1
        | inr p => rw [e] at x; exact Or.inr x.1)
    · rw [if_pos (show (14 : Int32) ≤ nI (hD H) from nI_le (a := 14) (by omega) (by omega)), if_neg cD]
      have k4 : isW t τ 4 = false := isW_ne h3 (by decide)
      have k5 : isW t τ 5 = false := isW_ne h3 (by decide)
      have k6 : isW t τ 6 = false := isW_ne h3 (by decide)
      have k7 : isW t τ 7 = false := isW_ne h3 (by decide)
      have := J23n k4
      rw [k5, k6, k7] at this
      exact this
  | false =>
    rw [if_pos (show bI false = 0 from rfl), if_neg (show ¬ false = true by decide)]
    cases h4w : isW t τ 4 with
    | false =>
      rw [if_neg (show ¬ false = true by decide)]
      exact J23n h4w
    | true =>
      rw [if_pos rfl]
      unfold f_X7_statement_J23
      rw [a.ob, Option.bind_some, w10, Option.bind_some, h4w, if_neg (show ¬ bI true = 0 by decide), q.P, Option.bind_some]
      by_cases cP : hP H < 4
      · rw [if_neg (show ¬ (4 : Int32) ≤ nI (hP H) from nI_ge (b := 4) cP (by decide)), if_pos cP, Option.bind_some]
        obtain ⟨h1, fr1, alt⟩ := m_tells (n := n) a b ok (w := 10) (i := 0) (lo := 0) (by decide) (by decide) h4w (by decide) (p3 := 7) (c := 7) (by decide) (by decide) (by decide) hn
        have q1 := q.frN fr1
        unfold pOne
        rcases alt with ⟨e1, x1, y1⟩ | ⟨e1, -, y1, a1⟩
        · rw [show f_X7_tells n h m 10 0 0 7 = some (0, h1) from e1, Option.bind_some, if_pos rfl, y1 7 rfl]
          exact ⟨h1, 0, rfl, MRS.no (FrNH.ofN fr1) x1 q1⟩
        · have y2 : pNum t (nxt t τ.2.2) 0 7 = some (numV t (nxt t τ.2.2), nxt t (nxt t τ.2.2).2.2) := y1
          have v1 := pNum_lt y2
          obtain ⟨h2, e2, q2, fr2⟩ := m_addP q1 cP (r := numV t (nxt t τ.2.2)) (by omega)
          have t0 : x_ld h1 (m + 33) 0 = some (nI (numV t (nxt t τ.2.2))) := by
            have := a1.told (i := 0) (by decide)
            rw [pk_us] at this
            exact this
          rw [show f_X7_tells n h m 10 0 0 7 = some (1, h1) from e1, Option.bind_some, if_neg (show ¬ (1 : Int32) = 0 by decide), a1.rt, Option.bind_some, t0, Option.bind_some, a1.ob, Option.bind_some, e2, Option.bind_some, y2]
          exact ⟨h2, 1, rfl, MRS.yes ((FrNH.ofN fr1).trans (FrNH.ofH fr2)) q2 (a1.frH fr2)⟩
      · rw [if_pos (show (4 : Int32) ≤ nI (hP H) from nI_le (a := 4) (by omega) (by omega)), if_neg cP]
        have k5 : isW t τ 5 = false := isW_ne h4w (by decide)
        have k6 : isW t τ 6 = false := isW_ne h4w (by decide)
        have k7 : isW t τ 7 = false := isW_ne h4w (by decide)
        rw [k5, k6, k7] at J68
        exact J68
/-- what reading leaves -/
def MRd (h h' : xH) (m : Nat) (t : TP) (fb : Nat → Int32) (r : Int32) (R : Sum Nat (Nat × HS)) : Prop := FrNH m h h' ∧ match R with
  | .inl f => r = 0 ∧ MFail h' m t fb f ∧ ∃ H', MH h' m H'
  | .inr (c, H') => r = 1 ∧ MH h' m H' ∧ ∃ v ft, MT h' m v fb ft ∧ v 7 = nI t.1 ∧ v 26 = nI c
def rdB (t : TP) (k c : Nat) (H : HS) (τ : TK) : Sum Nat (Nat × HS) := if τ.1 = 0 then .inr (c, H) else if τ.1 = 3 then rdA t k (c + 1) H (nxt t τ.2.2) else .inl τ.2.1
theorem MTk.put26 {c : Nat} (a : MTk h m t fb ft (nI c) τ) : ∃ h', ((x_gI h m 7 26).bind fun x => x_put h m 7 26 (.int (x + 1))) = some h' ∧ MTk h' m t fb ft (nI (c + 1)) τ ∧ FrN m h h' := by
  obtain ⟨v, a1, a2, a3, a4, a5, a6, a7⟩ := a
  obtain ⟨h1, e1, b1, f1⟩ := a1.put (k := 26) (by omega) (nI (c + 1))
  refine ⟨h1, by rw [a1.g (k := 26) (by omega), Option.bind_some, a7, nI_1, e1], ⟨_, b1, ?_, ?_, ?_, ?_, ?_, pk_us⟩, f1⟩ <;> rw [pk_un (by decide)] <;> assumption
theorem m_L23 (b : TB t fb) (hn : 300 ≤ n) : ∀ (k N c : Nat) (h : xH) (H : HS) (τ : TK) (ft : Nat → Int32), MTk h m t fb ft (nI c) τ → TkOk t τ → (τ.1 ≠ 0 → τ.2.1 < τ.2.2) → MH h m H → HOk H → 1 ≤ c → 2 * (c - 1) + 1 ≤ τ.2.1 → k + c = 299 → k < N → ∃ h' r, (f_X7_readAll_L23 n m N h).bind (fun q21 => match q21 with | .inl r22 => some r22 | .inr e23 => some ((1 : Int32), e23)) = some (r, h') ∧ MRd h h' m t fb r (rdB t k c H τ)
  | 0, _, c, h, H, τ, ft, a, ok, _, q, hH, hc, hp, hk, hN => by
    have := b.1.1
    have := ok.2.1
    have := ok.2.2.1
    omega
  | k + 1, 0, _, _, _, _, _, _, _, _, _, _, _, _, _, hN => absurd hN (Nat.not_lt_zero _)
  | k + 1, N + 1, c, h, H, τ, ft, a, ok, ht, q, hH, hc, hp, hk, hN => by
    have h250 := b.1.1
    have o3 := ok.2.2.1
    have o1 := ok.1
    rw [f_X7_readAll_L23, a.tok, Option.bind_some]
    unfold rdB
    by_cases c0 : τ.1 = 0
    · rw [if_pos (show nI τ.1 = 0 by rw [c0]; rfl), if_pos c0]
      obtain ⟨v, a1, a2, a3, a4, a5, a6, a7⟩ := a
      exact ⟨h, 1, rfl, FrNH.refl, rfl, q, v, ft, a1, a2, a7⟩
    · rw [if_neg (show ¬ nI τ.1 = 0 from nI_ne0 (by omega) (by omega)), if_neg c0, Option.bind_some]
      by_cases c3 : τ.1 = 3
      · rw [if_pos (show nI τ.1 = 3 by rw [c3]; rfl), if_pos c3, a.ob, Option.bind_some]
        obtain ⟨h1, e1, a1, f1⟩ := a.next b o3 hn
        have ok1 := nxt_ok t o3
        have q1 := q.frN f1
        obtain ⟨h2, r, e2, fr2, x⟩ := m_stm a1 b ok1 q1 hH hn
        rw [e1, Option.bind_some, a1.ob, Option.bind_some, e2, Option.bind_some]
        have F2 : FrNH m h h2 := (FrNH.ofN f1).trans fr2
        show ∃ h' r, _ ∧ MRd h h' m t fb r (match pStm t H (nxt t τ.2.2) with | .inl f => .inl f | .inr (H', τ') => rdB t k (c + 1) H' τ')
        cases es : pStm t H (nxt t τ.2.2) with
        | inl f =>
          rw [es] at x
          obtain ⟨x1, x2, H', x3⟩ := x
          rw [if_pos (show (r, h2).1 = 0 from x1)]
          exact ⟨h2, 0, rfl, F2, rfl, x2, H', x3⟩
        | inr p =>
          obtain ⟨H', τ'⟩ := p
          rw [es] at x
          obtain ⟨x1, x2, ft', x3⟩ := x
          obtain ⟨okH, e', g1, g2, g3⟩ := pStm_ok ok1 hH es
          have ok' : TkOk t τ' := by rw [g3]; exact nxt_ok t g2
          have nin := nxt_in t g2
          rw [← g3] at nin
          have nin0 := nxt_in t o3
          obtain ⟨h3, e3, a3, f3⟩ := x3.put26
          have e3' : ((x_gI h2 m 7 26).bind fun x13 => (x_put h2 m 7 26 (.int (x13 + (1 : Int32)))).bind fun h14 => f_X7_readAll_L23 n m N h14) = f_X7_readAll_L23 n m N h3 := by
            cases eg : x_gI h2 m 7 26 with
            | none => rw [eg] at e3; cases e3
            | some y => rw [eg, Option.bind_some] at e3; rw [Option.bind_some, e3, Option.bind_some]
          rw [if_neg (show ¬ (r, h2).1 = 0 from fun z => by rw [show r = 1 from x1] at z; exact absurd (show (1 : Int32) = 0 from z) (by decide)), e3']
          obtain ⟨h5, r5, e5, y1, y2⟩ := m_L23 b hn k N (c + 1) h3 H' τ' ft' a3 ok' nin.2.2.2.1 (x2.frN f3) okH (by omega) (by have := ht c0; omega) (by omega) (by omega)
          exact ⟨h5, r5, e5, (F2.trans (FrNH.ofN f3)).trans y1, y2⟩
      · rw [if_neg (show ¬ nI τ.1 = 3 from fun z => c3 ((nI_eqc (by omega) (by decide)).mp (show nI _ = nI 3 from z))), if_neg c3, a.ob, Option.bind_some]
        obtain ⟨h1, e1, x1, f1⟩ := m_wrong a
        rw [e1, Option.bind_some]
        exact ⟨h1, 0, rfl, FrNH.ofN f1, rfl, x1, H, q.frN f1⟩
/-- readAll -/
theorem m_readAll (a : MT h m v fb ft) (b : TB t fb) (v7 : v 7 = nI t.1) (q : MH h m H) (hH : HOk H) (hn : 400 ≤ n) : ∃ h' r, f_X7_readAll n h m = some (r, h') ∧ MRd h h' m t fb r (rdA t 299 1 H (nxt t 0)) := by
  obtain ⟨h1, e1, a1, f1⟩ := a.put (k := 26) (by omega) 1
  obtain ⟨h2, e2, a2, f2⟩ := a1.put (k := 20) (by omega) 0
  obtain ⟨h3, e3, a3, f3⟩ := m_look (n := n) (e := 0) a2 b (by rw [pk_un (by decide), pk_un (by decide), v7]) pk_us (Nat.zero_le _) (by omega)
  rw [show upd (upd v 26 1) 20 0 26 = nI 1 by rw [pk_un (by decide), pk_us]; rfl] at a3
  have ok3 := nxt_ok t (Nat.zero_le t.1)
  have q3 := ((q.frN f1).frN f2).frN f3
  obtain ⟨h4, r, e4, fr4, x⟩ := m_stm (n := n) a3 b ok3 q3 hH (by omega)
  have F4 : FrNH m h h4 := (FrNH.ofN ((f1.trans f2).trans f3)).trans fr4
  unfold f_X7_readAll
  rw [e1, Option.bind_some, e2, Option.bind_some, a2.ob, Option.bind_some, e3, Option.bind_some, a3.ob, Option.bind_some, e4, Option.bind_some]
  show ∃ h' r, _ ∧ MRd h h' m t fb r (match pStm t H (nxt t 0) with | .inl f => .inl f | .inr (H', τ') => rdB t 298 1 H' τ')
  cases es : pStm t H (nxt t 0) with
  | inl f =>
    rw [es] at x
    obtain ⟨x1, x2, H', x3⟩ := x
    rw [if_pos (show (r, h4).1 = 0 from x1)]
    exact ⟨h4, 0, rfl, F4, rfl, x2, H', x3⟩
  | inr p =>
    obtain ⟨H', τ'⟩ := p
    rw [es] at x
    obtain ⟨x1, x2, ft', x3⟩ := x
    obtain ⟨okH, e', g1, g2, g3⟩ := pStm_ok ok3 hH es
    have ok' : TkOk t τ' := by rw [g3]; exact nxt_ok t g2
    have nin := nxt_in t g2
    rw [← g3] at nin
    rw [if_neg (show ¬ (r, h4).1 = 0 from fun z => by rw [show r = 1 from x1] at z; exact absurd (show (1 : Int32) = 0 from z) (by decide))]
    obtain ⟨h5, r5, e5, y1, y2⟩ := m_L23 (n := n) b (by omega) 298 n 1 h4 H' τ' ft' x3 ok' nin.2.2.2.1 x2 okH (by omega) (by omega) (by omega) (by omega)
    exact ⟨h5, r5, e5, F4.trans y1, y2⟩
end MSt
