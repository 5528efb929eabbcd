/-! The reference's reader: numbers, statements, all. -/
def MFail (h : xH) (m : Nat) (t : TP) (fb : Nat → Int32) (f : Nat) : Prop := ∃ v ft, MT h m v fb ft ∧ v 7 = nI t.1 ∧ v 24 = nI f
def FrNH (m : Nat) (h h' : xH) : Prop := Fr (fun a k => a = m ∧ ((9 ≤ k ∧ k < 18) ∨ k = 7 ∨ (20 ≤ k ∧ k < 25) ∨ k = 26)) (fun a => m + 17 ≤ a ∧ a < m + 34) h h'
section MTs
variable {h h' : xH} {m n : Nat} {v fb ft : Nat → Int32} {t : TP} {τ : TK} {H : HS} {s : Int32}
theorem FrNH.trans {h1 h2 : xH} (x : FrNH m h h1) (y : FrNH m h1 h2) : FrNH m h h2 := Fr.trans x y
theorem FrNH.refl : FrNH m h h := Fr.rfl
theorem FrNH.ofN (f : FrN m h h') : FrNH m h h' := Fr.mono f (fun _ _ z => ⟨z.1, by omega⟩) (fun _ z => by omega)
theorem FrNH.ofH (f : FrH m h h') : FrNH m h h' := Fr.mono f (fun _ _ z => ⟨z.1, by omega⟩) (fun _ z => by omega)
theorem MH.frN (q : MH h m H) (f : FrN m h h') : MH h' m H := q.fr f (fun k h1 h2 z => by omega) (fun a h1 h2 z => by omega)
theorem MTk.frH (a : MTk h m t fb ft s τ) (f : FrH m h h') : MTk h' m t fb ft s τ := by
  obtain ⟨v, ⟨a1, a2, a3, a4, a5⟩, x⟩ := a
  exact ⟨v, ⟨f.1 _ _ _ _ (fun z => by omega) a1, f.1 _ _ _ _ (fun z => by omega) a2, fun k hk => f.1 _ _ _ _ (fun z => by omega) (a3 k hk), f.2 _ _ (fun z => by omega) a4, f.2 _ _ (fun z => by omega) a5⟩, x⟩
theorem fgN_v (t : TP) (s : Nat) : ∀ i, i ≤ 2 → fgN t s i = vnN t s i
  | 0, _ => rfl
  | 1, _ => rfl
  | 2, _ => rfl
  | i + 3, h => by omega
theorem fgN_big (t : TP) (s : Nat) {i : Nat} (h : 3 ≤ i) : fgN t s i = 100000 := by
  obtain ⟨j, rfl⟩ : ∃ j, i = j + 3 := ⟨i - 3, by omega⟩
  show (if j + 2 < 2 then _ else 100000) = _
  rw [if_neg (by omega)]
theorem m_wrong (a : MTk h m t fb ft s τ) : ∃ h', f_X7_wrong h m = some (0, h') ∧ MFail h' m t fb τ.2.1 ∧ FrN m h h' := by
  obtain ⟨v, a1, a2, a3, a4, a5, a6, a7⟩ := id a
  obtain ⟨h1, e1, b1, f1⟩ := a1.put (k := 24) (by omega) (nI τ.2.1)
  refine ⟨h1, ?_, ⟨_, ft, b1, by rw [pk_un (by decide), a2], pk_us⟩, f1⟩
  unfold f_X7_wrong
  rw [a.st, Option.bind_some, e1, Option.bind_some]
theorem m_number (a : MTk h m t fb ft s τ) (b : TB t fb) (ok : TkOk t τ) {i lo : Nat} (hi3 : i < 3) {p3 : Int32} {c : Int} (hc : p3.toInt = c) (hc99 : c ≤ 99) (hlo : lo ≤ 99) (hn : 300 ≤ n) :
    ∃ h', FrN m h h' ∧ ((f_X7_number n h m (nI i) (nI lo) p3 = some (0, h') ∧ MFail h' m t fb τ.2.1 ∧ ∀ hi : Nat, c = hi → pNum t τ lo hi = none) ∨ (f_X7_number n h m (nI i) (nI lo) p3 = some (1, h') ∧ 0 ≤ c ∧ pNum t τ lo c.toNat = some (numV t τ, nxt t τ.2.2) ∧ MTk h' m t fb (upd ft i (nI (numV t τ))) s (nxt t τ.2.2))) := by
  have h250 := b.1.1
  obtain ⟨o1, o2, o3, o4⟩ := id ok
  obtain ⟨hw, ew, fw, frw⟩ := m_wrong a
  have wr : ((x_ob h m 7).bind fun _ => (f_X7_wrong h m).bind fun q5 => (x_bool q5.1).bind fun x6 => some (x6, q5.2)) = some ((0 : Int32), hw) := by
    rw [a.ob, Option.bind_some, ew, Option.bind_some]
    rfl
  unfold f_X7_number
  rw [a.tok, Option.bind_some]
  by_cases c1 : τ.1 = 2
  · have fe : fig t τ = fgN t τ.2.1 (τ.2.2 - τ.2.1) := by unfold fig; rw [if_pos c1]
    have fl : fig t τ ≤ 100000 := by
      rw [fe]
      by_cases c2 : τ.2.2 - τ.2.1 ≤ 2
      · rw [fgN_v _ _ _ c2]
        have := numV_le ok c1 c2
        unfold numV at this
        omega
      · rw [fgN_big _ _ (by omega)]; exact Nat.le_refl _
    have ein : f_X7_in h (nI (fig t τ)).toInt64 (nI lo).toInt64 p3.toInt64 = some (bI (decide ((lo : Int) ≤ (fig t τ : Int)) && decide ((fig t τ : Int) ≤ c))) := by
      rw [m_in (a := (lo : Int)) (c := c) (by rw [Int32.toInt_toInt64, nI_toInt (by omega)]) (by rw [Int32.toInt_toInt64, hc]), nI_toInt (by omega)]
    rw [if_pos (show nI τ.1 = 2 by rw [c1]; rfl), a.fg, Option.bind_some, ein, Option.bind_some]
    by_cases cc : (lo : Int) ≤ (fig t τ : Int) ∧ (fig t τ : Int) ≤ c
    · rw [decide_eq_true cc.1, decide_eq_true cc.2, if_neg (show ¬ bI (true && true) = 0 by decide), a.rt, Option.bind_some, Option.bind_some]
      have c2 : τ.2.2 - τ.2.1 ≤ 2 := by
        apply Classical.byContradiction
        intro z
        rw [fe, fgN_big _ _ (by omega)] at cc
        omega
      have fv : fig t τ = numV t τ := by rw [fe, fgN_v _ _ _ c2]; rfl
      rw [fv] at cc ⊢
      obtain ⟨v, a1, a2, a3, a4, a5, a6, a7⟩ := id a
      obtain ⟨h1, e1, b1, f1⟩ := a1.st hi3 (nI (numV t τ))
      have k1 : MTk h1 m t fb (upd ft i (nI (numV t τ))) s τ := ⟨v, b1, a2, a3, a4, a5, a6, a7⟩
      obtain ⟨h2, e2, k2, f2⟩ := k1.next b o3 hn
      refine ⟨h2, f1.trans f2, Or.inr ⟨by rw [e1, Option.bind_some, k1.ob, Option.bind_some, e2, Option.bind_some], by omega, ?_, k2⟩⟩
      unfold pNum
      rw [if_pos ⟨c1, c2, by omega, by omega⟩]
    · have : (decide ((lo : Int) ≤ (fig t τ : Int)) && decide ((fig t τ : Int) ≤ c)) = false := by
        rw [Bool.eq_false_iff]
        intro z
        rw [Bool.and_eq_true, decide_eq_true_eq, decide_eq_true_eq] at z
        exact cc z
      rw [this, if_pos (show bI false = 0 from rfl)]
      refine ⟨hw, frw, Or.inl ⟨wr, fw, fun hi eh => ?_⟩⟩
      unfold pNum
      rw [if_neg]
      rintro ⟨z1, z2, z3, z4⟩
      apply cc
      rw [fe, fgN_v _ _ _ z2]
      unfold numV at z3 z4
      omega
  · rw [if_neg (show ¬ nI τ.1 = 2 from fun z => c1 ((nI_eqc (by omega) (by decide)).mp (show nI _ = nI 2 from z)))]
    refine ⟨hw, frw, Or.inl ⟨wr, fw, fun hi eh => ?_⟩⟩
    unfold pNum
    rw [if_neg (fun z => c1 z.1)]
theorem num_bool {X : Option (Int32 × xH)} {r : Int32} {h1 : xH} (e : X = some (r, h1)) (hr : r = 0 ∨ r = 1) : (X.bind fun q9 => (x_bool q9.1).bind fun x10 => some (x10, q9.2)) = some (r, h1) := by
  rw [e, Option.bind_some]
  rcases hr with rfl | rfl <;> rfl
/-- tells, the word being there -/
theorem m_tells (a : MTk h m t fb ft s τ) (b : TB t fb) (ok : TkOk t τ) {w i lo : Nat} (h3 : 3 ≤ w) (h15 : w < 15) (hw : isW t τ w = true) (hi3 : i < 3) {p3 : Int32} {c : Int} (hc : p3.toInt = c) (hc99 : c ≤ 99) (hlo : lo ≤ 99) (hn : 300 ≤ n) :
    ∃ h', FrN m h h' ∧ ((f_X7_tells n h m w (nI i) (nI lo) p3 = some (0, h') ∧ MFail h' m t fb (nxt t τ.2.2).2.1 ∧ ∀ hi : Nat, c = hi → pNum t (nxt t τ.2.2) lo hi = none) ∨ (f_X7_tells n h m w (nI i) (nI lo) p3 = some (1, h') ∧ 0 ≤ c ∧ pNum t (nxt t τ.2.2) lo c.toNat = some (numV t (nxt t τ.2.2), nxt t (nxt t τ.2.2).2.2) ∧ MTk h' m t fb (upd ft i (nI (numV t (nxt t τ.2.2)))) s (nxt t (nxt t τ.2.2).2.2))) := by
  obtain ⟨h1, e1, a1, f1⟩ := a.next b ok.2.2.1 hn
  have ok1 := nxt_ok t ok.2.2.1
  obtain ⟨h2, f2, alt⟩ := m_number (n := n) a1 b ok1 hi3 hc hc99 hlo hn
  have start : f_X7_tells n h m w (nI i) (nI lo) p3 = (f_X7_number n h1 m (nI i) (nI lo) p3).bind fun q9 => (x_bool q9.1).bind fun x10 => some (x10, q9.2) := by
    unfold f_X7_tells
    rw [a.ob, Option.bind_some, m_isWord a b ok h3 h15 (by omega), Option.bind_some, hw, if_neg (show ¬ bI true = 0 by decide), Option.bind_some, e1, Option.bind_some, a1.ob, Option.bind_some]
  refine ⟨h2, f1.trans f2, ?_⟩
  rcases alt with ⟨e2, x⟩ | ⟨e2, x⟩
  · exact Or.inl ⟨by rw [start]; exact num_bool e2 (Or.inl rfl), x⟩
  · exact Or.inr ⟨by rw [start]; exact num_bool e2 (Or.inr rfl), x⟩
theorem tI {k : Nat} (hk : k < 2 ^ 31) {p : Int32} (e : p = nI k) : p.toInt = (k : Int) := by rw [e, nI_toInt hk]
/-- a door comes -/
theorem m_addD (q : MH h m H) (hH : HOk H) (h14 : hD H < 14) {k a c : Nat} (hk : k < 6) (ha : a < 8) (hc : c < 8) (hne : k = 1 ∨ a ≠ c) : ∃ h', f_X7_door h m (nI k) (nI a) (nI c) = some (nI (hD H), h') ∧ MH h' m (sAddD H (nI k) (nI a) (nI c)) ∧ FrH m h h' := by
  obtain ⟨g, ⟨fo, ao, eo⟩, fd, fr, a1, a2, c1, c2⟩ := id q
  have m17 : x_gR h m 7 10 = some (m + 17) := q.rd
  have isr : ∀ x, x < 8 → f_X7_isRoom h (nI x).toInt64 = some 1 := by
    intro x hx
    unfold f_X7_isRoom
    rw [m_in (a := 0) (c := 7) (by decide) (by decide), nI_toInt (by omega), decide_eq_true (by omega), decide_eq_true (by omega)]
    rfl
  have ink : f_X7_in h (nI k).toInt64 0 5 = some 1 := by
    rw [m_in (a := 0) (c := 5) (by decide) (by decide), nI_toInt (by omega), decide_eq_true (by omega), decide_eq_true (by omega)]
    rfl
  have J : ∃ h', f_X7_door_J45 h m (nI k) (nI a) (nI c) = some (nI (hD H), h') ∧ MH h' m (sAddD H (nI k) (nI a) (nI c)) ∧ FrH m h h' := by
    obtain ⟨h1, e1, b1, f1⟩ := w_st (a1 (hD H) h14) (j := 0) (by decide) (by decide) (nI k)
    obtain ⟨h2, e2, b2, f2⟩ := w_st b1 (j := 1) (by decide) (by decide) (nI a)
    obtain ⟨h3, e3, b3, f3⟩ := w_st b2 (j := 2) (by decide) (by decide) (if nI k = 1 then nI a else nI c)
    have fr3 : Fr (fun _ _ => False) (fun y => y = m + 18 + hD H) h h3 := Fr.trans f1 (Fr.trans f2 f3)
    have gk : ∀ (hh : xH), Fr (fun _ _ => False) (fun y => y = m + 18 + hD H) h hh → x_gR hh m 7 10 = some (m + 17) ∧ x_gI hh m 7 9 = some (nI (hD H)) ∧ x_ldQ hh (m + 17) (nI (hD H)) = some (m + 18 + hD H) ∧ x_gI hh m 7 11 = some (hO H) := by
      intro hh f
      refine ⟨g_R (f.1 _ _ _ _ id (g 10 (by decide) (by decide))), g_I (f.1 _ _ _ _ id (g 9 (by decide) (by decide))), ?_, g_I (f.1 _ _ _ _ id (g 11 (by decide) (by decide)))⟩
      exact AtQ.ld (f.2 _ _ (fun z => by omega) ao) rfl h14 (by decide) (eo _ h14)
    obtain ⟨k0a, k0b, k0c, k0d⟩ := gk h Fr.rfl
    obtain ⟨k1a, k1b, k1c, k1d⟩ := gk h1 f1
    obtain ⟨k2a, k2b, k2c, k2d⟩ := gk h2 (Fr.trans f1 f2)
    obtain ⟨k3a, k3b, k3c, k3d⟩ := gk h3 fr3
    have hclr : hO H &&& (i_shl 1 (nI (hD H)) ^^^ (-1)) = hO H := by
      apply b_ext
      intro i hi
      rw [b_and, b_not _ hi, b_bit (by omega) hi]
      by_cases e : i = hD H
      · rw [e, hH.2.2.2.2.2.2 (hD H) (Nat.le_refl _) (by omega)]; rfl
      · rw [decide_eq_false e]; simp
    have g3 : ∀ k, 9 ≤ k → k < 18 → x_get h3 m 7 k = some (mf m H k) := fun k h1 h2 => fr3.1 _ _ _ _ id (g k h1 h2)
    obtain ⟨h4, e4, g4, f4⟩ := w_put (g3 11 (by decide) (by decide)) (.int (hO H))
    have g49 : x_get h4 m 7 9 = some (.int (nI (hD H))) := f4.1 _ _ _ _ (fun z => by omega) (g3 9 (by decide) (by decide))
    obtain ⟨h5, e5, g5, f5⟩ := w_put g49 (.int (nI (hD H + 1)))
    refine ⟨h5, ?_, ⟨fun j j1 j2 => ?_, ⟨fo, f5.2 _ _ id (f4.2 _ _ id (fr3.2 _ _ (fun z => by omega) ao)), eo⟩, fun j => if j = hD H then upd (upd (upd (fd (hD H)) 0 (nI k)) 1 (nI a)) 2 (if nI k = 1 then nI a else nI c) else fd j, fr, fun j hj => ?_, f5.2 _ _ id (f4.2 _ _ id (fr3.2 _ _ (fun z => by omega) a2)), fun j hj => ?_, c2⟩, ?_⟩
    · unfold f_X7_door_J45
      rw [k0b, Option.bind_some, if_neg (show ¬ nI (hD H) = 14 from fun z => by have := (nI_eqc (by omega) (by decide)).mp (show nI (hD H) = nI 14 from z); omega), k0a, Option.bind_some, Option.bind_some, k0c, Option.bind_some]
      rw [show x_st h (m + 18 + hD H) 0 (nI k) = some h1 from e1, Option.bind_some, k1a, Option.bind_some, k1b, Option.bind_some, k1c, Option.bind_some, show x_st h1 (m + 18 + hD H) 1 (nI a) = some h2 from e2, Option.bind_some, k2a, Option.bind_some, k2b, Option.bind_some, k2c, Option.bind_some]
      rw [show (if nI k = 1 then some (nI a) else some (nI c)) = some (if nI k = 1 then nI a else nI c) by split <;> rfl, Option.bind_some, show x_st h2 (m + 18 + hD H) 2 (if nI k = 1 then nI a else nI c) = some h3 from e3, Option.bind_some, k3d, Option.bind_some, k3b, Option.bind_some, hclr, e4, Option.bind_some, g_I g49, Option.bind_some, nI_1, e5, Option.bind_some]
    · by_cases e9 : j = 9
      · subst e9; exact g5
      · have : mf m (sAddD H (nI k) (nI a) (nI c)) j = mf m H j := by
          have : j = 10 ∨ j = 11 ∨ j = 12 ∨ j = 13 ∨ j = 14 ∨ j = 15 ∨ j = 16 ∨ j = 17 := by omega
          rcases this with rfl | rfl | rfl | rfl | rfl | rfl | rfl | rfl <;> rfl
        rw [this]
        by_cases e11 : j = 11
        · subst e11; exact f5.1 _ _ _ _ (fun z => e9 z.2) g4
        · exact f5.1 _ _ _ _ (fun z => e9 z.2) (f4.1 _ _ _ _ (fun z => e11 z.2) (g3 j j1 j2))
    · by_cases ej : j = hD H
      · dsimp only; rw [if_pos ej, ej]
        exact f5.2 _ _ id (f4.2 _ _ id b3)
      · dsimp only; rw [if_neg ej]
        exact f5.2 _ _ id (f4.2 _ _ id (fr3.2 _ _ (fun z => by omega) (a1 j hj)))
    · show _ = upd (hK H) (hD H) (nI k) j ∧ _ = upd (hA H) (hD H) (nI a) j ∧ _ = upd (hB H) (hD H) (if nI k = 1 then nI a else nI c) j
      by_cases ej : j = hD H
      · dsimp only; rw [if_pos ej, ej, pk_us, pk_us, pk_us]
        exact ⟨by rw [pk_un (by decide), pk_un (by decide), pk_us], by rw [pk_un (by decide), pk_us], pk_us.symm⟩
      · dsimp only; rw [if_neg ej, pk_un ej, pk_un ej, pk_un ej]
        exact c1 j (by have : j < hD H + 1 := hj; omega)
    · exact Fr.trans (Fr.mono fr3 (fun _ _ z => z.elim) (fun _ z => by omega)) (Fr.trans (Fr.mono f4 (fun _ _ z => ⟨z.1, by omega⟩) (fun _ z => z.elim)) (Fr.mono f5 (fun _ _ z => ⟨z.1, by omega⟩) (fun _ z => z.elim)))
  unfold f_X7_door
  rw [ink, Option.bind_some, if_neg (by decide), isr a ha, Option.bind_some, if_neg (by decide)]
  by_cases c1' : nI k = 1
  · rw [if_pos c1']; exact J
  · rw [if_neg c1', isr c hc, Option.bind_some, if_neg (by decide), if_neg]
    · exact J
    · intro z
      rcases hne with y | y
      · exact c1' (by rw [y]; rfl)
      · exact y ((nI_eqc (by omega) (by omega)).mp z)
theorem m_addP (q : MH h m H) (h4 : hP H < 4) {r : Nat} (hr : r < 8) : ∃ h', f_X7_one h m (nI r) = some (nI (hP H), h') ∧ MH h' m (sAddP H (nI r)) ∧ FrH m h h' := by
  obtain ⟨g, ⟨fo, ao, eo⟩, fd, fr, a1, a2, c1, c2⟩ := id q
  have isr : f_X7_isRoom h (nI r).toInt64 = some 1 := by
    unfold f_X7_isRoom
    rw [m_in (a := 0) (c := 7) (by decide) (by decide), nI_toInt (by omega), decide_eq_true (by omega), decide_eq_true (by omega)]
    rfl
  obtain ⟨h1, e1, b1, f1⟩ := w_st a2 (j := hP H) h4 (by decide) (nI r)
  have g1 : ∀ k, 9 ≤ k → k < 18 → x_get h1 m 7 k = some (mf m H k) := fun k h1 h2 => f1.1 _ _ _ _ id (g k h1 h2)
  obtain ⟨h2, e2, g2, f2⟩ := w_put (g1 12 (by decide) (by decide)) (.int (nI (hP H + 1)))
  refine ⟨h2, ?_, ⟨fun j j1 j2 => ?_, ⟨fo, f2.2 _ _ id (f1.2 _ _ (fun z => by omega) ao), eo⟩, fd, upd fr (hP H) (nI r), fun j hj => f2.2 _ _ id (f1.2 _ _ (fun z => by omega) (a1 j hj)), f2.2 _ _ id b1, c1, fun p hp => ?_⟩, Fr.trans (Fr.mono f1 (fun _ _ z => z.elim) (fun _ z => by omega)) (Fr.mono f2 (fun _ _ z => ⟨z.1, by omega⟩) (fun _ z => z.elim))⟩
  · unfold f_X7_one
    rw [isr, Option.bind_some, if_neg (by decide), q.P, Option.bind_some, if_neg (show ¬ nI (hP H) = 4 from fun z => by have := (nI_eqc (by omega) (by decide)).mp (show nI (hP H) = nI 4 from z); omega), q.rr, Option.bind_some, Option.bind_some, e1, Option.bind_some, g_I (g1 12 (by decide) (by decide)), Option.bind_some, nI_1, e2, Option.bind_some]
  · by_cases e9 : j = 12
    · subst e9; exact g2
    · have : mf m (sAddP H (nI r)) j = mf m H j := by
        have : j = 9 ∨ j = 10 ∨ j = 11 ∨ j = 13 ∨ j = 14 ∨ j = 15 ∨ j = 16 ∨ j = 17 := by omega
        rcases this with rfl | rfl | rfl | rfl | rfl | rfl | rfl | rfl <;> rfl
      rw [this]
      exact f2.1 _ _ _ _ (fun z => e9 z.2) (g1 j j1 j2)
  · show _ = upd (hR H) (hP H) (nI r) p
    by_cases ep : p = hP H
    · rw [ep, pk_us, pk_us]
    · rw [pk_un ep, pk_un ep]
      exact c2 p (by have : p < hP H + 1 := hp; omega)
end MTs
