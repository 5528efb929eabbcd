/-! The class's reader: statements, all. -/
section TN
variable {h h' : xH} {q n hb : Nat} {fb : Nat → Int32} {t : TP} {τ : TK} {H : HS}
theorem ret_bool {h1 : xH} {r : Int32} {R : RS} {X : Option (Int32 × xH)} (e : X = some (r, h1)) (x : RSt h h1 q hb t fb H r R) : (X.bind fun q12 => if q12.1 = 0 then some ((0 : Int32), q12.2) else some (1, q12.2)) = some (r, h1) ∧ (X.bind fun q12 => (x_bool q12.1).bind fun x17 => some (x17, q12.2)) = some (r, h1) := by
  have hr : r = 0 ∨ r = 1 := by
    unfold RSt at x
    cases R with
    | inl f => exact Or.inl x.2.1
    | inr p => exact Or.inr x.2.1
  rw [e, Option.bind_some, Option.bind_some]
  rcases hr with rfl | rfl
  · exact ⟨rfl, rfl⟩
  · exact ⟨rfl, rfl⟩
/-- a statement -/
theorem t_stm (a : TTk h q t fb τ) (b : TB t fb) (ok : TkOk t τ) (qh : HAt h hb H) (hH : HOk H) (hx : q + 2 ≤ hb ∨ hb + 5 ≤ q) (hn : 300 ≤ n) : ∃ h' r, f_X5_readStatement n h q hb = some (r, h') ∧ RSt h h' q hb t fb H r (pStm t H τ) := by
  have h14 := hH.1
  have h4 := hH.2.1
  unfold f_X5_readStatement pStm
  rw [a.ob, Option.bind_some, t_isWord a b ok (by decide) (by decide) (by omega), Option.bind_some]
  have no : ∃ h' r, (some ((0 : Int32), h) : Option (Int32 × xH)) = some (r, h') ∧ RSt h h' q hb t fb H r (.inl τ.2.1) := ⟨h, 0, rfl, FrTH.refl, rfl, ⟨τ, a, rfl⟩, qh⟩
  cases w3 : isW t τ 3
  · rw [if_pos (show bI false = 0 from rfl), if_neg (by decide), Option.bind_some, t_isWord a b ok (by decide) (by decide) (by omega), Option.bind_some]
    cases w4 : isW t τ 4
    · rw [if_pos (show bI false = 0 from rfl), if_neg (by decide), Option.bind_some, t_isWord a b ok (by decide) (by decide) (by omega), Option.bind_some]
      cases w5 : isW t τ 5
      · rw [if_pos (show bI false = 0 from rfl), if_neg (by decide), Option.bind_some, t_isWord a b ok (by decide) (by decide) (by omega), Option.bind_some]
        cases w6 : isW t τ 6
        · rw [if_pos (show bI false = 0 from rfl), if_neg (by decide), Option.bind_some, t_isWord a b ok (by decide) (by decide) (by omega), Option.bind_some]
          cases w7 : isW t τ 7
          · rw [if_pos (show bI false = 0 from rfl), if_neg (by decide)]
            exact no
          · rw [if_neg (show ¬ bI true = 0 by decide), if_pos rfl, Option.bind_some]
            obtain ⟨h1, r, e, x⟩ := t_readMoves a b ok qh hH hx hn
            exact ⟨h1, r, (ret_bool e x).1, x⟩
        · rw [if_neg (show ¬ bI true = 0 by decide), if_pos rfl, Option.bind_some]
          obtain ⟨h1, r, e, x⟩ := t_readWind a b ok qh hx hn
          exact ⟨h1, r, (ret_bool e x).2, x⟩
      · rw [if_neg (show ¬ bI true = 0 by decide), if_pos rfl, Option.bind_some]
        obtain ⟨h1, r, e, x⟩ := t_readLaw a b ok qh hx hn
        exact ⟨h1, r, (ret_bool e x).2, x⟩
    · rw [if_neg (show ¬ bI true = 0 by decide), if_pos rfl, qh.P, Option.bind_some]
      by_cases c : hP H < 4
      · rw [if_neg (show ¬ (4 : Int32) ≤ nI (hP H) from nI_ge (b := 4) c (by decide)), if_pos c, Option.bind_some]
        obtain ⟨h1, r, e, x⟩ := t_readOne a b ok qh c hx hn
        exact ⟨h1, r, (ret_bool e x).1, x⟩
      · rw [if_pos (show (4 : Int32) ≤ nI (hP H) from nI_le (a := 4) (by omega) (by omega)), if_neg c]
        exact no
  · rw [if_neg (show ¬ bI true = 0 by decide), if_pos rfl, qh.D, Option.bind_some]
    by_cases c : hD H < 14
    · rw [if_neg (show ¬ (14 : Int32) ≤ nI (hD H) from nI_ge (b := 14) c (by decide)), if_pos c, Option.bind_some]
      obtain ⟨h1, r, e, x⟩ := t_readDoor a b ok qh hH c hx hn
      exact ⟨h1, r, (ret_bool e x).1, x⟩
    · rw [if_pos (show (14 : Int32) ≤ nI (hD H) from nI_le (a := 14) (by omega) (by omega)), if_neg c]
      exact no
/-- a statement that is read: the house is in order, and the token has gone on -/
theorem pStm_ok (ok : TkOk t τ) (hH : HOk H) {H' : HS} {τ' : TK} (e : pStm t H τ = .inr (H', τ')) : HOk H' ∧ ∃ e', τ.2.2 + 1 ≤ e' ∧ e' ≤ t.1 ∧ τ' = nxt t e' := by
  have go : ∀ {k : TK} {lo hi v : Nat} {k' : TK}, TkOk t k → pNum t k lo hi = some (v, k') → ∀ x, k = nxt t x → x ≤ t.1 → x + 1 ≤ k.2.2 ∧ k.2.2 ≤ t.1 ∧ k' = nxt t k.2.2 ∧ TkOk t k' ∧ v ≤ hi ∧ lo ≤ v := by
    intro k lo hi v k' okk ep x ex hx
    obtain ⟨g1, g2, g3, g4, g5⟩ := pNum_lt ep
    obtain ⟨n1, n2, n3, n4, n5⟩ := nxt_in t hx
    rw [← ex] at n1 n2 n3 n4
    have := n4 (by omega)
    exact ⟨by omega, okk.2.2.1, g3, by rw [g3]; exact nxt_ok t okk.2.2.1, g1, g2⟩
  have h2 := ok.2.2.1
  have ok1 := nxt_ok t h2
  unfold pStm at e
  split at e
  · split at e
    · rename_i hD14
      unfold pDoor at e
      cases e1 : pNum t (nxt t τ.2.2) 0 5 with
      | none => rw [e1] at e; cases e
      | some x1 =>
        obtain ⟨k, τ1⟩ := x1
        rw [e1] at e
        obtain ⟨a1, a2, a3, a4, a5, a6⟩ := go ok1 e1 _ rfl h2
        dsimp only at e
        cases e2 : pNum t τ1 0 7 with
        | none => rw [e2] at e; cases e
        | some x2 =>
          obtain ⟨a, τ2⟩ := x2
          rw [e2] at e
          obtain ⟨b1, b2, b3, b4, b5, b6⟩ := go a4 e2 _ a3 a2
          dsimp only at e
          cases e3 : pNum t τ2 0 7 with
          | none => rw [e3] at e; cases e
          | some x3 =>
            obtain ⟨c, τ3⟩ := x3
            rw [e3] at e
            obtain ⟨c1, c2, c3, c4, c5, c6⟩ := go b4 e3 _ b3 b2
            change (if k ≠ 1 ∧ c = a then (Sum.inl τ2.2.1 : RS) else pDoor3 t H k a c τ3) = _ at e
            split at e
            · cases e
            · have okD := ok_addD hH hD14 (show k < 6 by omega) (show a < 8 by omega) (Or.inr (show c < 8 by omega))
              unfold pDoor3 at e
              split at e
              · cases e
                refine ⟨ok_open okD (d := hD H) (Nat.lt_succ_self _), τ3.2.2, ?_, c4.2.2.1, rfl⟩
                have := nxt_in t c2
                rw [← c3] at this
                omega
              · cases e
                exact ⟨okD, τ2.2.2, by omega, c2, c3⟩
    · cases e
  · split at e
    · split at e
      · rename_i hP
        unfold pOne at e
        cases e1 : pNum t (nxt t τ.2.2) 0 7 with
        | none => rw [e1] at e; cases e
        | some x1 =>
          obtain ⟨k, τ1⟩ := x1
          rw [e1] at e
          obtain ⟨a1, a2, a3, a4, a5, a6⟩ := go ok1 e1 _ rfl h2
          cases e
          exact ⟨ok_addP hH hP (by omega), _, a1, a2, a3⟩
      · cases e
    · split at e
      · unfold pLaw at e
        cases e1 : pNum t (nxt t τ.2.2) 1 4 with
        | none => rw [e1] at e; cases e
        | some x1 =>
          obtain ⟨k, τ1⟩ := x1
          rw [e1] at e
          obtain ⟨a1, a2, a3, a4, a5, a6⟩ := go ok1 e1 _ rfl h2
          cases e
          exact ⟨ok_L hH a6 a5, _, a1, a2, a3⟩
      · split at e
        · unfold pWind at e
          cases e1 : pNum t (nxt t τ.2.2) 0 99 with
          | none => rw [e1] at e; cases e
          | some x1 =>
            obtain ⟨k, τ1⟩ := x1
            rw [e1] at e
            obtain ⟨a1, a2, a3, a4, a5, a6⟩ := go ok1 e1 _ rfl h2
            cases e
            exact ⟨ok_W hH a5, _, a1, a2, a3⟩
        · split at e
          · unfold pMoves at e
            split at e
            · cases e
            · cases e1 : pNum t (nxt t τ.2.2) 0 (hP H - 1) with
              | none => rw [e1] at e; cases e
              | some x1 =>
                obtain ⟨k, τ1⟩ := x1
                rw [e1] at e
                obtain ⟨a1, a2, a3, a4, a5, a6⟩ := go ok1 e1 _ rfl h2
                dsimp only at e
                cases e2 : pNum t τ1 0 7 with
                | none => rw [e2] at e; cases e
                | some x2 =>
                  obtain ⟨a, τ2⟩ := x2
                  rw [e2] at e
                  obtain ⟨b1, b2, b3, b4, b5, b6⟩ := go a4 e2 _ a3 a2
                  cases e
                  exact ⟨ok_Rm hH (by omega), _, by omega, b2, b3⟩
          · cases e
theorem pStm_le (ok : TkOk t τ) {f : Nat} (e : pStm t H τ = .inl f) : f ≤ t.1 := by
  have s0 : τ.2.1 ≤ t.1 := Nat.le_trans ok.2.1 ok.2.2.1
  have sx : ∀ {x : Nat}, x ≤ t.1 → (nxt t x).2.1 ≤ t.1 ∧ (nxt t x).2.2 ≤ t.1 := fun hx => by
    have := nxt_in t hx
    omega
  have s1 := sx ok.2.2.1
  unfold pStm at e
  split at e
  · split at e
    · unfold pDoor at e
      cases e1 : pNum t (nxt t τ.2.2) 0 5 with
      | none => rw [e1] at e; cases e; exact s1.1
      | some x1 =>
        obtain ⟨k, τ1⟩ := x1
        rw [e1] at e
        obtain ⟨-, -, a3, -⟩ := pNum_lt e1
        have s2 := sx s1.2
        rw [← a3] at s2
        dsimp only at e
        cases e2 : pNum t τ1 0 7 with
        | none => rw [e2] at e; cases e; exact s2.1
        | some x2 =>
          obtain ⟨a, τ2⟩ := x2
          rw [e2] at e
          obtain ⟨-, -, b3, -⟩ := pNum_lt e2
          have s3 := sx s2.2
          rw [← b3] at s3
          dsimp only at e
          cases e3 : pNum t τ2 0 7 with
          | none => rw [e3] at e; cases e; exact s3.1
          | some x3 =>
            obtain ⟨c, τ3⟩ := x3
            rw [e3] at e
            change (if k ≠ 1 ∧ c = a then (Sum.inl τ2.2.1 : RS) else pDoor3 t H k a c τ3) = _ at e
            split at e
            · cases e; exact s3.1
            · unfold pDoor3 at e
              split at e <;> cases e
    · cases e; exact s0
  · split at e
    · split at e
      · unfold pOne at e
        cases e1 : pNum t (nxt t τ.2.2) 0 7 with
        | none => rw [e1] at e; cases e; exact s1.1
        | some x1 => rw [e1] at e; cases e
      · cases e; exact s0
    · split at e
      · unfold pLaw at e
        cases e1 : pNum t (nxt t τ.2.2) 1 4 with
        | none => rw [e1] at e; cases e; exact s1.1
        | some x1 => rw [e1] at e; cases e
      · split at e
        · unfold pWind at e
          cases e1 : pNum t (nxt t τ.2.2) 0 99 with
          | none => rw [e1] at e; cases e; exact s1.1
          | some x1 => rw [e1] at e; cases e
        · split at e
          · unfold pMoves at e
            split at e
            · cases e; exact s1.1
            · cases e1 : pNum t (nxt t τ.2.2) 0 (hP H - 1) with
              | none => rw [e1] at e; cases e; exact s1.1
              | some x1 =>
                obtain ⟨k, τ1⟩ := x1
                rw [e1] at e
                obtain ⟨-, -, a3, -⟩ := pNum_lt e1
                have s2 := sx s1.2
                rw [← a3] at s2
                dsimp only at e
                cases e2 : pNum t τ1 0 7 with
                | none => rw [e2] at e; cases e; exact s2.1
                | some x2 => rw [e2] at e; cases e
          · cases e; exact s0
/-- what reading leaves -/
def RRd (h h' : xH) (q hb : Nat) (t : TP) (fb : Nat → Int32) (r : Int32) (R : Sum Nat (Nat × HS)) : Prop := FrTH q hb h h' ∧ (∃ τ, TTk h' q t fb τ) ∧ match R with
  | .inl f => r = -20 - nI f ∧ f ≤ 250 ∧ ∃ H', HAt h' hb H'
  | .inr (c, H') => r = nI c ∧ c ≤ 250 ∧ HAt h' hb H' ∧ HOk H'
theorem t_all (b : TB t fb) (hx : q + 2 ≤ hb ∨ hb + 5 ≤ q) (hn : 300 ≤ n) : ∀ (k m c : Nat) (h : xH) (H : HS) (τ : TK), TTk h q t fb τ → TkOk t τ → HAt h hb H → HOk H → 1 ≤ c → 2 * (c - 1) ≤ τ.2.2 → m + c = 300 → m < k → ∃ h' r, f_X5_readInto_L11 n q hb k (nI c) h = some (.inl (r, h')) ∧ RRd h h' q hb t fb r (rdA t m c H τ)
  | 0, _, _, _, _, _, _, _, _, _, _, _, _, hk => absurd hk (Nat.not_lt_zero _)
  | k + 1, 0, c, h, H, τ, a, ok, qh, hH, hc, hp, hm, hk => by
    have := b.1.1
    have := ok.2.2.1
    omega
  | k + 1, m + 1, c, h, H, τ, a, ok, qh, hH, hc, hp, hm, hk => by
    have h250 := b.1.1
    have h3 := ok.2.2.1
    obtain ⟨h1, r, e1, x⟩ := t_stm a b ok qh hH hx hn
    have st : f_X5_readInto_L11 n q hb (k + 1) (nI c) h = if r = 0 then (x_gI h1 q 5 3).bind fun x6 => some (.inl (-20 - x6, h1)) else (x_gI h1 q 5 2).bind fun x7 => if x7 = 0 then some (.inl (nI c, h1)) else (x_gI h1 q 5 2).bind fun x8 => if x8 = 3 then (x_ob h1 q 5).bind fun _ => (f_X5_nextToken n h1 q).bind fun q10 => f_X5_readInto_L11 n q hb k (nI (c + 1)) q10 else (x_gI h1 q 5 3).bind fun x12 => some (.inl (-20 - x12, h1)) := by
      rw [f_X5_readInto_L11, if_neg (show ¬ (250 : Int32) < nI c from nI_nlt (a := 250) (by omega) (by decide)), a.ob, Option.bind_some, e1, Option.bind_some]
      simp only [Option.bind_some, nI_1]
    obtain ⟨fr, x⟩ := x
    show ∃ h' r, _ ∧ RRd h h' q hb t fb r (match pStm t H τ with | .inl f => .inl f | .inr (H', τ') => if τ'.1 = 0 then .inr (c, H') else if τ'.1 = 3 then rdA t m (c + 1) H' (nxt t τ'.2.2) else .inl τ'.2.1)
    cases es : pStm t H τ with
    | inl f =>
      rw [es] at x
      obtain ⟨x1, ⟨τ', x2, x3⟩, x4⟩ := x
      rw [if_pos x1, x2.st, Option.bind_some, x3] at st
      refine ⟨h1, -20 - nI f, st, fr, ⟨_, x2⟩, rfl, ?_, _, x4⟩
      have fl : f ≤ t.1 := pStm_le ok es
      omega
    | inr p =>
      obtain ⟨H', τ'⟩ := p
      rw [es] at x
      obtain ⟨x1, x2, x3⟩ := x
      obtain ⟨okH, e', g1, g2, g3⟩ := pStm_ok ok hH es
      have ok' : TkOk t τ' := by rw [g3]; exact nxt_ok t g2
      have nin := nxt_in t g2
      rw [← g3] at nin
      rw [if_neg (by rw [x1]; decide), x2.tok, Option.bind_some, Option.bind_some] at st
      show ∃ h' r, _ ∧ RRd h h' q hb t fb r (if τ'.1 = 0 then .inr (c, H') else if τ'.1 = 3 then rdA t m (c + 1) H' (nxt t τ'.2.2) else .inl τ'.2.1)
      by_cases c0 : τ'.1 = 0
      · rw [if_pos (show nI τ'.1 = 0 by rw [c0]; rfl)] at st
        rw [if_pos c0]
        exact ⟨h1, nI c, st, fr, ⟨_, x2⟩, rfl, by omega, x3, okH⟩
      · rw [if_neg (show ¬ nI τ'.1 = 0 from nI_ne0 (by omega) (by omega))] at st
        rw [if_neg c0]
        by_cases c3 : τ'.1 = 3
        · rw [if_pos (show nI τ'.1 = 3 by rw [c3]; rfl), x2.ob, Option.bind_some] at st
          rw [if_pos c3]
          obtain ⟨h2, e2, a2, f2⟩ := x2.next b ok'.2.2.1 hn
          have n2 := nxt_in t ok'.2.2.1
          obtain ⟨h5, r5, e5, y1, y2⟩ := t_all b hx hn k m (c + 1) h2 H' _ a2 (nxt_ok t ok'.2.2.1) (x3.frT f2 hx) okH (by omega) (by have := nin.2.2.2.1 c0; omega) (by omega) (by omega)
          exact ⟨h5, r5, by rw [st, e2, Option.bind_some, e5], (fr.trans (FrTH.ofT f2)).trans y1, y2⟩
        · rw [if_neg (show ¬ nI τ'.1 = 3 from fun z => c3 ((nI_eqc (by omega) (by decide)).mp (show nI _ = nI 3 from z))), x2.st, Option.bind_some] at st
          rw [if_neg c3]
          exact ⟨h1, _, st, fr, ⟨_, x2⟩, rfl, by omega, _, x3⟩
/-- readInto -/
theorem t_readInto {v : Nat → Int32} (a : TAt h q v fb) (b : TB t fb) (v1 : v 1 = nI t.1) (qh : HAt h hb H) (hH : HOk H) (hx : q + 2 ≤ hb ∨ hb + 5 ≤ q) (hn : 400 ≤ n) : ∃ h' r, f_X5_readInto n h q hb = some (r, h') ∧ RRd h h' q hb t fb r (rdA t 299 1 H (nxt t 0)) := by
  obtain ⟨h1, e1, a1, f1⟩ := a.put (k := 4) (by decide) (by decide) 0
  obtain ⟨h2, e2, a2, f2⟩ := t_next (n := n) (e := 0) a1 b (by rw [pk_un (by decide), v1]) pk_us (Nat.zero_le _) (by omega)
  obtain ⟨h3, r, e3, y1, y2⟩ := t_all (n := n) b hx (by omega) n 299 1 h2 H _ a2 (nxt_ok t (Nat.zero_le _)) ((qh.frT f1 hx).frT f2 hx) hH (by omega) (by omega) (by omega) (by omega)
  refine ⟨h3, r, ?_, (FrTH.ofT (f1.trans f2)).trans y1, y2⟩
  unfold f_X5_readInto
  rw [e1, Option.bind_some, a1.ob, Option.bind_some, e2, Option.bind_some, show f_X5_readInto_L11 n q hb n 1 h2 = _ from e3, Option.bind_some]
end TN
