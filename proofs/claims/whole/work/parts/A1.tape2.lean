/-! The class's reader: numbers, statements, all. -/
def FrTH (q hb : Nat) (h h' : xH) : Prop := Fr (fun a _ => a = q ∨ (hb ≤ a ∧ a < hb + 5)) (fun a => hb ≤ a ∧ a < hb + 5) h h'
section HOKS
variable {H : HS}
theorem ok_L (ok : HOk H) {k : Nat} (h1 : 1 ≤ k) (h4 : k ≤ 4) : HOk (sL H (nI k)) := ⟨ok.1, ok.2.1, ok.2.2.1, ok.2.2.2.1, ⟨k, h1, h4, rfl⟩, ok.2.2.2.2.2.1, ok.2.2.2.2.2.2⟩
theorem ok_W (ok : HOk H) {k : Nat} (h4 : k ≤ 99) : HOk (sWd H (nI k)) := ⟨ok.1, ok.2.1, ok.2.2.1, ok.2.2.2.1, ok.2.2.2.2.1, ⟨k, h4, rfl⟩, ok.2.2.2.2.2.2⟩
theorem ok_Rm (ok : HOk H) {p k : Nat} (h8 : k < 8) : HOk (sRm H p (nI k)) := ⟨ok.1, ok.2.1, ok.2.2.1, fun j hj => by
  show ∃ k', k' < 8 ∧ upd (hR H) p (nI k) j = nI k'
  by_cases e : j = p
  · subst e; exact ⟨k, h8, pk_us⟩
  · rw [pk_un e]; exact ok.2.2.2.1 j hj, ok.2.2.2.2.1, ok.2.2.2.2.2.1, ok.2.2.2.2.2.2⟩
theorem ok_addP (ok : HOk H) (h4 : hP H < 4) {k : Nat} (h8 : k < 8) : HOk (sAddP H (nI k)) := ⟨ok.1, h4, ok.2.2.1, fun j hj => by
  show ∃ k', k' < 8 ∧ upd (hR H) (hP H) (nI k) j = nI k'
  by_cases e : j = hP H
  · rw [e]; exact ⟨k, h8, pk_us⟩
  · rw [pk_un e]; exact ok.2.2.2.1 j (by have : j < hP H + 1 := hj; omega), ok.2.2.2.2.1, ok.2.2.2.2.2.1, ok.2.2.2.2.2.2⟩
theorem ok_addD (ok : HOk H) (h14 : hD H < 14) {k a b : Nat} (hk : k < 6) (ha : a < 8) (hb : k = 1 ∨ b < 8) : HOk (sAddD H (nI k) (nI a) (nI b)) := by
  refine ⟨h14, ok.2.1, fun j hj => ?_, ok.2.2.2.1, ok.2.2.2.2.1, ok.2.2.2.2.2.1, fun k h1 h2 => ok.2.2.2.2.2.2 k (by have : hD H + 1 ≤ k := h1; omega) h2⟩
  show (∃ k', k' < 6 ∧ upd (hK H) (hD H) (nI k) j = nI k') ∧ (∃ k', k' < 8 ∧ upd (hA H) (hD H) (nI a) j = nI k') ∧ (∃ k', k' < 8 ∧ upd (hB H) (hD H) (if nI k = 1 then nI a else nI b) j = nI k') ∧ (upd (hK H) (hD H) (nI k) j = 1 → upd (hA H) (hD H) (nI a) j = upd (hB H) (hD H) (if nI k = 1 then nI a else nI b) j)
  by_cases e : j = hD H
  · rw [e, pk_us, pk_us, pk_us]
    refine ⟨⟨k, hk, rfl⟩, ⟨a, ha, rfl⟩, ?_, fun z => by rw [if_pos z]⟩
    by_cases c : nI k = 1
    · rw [if_pos c]; exact ⟨a, ha, rfl⟩
    · rw [if_neg c]
      rcases hb with z | z
      · rw [z] at c; exact absurd rfl c
      · exact ⟨b, z, rfl⟩
  · rw [pk_un e, pk_un e, pk_un e]
    exact ok.2.2.1 j (by have : j < hD H + 1 := hj; omega)
theorem ok_open (ok : HOk H) {d : Nat} (hd : d < hD H) : HOk (sO H (hO H ||| i_shl 1 (nI d))) := ⟨ok.1, ok.2.1, ok.2.2.1, ok.2.2.2.1, ok.2.2.2.2.1, ok.2.2.2.2.2.1, fun k h1 h2 => by
  have h14 := ok.1
  have h1' : hD H ≤ k := h1
  show bt (hO H ||| i_shl 1 (nI d)) k = false
  rw [b_or, ok.2.2.2.2.2.2 k h1' h2, b_bit (by omega) h2, decide_eq_false (by omega)]
  rfl⟩
end HOKS
section TN
variable {h h' : xH} {q n hb : Nat} {fb : Nat → Int32} {t : TP} {τ : TK} {H : HS}
theorem numV_le (ok : TkOk t τ) (h2 : τ.1 = 2) (hl : τ.2.2 - τ.2.1 ≤ 2) : numV t τ ≤ 99 := by
  unfold numV
  have dig := ok.2.2.2 h2
  rcases (show τ.2.2 - τ.2.1 = 0 ∨ τ.2.2 - τ.2.1 = 1 ∨ τ.2.2 - τ.2.1 = 2 by omega) with e | e | e
  · rw [e]; exact Nat.zero_le _
  · rw [e]
    have d0 := dig (τ.2.1 + 0) (by omega) (by omega)
    show 0 * 10 + t.2 (τ.2.1 + 0) - 48 ≤ 99
    omega
  · rw [e]
    have d0 := dig (τ.2.1 + 0) (by omega) (by omega)
    have d1 := dig (τ.2.1 + 1) (by omega) (by omega)
    show (0 * 10 + t.2 (τ.2.1 + 0) - 48) * 10 + t.2 (τ.2.1 + 1) - 48 ≤ 99
    omega
theorem t_num32 (a : TTk h q t fb τ) (b : TB t fb) (ok : TkOk t τ) (h2 : τ.1 = 2) {p1 p2 p3 : Int32} (hn : 300 ≤ n) : f_X5_readNumber_L32 h q p1 p2 p3 n 0 (nI τ.2.1) = some (nI (numV t τ)) := by
  have h250 := b.1.1
  obtain ⟨o1, o2, o3, o4⟩ := ok
  refine lpE (L := fun k (s : Int32) i => f_X5_readNumber_L32 h q p1 p2 p3 k s (nI (τ.2.1 + i))) (fun i => nI (vnN t τ.2.1 i)) (D := τ.2.2 - τ.2.1) (n := n) (by omega) (fun k => ?_) (fun k i hi => ?_)
  · show f_X5_readNumber_L32 h q p1 p2 p3 (k + 1) _ (nI (τ.2.1 + (τ.2.2 - τ.2.1))) = _
    rw [f_X5_readNumber_L32, a.en, Option.bind_some, if_pos (nI_le (by omega) (by omega))]
    rfl
  · show f_X5_readNumber_L32 h q p1 p2 p3 (k + 1) _ (nI (τ.2.1 + i)) = _
    have hd := o4 h2 (τ.2.1 + i) (by omega) (by omega)
    rw [f_X5_readNumber_L32, a.en, Option.bind_some, if_neg (nI_ge (by omega) (by omega)), a.r, Option.bind_some, a.ld b (by omega), Option.bind_some, Option.bind_some, Option.bind_some, nI_1]
    rw [show nI (vnN t τ.2.1 i) * 10 + nI (t.2 (τ.2.1 + i)) - 48 = nI (vnN t τ.2.1 (i + 1)) by
      show nI (vnN t τ.2.1 i) * nI 10 + nI (t.2 (τ.2.1 + i)) - nI 48 = nI (vnN t τ.2.1 i * 10 + t.2 (τ.2.1 + i) - 48)
      rw [pk_mul, nI_add, pk_sub (by omega)]]
    rfl
/-- readNumber -/
theorem t_num (a : TTk h q t fb τ) (b : TB t fb) (ok : TkOk t τ) {lo hi : Nat} (hlo : lo ≤ 99) (hhi : hi ≤ 99) {p3 : Int32} (hn : 300 ≤ n) : ∃ h', FrT q h h' ∧ ((f_X5_readNumber n h q (nI lo) (nI hi) p3 = some (-1, h') ∧ h' = h ∧ (pNum t τ lo hi = none ∨ p3 = nI (numV t τ))) ∨ (f_X5_readNumber n h q (nI lo) (nI hi) p3 = some (nI (numV t τ), h') ∧ pNum t τ lo hi = some (numV t τ, nxt t τ.2.2) ∧ p3 ≠ nI (numV t τ) ∧ TTk h' q t fb (nxt t τ.2.2))) := by
  have h250 := b.1.1
  obtain ⟨o1, o2, o3, o4⟩ := id ok
  have neg : pNum t τ lo hi = none → f_X5_readNumber n h q (nI lo) (nI hi) p3 = some (-1, h) → ∃ h', FrT q h h' ∧ ((f_X5_readNumber n h q (nI lo) (nI hi) p3 = some (-1, h') ∧ h' = h ∧ (pNum t τ lo hi = none ∨ p3 = nI (numV t τ))) ∨ (f_X5_readNumber n h q (nI lo) (nI hi) p3 = some (nI (numV t τ), h') ∧ pNum t τ lo hi = some (numV t τ, nxt t τ.2.2) ∧ p3 ≠ nI (numV t τ) ∧ TTk h' q t fb (nxt t τ.2.2))) := fun h1 h2 => ⟨h, FrT.refl, Or.inl ⟨h2, rfl, Or.inl h1⟩⟩
  by_cases c1 : τ.1 = 2
  · by_cases c2 : τ.2.2 - τ.2.1 ≤ 2
    · have vl := numV_le ok c1 c2
      have st : f_X5_readNumber n h q (nI lo) (nI hi) p3 = if nI (numV t τ) < nI lo then some (-1, h) else if nI hi < nI (numV t τ) then some (-1, h) else if nI (numV t τ) = p3 then some (-1, h) else (f_X5_nextToken n h q).bind fun q13 => some (nI (numV t τ), q13) := by
        unfold f_X5_readNumber
        rw [a.tok, Option.bind_some, if_pos (show nI τ.1 = 2 by rw [c1]; rfl), a.en, Option.bind_some, a.st, Option.bind_some, pk_sub o2, if_pos (show nI (τ.2.2 - τ.2.1) ≤ 2 from nI_le (b := 2) c2 (by decide)), Option.bind_some, t_num32 a b ok c1 hn, Option.bind_some, a.ob, Option.bind_some]
      by_cases c3 : lo ≤ numV t τ
      · rw [if_neg (nI_nlt c3 (by omega))] at st
        by_cases c4 : numV t τ ≤ hi
        · rw [if_neg (nI_nlt c4 (by omega))] at st
          have hp : pNum t τ lo hi = some (numV t τ, nxt t τ.2.2) := by unfold pNum; rw [if_pos ⟨c1, c2, c3, c4⟩]
          by_cases c5 : nI (numV t τ) = p3
          · rw [if_pos c5] at st
            exact ⟨h, FrT.refl, Or.inl ⟨st, rfl, Or.inr c5.symm⟩⟩
          · rw [if_neg c5] at st
            obtain ⟨h2, e2, a2, f2⟩ := a.next b o3 hn
            exact ⟨h2, f2, Or.inr ⟨by rw [st, e2, Option.bind_some], hp, fun z => c5 z.symm, a2⟩⟩
        · rw [if_pos (nI_lt (by omega) (by omega))] at st
          exact neg (by unfold pNum; rw [if_neg (fun z => c4 z.2.2.2)]) st
      · rw [if_pos (nI_lt (by omega) (by omega))] at st
        exact neg (by unfold pNum; rw [if_neg (fun z => c3 z.2.2.1)]) st
    · refine neg (by unfold pNum; rw [if_neg (fun z => c2 z.2.1)]) ?_
      unfold f_X5_readNumber
      rw [a.tok, Option.bind_some, if_pos (show nI τ.1 = 2 by rw [c1]; rfl), a.en, Option.bind_some, a.st, Option.bind_some, pk_sub o2, if_neg (show ¬ nI (τ.2.2 - τ.2.1) ≤ 2 from nI_ge (a := 2) (by omega) (by omega))]
  · refine neg (by unfold pNum; rw [if_neg (fun z => c1 z.1)]) ?_
    unfold f_X5_readNumber
    rw [a.tok, Option.bind_some, if_neg (show ¬ nI τ.1 = 2 from fun z => c1 ((nI_eqc (by omega) (by decide)).mp (show nI _ = nI 2 from z)))]
theorem t_num0 (a : TTk h q t fb τ) (b : TB t fb) (ok : TkOk t τ) (hn : 300 ≤ n) : f_X5_readNumber n h q 0 (-1) (-1) = some (-1, h) := by
  have h250 := b.1.1
  obtain ⟨o1, o2, o3, o4⟩ := id ok
  unfold f_X5_readNumber
  rw [a.tok, Option.bind_some]
  by_cases c1 : τ.1 = 2
  · rw [if_pos (show nI τ.1 = 2 by rw [c1]; rfl), a.en, Option.bind_some, a.st, Option.bind_some, pk_sub o2]
    by_cases c2 : τ.2.2 - τ.2.1 ≤ 2
    · have vl := numV_le ok c1 c2
      rw [if_pos (show nI (τ.2.2 - τ.2.1) ≤ 2 from nI_le (b := 2) c2 (by decide)), Option.bind_some, t_num32 a b ok c1 hn, Option.bind_some, if_neg (nI_pos (by omega))]
      have key : ∀ x, x ≤ 99 → (-1 : Int32) < nI x := by decide +kernel
      rw [if_pos (key _ vl)]
    · rw [if_neg (show ¬ nI (τ.2.2 - τ.2.1) ≤ 2 from nI_ge (a := 2) (by omega) (by omega))]
  · rw [if_neg (show ¬ nI τ.1 = 2 from fun z => c1 ((nI_eqc (by omega) (by decide)).mp (show nI _ = nI 2 from z)))]
theorem m1_ne {x : Nat} (h : x ≤ 99) : (-1 : Int32) ≠ nI x := fun z => nI_nm1 (by omega) z.symm
/-- what a statement leaves in the heap -/
def RSt (h h' : xH) (q hb : Nat) (t : TP) (fb : Nat → Int32) (H : HS) (r : Int32) (R : RS) : Prop := FrTH q hb h h' ∧ match R with
  | .inl f => r = 0 ∧ (∃ τ', TTk h' q t fb τ' ∧ τ'.2.1 = f) ∧ HAt h' hb H
  | .inr (H', τ') => r = 1 ∧ TTk h' q t fb τ' ∧ HAt h' hb H'
theorem FrTH.ofT (f : FrT q h h') : FrTH q hb h h' := Fr.mono f (fun _ _ z => Or.inl z) (fun _ z => z.elim)
theorem FrTH.ofB (f : FrB hb 5 h h') : FrTH q hb h h' := Fr.mono f (fun _ _ z => Or.inr z) (fun _ z => z)
theorem FrTH.trans {h1 h2 : xH} (x : FrTH q hb h h1) (y : FrTH q hb h1 h2) : FrTH q hb h h2 := Fr.trans x y
theorem FrTH.refl : FrTH q hb h h := Fr.rfl
theorem HAt.frT (a : HAt h hb H) (f : FrT q h h') (hx : q + 2 ≤ hb ∨ hb + 5 ≤ q) : HAt h' hb H := a.fr f (fun _ z => by omega) (fun _ _ _ z => z)
theorem TTk.frB (a : TTk h q t fb τ) (f : FrB hb 5 h h') (hx : q + 2 ≤ hb ∨ hb + 5 ≤ q) : TTk h' q t fb τ := a.fr f (fun _ z => by omega) (fun z => by omega)
theorem RSt.pre {h0 : xH} {r : Int32} {R : RS} (f : FrTH q hb h0 h) (x : RSt h h' q hb t fb H r R) : RSt h0 h' q hb t fb H r R := ⟨f.trans x.1, x.2⟩
theorem pNum_lt {lo hi v : Nat} {τ' : TK} (e : pNum t τ lo hi = some (v, τ')) : v ≤ hi ∧ lo ≤ v ∧ τ' = nxt t τ.2.2 ∧ v = numV t τ ∧ τ.1 = 2 := by
  unfold pNum at e
  split at e
  · rename_i hc
    cases e
    exact ⟨hc.2.2.2, hc.2.2.1, rfl, rfl, hc.1⟩
  · cases e
theorem t_readOne (a : TTk h q t fb τ) (b : TB t fb) (ok : TkOk t τ) (qh : HAt h hb H) (hP4 : hP H < 4) (hx : q + 2 ≤ hb ∨ hb + 5 ≤ q) (hn : 300 ≤ n) : ∃ h' r, f_X5_readOne n h q hb = some (r, h') ∧ RSt h h' q hb t fb H r (pOne t H (nxt t τ.2.2)) := by
  obtain ⟨h1, e1, a1, f1⟩ := a.next b ok.2.2.1 hn
  have ok1 := nxt_ok t ok.2.2.1
  have qh1 := qh.frT f1 hx
  obtain ⟨h2, f2, alt⟩ := t_num (n := n) (p3 := -1) (lo := 0) (hi := 7) a1 b ok1 (by decide) (by decide) hn
  have start : f_X5_readOne n h q hb = (f_X5_readNumber n h1 q (nI 0) (nI 7) (-1)).bind fun q4 => if q4.1 = -1 then some (0, q4.2) else (x_ob q4.2 hb 0).bind fun _ => (f_X0_addOne q4.2 hb q4.1).bind fun q6 => some (1, q6.2) := by
    unfold f_X5_readOne
    rw [a.ob, Option.bind_some, e1, Option.bind_some, a1.ob, Option.bind_some]
    rfl
  rcases alt with ⟨e2, eh, hno⟩ | ⟨e2, hp, -, a2⟩
  · have hp : pNum t (nxt t τ.2.2) 0 7 = none := by
      rcases hno with z | z
      · exact z
      · cases e : pNum t (nxt t τ.2.2) 0 7 with
        | none => rfl
        | some x =>
          obtain ⟨v, τ'⟩ := x
          obtain ⟨g1, -, -, g4, -⟩ := pNum_lt e
          exact absurd z (m1_ne (by omega))
    rw [eh] at e2
    refine ⟨h1, 0, by rw [start, e2, Option.bind_some, if_pos rfl], FrTH.ofT f1, ?_⟩
    unfold pOne
    rw [hp]
    exact ⟨rfl, ⟨_, a1, rfl⟩, qh1⟩
  · obtain ⟨g1, -⟩ := pNum_lt hp
    obtain ⟨h3, e3, q3, f3⟩ := h_addOne (qh1.frT f2 hx) hP4 (nI (numV t (nxt t τ.2.2)))
    refine ⟨h3, 1, by rw [start, e2, Option.bind_some, if_neg (fun z => m1_ne (x := numV t (nxt t τ.2.2)) (by omega) z.symm), (qh1.frT f2 hx).ob, Option.bind_some, e3, Option.bind_some], (FrTH.ofT f1).trans ((FrTH.ofT f2).trans (FrTH.ofB f3)), ?_⟩
    unfold pOne
    rw [hp]
    exact ⟨rfl, a2.frB f3 hx, q3⟩
theorem t_readLaw (a : TTk h q t fb τ) (b : TB t fb) (ok : TkOk t τ) (qh : HAt h hb H) (hx : q + 2 ≤ hb ∨ hb + 5 ≤ q) (hn : 300 ≤ n) : ∃ h' r, f_X5_readLaw n h q hb = some (r, h') ∧ RSt h h' q hb t fb H r (pLaw t H (nxt t τ.2.2)) := by
  obtain ⟨h1, e1, a1, f1⟩ := a.next b ok.2.2.1 hn
  have ok1 := nxt_ok t ok.2.2.1
  have qh1 := qh.frT f1 hx
  obtain ⟨h2, f2, alt⟩ := t_num (n := n) (p3 := -1) (lo := 1) (hi := 4) a1 b ok1 (by decide) (by decide) hn
  have start : f_X5_readLaw n h q hb = (f_X5_readNumber n h1 q (nI 1) (nI 4) (-1)).bind fun q4 => if q4.1 = -1 then some (0, q4.2) else (x_put q4.2 hb 0 7 (.int q4.1)).bind fun h5 => some (1, h5) := by
    unfold f_X5_readLaw
    rw [a.ob, Option.bind_some, e1, Option.bind_some, a1.ob, Option.bind_some]
    rfl
  rcases alt with ⟨e2, eh, hno⟩ | ⟨e2, hp, -, a2⟩
  · have hp : pNum t (nxt t τ.2.2) 1 4 = none := by
      rcases hno with z | z
      · exact z
      · cases e : pNum t (nxt t τ.2.2) 1 4 with
        | none => rfl
        | some x =>
          obtain ⟨v, τ'⟩ := x
          obtain ⟨g1, -, -, g4, -⟩ := pNum_lt e
          exact absurd z (m1_ne (by omega))
    rw [eh] at e2
    refine ⟨h1, 0, by rw [start, e2, Option.bind_some, if_pos rfl], FrTH.ofT f1, ?_⟩
    unfold pLaw
    rw [hp]
    exact ⟨rfl, ⟨_, a1, rfl⟩, qh1⟩
  · obtain ⟨g1, -⟩ := pNum_lt hp
    obtain ⟨h3, e3, q3, f3⟩ := (qh1.frT f2 hx).putL (nI (numV t (nxt t τ.2.2)))
    refine ⟨h3, 1, by rw [start, e2, Option.bind_some, if_neg (fun z => m1_ne (x := numV t (nxt t τ.2.2)) (by omega) z.symm), e3, Option.bind_some], (FrTH.ofT f1).trans ((FrTH.ofT f2).trans (FrTH.ofB f3)), ?_⟩
    unfold pLaw
    rw [hp]
    exact ⟨rfl, a2.frB f3 hx, q3⟩
theorem t_readWind (a : TTk h q t fb τ) (b : TB t fb) (ok : TkOk t τ) (qh : HAt h hb H) (hx : q + 2 ≤ hb ∨ hb + 5 ≤ q) (hn : 300 ≤ n) : ∃ h' r, f_X5_readWind n h q hb = some (r, h') ∧ RSt h h' q hb t fb H r (pWind t H (nxt t τ.2.2)) := by
  obtain ⟨h1, e1, a1, f1⟩ := a.next b ok.2.2.1 hn
  have ok1 := nxt_ok t ok.2.2.1
  have qh1 := qh.frT f1 hx
  obtain ⟨h2, f2, alt⟩ := t_num (n := n) (p3 := -1) (lo := 0) (hi := 99) a1 b ok1 (by decide) (by decide) hn
  have start : f_X5_readWind n h q hb = (f_X5_readNumber n h1 q (nI 0) (nI 99) (-1)).bind fun q4 => if q4.1 = -1 then some (0, q4.2) else (x_put q4.2 hb 0 8 (.int q4.1)).bind fun h5 => some (1, h5) := by
    unfold f_X5_readWind
    rw [a.ob, Option.bind_some, e1, Option.bind_some, a1.ob, Option.bind_some]
    rfl
  rcases alt with ⟨e2, eh, hno⟩ | ⟨e2, hp, -, a2⟩
  · have hp : pNum t (nxt t τ.2.2) 0 99 = none := by
      rcases hno with z | z
      · exact z
      · cases e : pNum t (nxt t τ.2.2) 0 99 with
        | none => rfl
        | some x =>
          obtain ⟨v, τ'⟩ := x
          obtain ⟨g1, -, -, g4, -⟩ := pNum_lt e
          exact absurd z (m1_ne (by omega))
    rw [eh] at e2
    refine ⟨h1, 0, by rw [start, e2, Option.bind_some, if_pos rfl], FrTH.ofT f1, ?_⟩
    unfold pWind
    rw [hp]
    exact ⟨rfl, ⟨_, a1, rfl⟩, qh1⟩
  · obtain ⟨g1, -⟩ := pNum_lt hp
    obtain ⟨h3, e3, q3, f3⟩ := (qh1.frT f2 hx).putW (nI (numV t (nxt t τ.2.2)))
    refine ⟨h3, 1, by rw [start, e2, Option.bind_some, if_neg (fun z => m1_ne (x := numV t (nxt t τ.2.2)) (by omega) z.symm), e3, Option.bind_some], (FrTH.ofT f1).trans ((FrTH.ofT f2).trans (FrTH.ofB f3)), ?_⟩
    unfold pWind
    rw [hp]
    exact ⟨rfl, a2.frB f3 hx, q3⟩
theorem pNone {lo hi : Nat} (h99 : hi ≤ 99) (hno : pNum t τ lo hi = none ∨ (-1 : Int32) = nI (numV t τ)) : pNum t τ lo hi = none := by
  rcases hno with z | z
  · exact z
  · cases e : pNum t τ lo hi with
    | none => rfl
    | some x =>
      obtain ⟨v, τ'⟩ := x
      obtain ⟨g1, -, -, g4, -⟩ := pNum_lt e
      exact absurd z (m1_ne (by omega))
theorem t_readMoves (a : TTk h q t fb τ) (b : TB t fb) (ok : TkOk t τ) (qh : HAt h hb H) (hH : HOk H) (hx : q + 2 ≤ hb ∨ hb + 5 ≤ q) (hn : 300 ≤ n) : ∃ h' r, f_X5_readMoves n h q hb = some (r, h') ∧ RSt h h' q hb t fb H r (pMoves t H (nxt t τ.2.2)) := by
  obtain ⟨h1, e1, a1, f1⟩ := a.next b ok.2.2.1 hn
  have ok1 := nxt_ok t ok.2.2.1
  have h4 := hH.2.1
  have qh1 := qh.frT f1 hx
  have start : f_X5_readMoves n h q hb = (f_X5_readNumber n h1 q 0 (nI (hP H) - 1) (-1)).bind fun q5 => if q5.1 = -1 then some (0, q5.2) else (x_ob q5.2 q 5).bind fun _ => (f_X5_readNumber n q5.2 q (nI 0) (nI 7) (-1)).bind fun q7 => if q7.1 = -1 then some (0, q7.2) else (x_gR q7.2 hb 0 3).bind fun a8 => (x_st q7.2 a8 q5.1 q7.1).bind fun h9 => some (1, h9) := by
    unfold f_X5_readMoves
    rw [a.ob, Option.bind_some, e1, Option.bind_some, qh1.P, Option.bind_some, a1.ob, Option.bind_some]
    rfl
  unfold pMoves
  by_cases h0 : hP H = 0
  · rw [if_pos h0]
    rw [h0, show nI 0 - 1 = (-1 : Int32) from by decide, t_num0 a1 b ok1 hn, Option.bind_some, if_pos rfl] at start
    exact ⟨h1, 0, start, FrTH.ofT f1, rfl, ⟨_, a1, rfl⟩, qh1⟩
  · rw [if_neg h0]
    rw [show nI (hP H) - 1 = nI (hP H - 1) from pk_sub (b := 1) (by omega)] at start
    obtain ⟨h2, f2, alt⟩ := t_num (n := n) (p3 := -1) (lo := 0) (hi := hP H - 1) a1 b ok1 (by decide) (by omega) hn
    rcases alt with ⟨e2, eh, hno⟩ | ⟨e2, hp, -, a2⟩
    · have hp := pNone (by omega) hno
      rw [eh] at e2
      refine ⟨h1, 0, by rw [start, show (0 : Int32) = nI 0 from rfl, e2, Option.bind_some, if_pos rfl], FrTH.ofT f1, ?_⟩
      rw [hp]
      exact ⟨rfl, ⟨_, a1, rfl⟩, qh1⟩
    · obtain ⟨g1, -⟩ := pNum_lt hp
      have ok2 := nxt_ok t ok1.2.2.1
      have qh2 := qh1.frT f2 hx
      obtain ⟨h3, f3, alt3⟩ := t_num (n := n) (p3 := -1) (lo := 0) (hi := 7) a2 b ok2 (by decide) (by decide) hn
      rcases alt3 with ⟨e3, eh, hno3⟩ | ⟨e3, hp3, -, a3⟩
      · have hp3 := pNone (by decide) hno3
        rw [eh] at e3
        refine ⟨h2, 0, by rw [start, show (0 : Int32) = nI 0 from rfl, e2, Option.bind_some, if_neg (fun z => m1_ne (x := numV t (nxt t τ.2.2)) (by omega) z.symm), a2.ob, Option.bind_some, e3, Option.bind_some, if_pos rfl], (FrTH.ofT f1).trans (FrTH.ofT f2), ?_⟩
        rw [hp]
        dsimp only
        rw [hp3]
        exact ⟨rfl, ⟨_, a2, rfl⟩, qh2⟩
      · obtain ⟨g3, -⟩ := pNum_lt hp3
        have qh3 := qh2.frT f3 hx
        obtain ⟨h5, e5, q5, f5⟩ := qh3.stR h4 (show numV t (nxt t τ.2.2) < hP H by omega) (nI (numV t (nxt t (nxt t τ.2.2).2.2)))
        refine ⟨h5, 1, by rw [start, show (0 : Int32) = nI 0 from rfl, e2, Option.bind_some, if_neg (fun z => m1_ne (x := numV t (nxt t τ.2.2)) (by omega) z.symm), a2.ob, Option.bind_some, e3, Option.bind_some, if_neg (fun z => m1_ne (x := numV t (nxt t (nxt t τ.2.2).2.2)) (by omega) z.symm), qh3.rr, Option.bind_some, e5, Option.bind_some], (FrTH.ofT f1).trans ((FrTH.ofT f2).trans ((FrTH.ofT f3).trans (FrTH.ofB f5))), ?_⟩
        rw [hp]
        dsimp only
        rw [hp3]
        exact ⟨rfl, a3.frB f5 hx, q5⟩
theorem t_readDoor (a : TTk h q t fb τ) (b : TB t fb) (ok : TkOk t τ) (qh : HAt h hb H) (hH : HOk H) (hD14 : hD H < 14) (hx : q + 2 ≤ hb ∨ hb + 5 ≤ q) (hn : 300 ≤ n) : ∃ h' r, f_X5_readDoor n h q hb = some (r, h') ∧ RSt h h' q hb t fb H r (pDoor t H (nxt t τ.2.2)) := by
  obtain ⟨h1, e1, a1, f1⟩ := a.next b ok.2.2.1 hn
  have ok1 := nxt_ok t ok.2.2.1
  have qh1 := qh.frT f1 hx
  obtain ⟨k1, ek1⟩ : ∃ k, k = nxt t τ.2.2 := ⟨_, rfl⟩
  rw [← ek1] at a1 ok1 ⊢
  obtain ⟨h2, f2, alt⟩ := t_num (n := n) (p3 := -1) (lo := 0) (hi := 5) a1 b ok1 (by decide) (by decide) hn
  have start : f_X5_readDoor n h q hb = (f_X5_readNumber n h1 q (nI 0) (nI 5) (-1)).bind fun q4 => if q4.1 = -1 then some (0, q4.2) else (x_ob q4.2 q 5).bind fun _ => (f_X5_readNumber n q4.2 q (nI 0) (nI 7) (-1)).bind fun q6 => if q6.1 = -1 then some (0, q6.2) else ((if q4.1 = 1 then some (-1 : Int32) else some q6.1)).bind fun q7 => (x_ob q6.2 q 5).bind fun _ => (f_X5_readNumber n q6.2 q (nI 0) (nI 7) q7).bind fun q10 => if q10.1 = -1 then some (0, q10.2) else (x_ob q10.2 hb 0).bind fun _ => (f_X0_addDoor q10.2 hb q4.1 q6.1 q10.1).bind fun q12 => (x_ob q12.2 q 5).bind fun _ => (f_X5_isWord n q12.2 q 8).bind fun q14 => if q14 = 0 then some (1, q12.2) else (x_gI q12.2 hb 0 5).bind fun x15 => (x_put q12.2 hb 0 5 (.int (x15 ||| (i_shl 1 q12.1)))).bind fun h16 => (x_ob h16 q 5).bind fun _ => (f_X5_nextToken n h16 q).bind fun q18 => some (1, q18) := by
    unfold f_X5_readDoor
    rw [a.ob, Option.bind_some, e1, Option.bind_some, a1.ob, Option.bind_some]
    rfl
  unfold pDoor
  rcases alt with ⟨e2, eh, hno⟩ | ⟨e2, hp, -, a2⟩
  · have hp := pNone (by decide) hno
    rw [eh] at e2
    refine ⟨h1, 0, by rw [start, e2, Option.bind_some, if_pos rfl], FrTH.ofT f1, ?_⟩
    rw [hp]
    exact ⟨rfl, ⟨_, a1, rfl⟩, qh1⟩
  · obtain ⟨g1, -⟩ := pNum_lt hp
    have ok2 := nxt_ok t ok1.2.2.1
    have qh2 := qh1.frT f2 hx
    rw [hp]
    rw [e2, Option.bind_some, if_neg (fun z => m1_ne (x := numV t k1) (by omega) z.symm), a2.ob, Option.bind_some] at start
    obtain ⟨k2, ek2⟩ : ∃ k, k = nxt t k1.2.2 := ⟨_, rfl⟩
    rw [← ek2] at a2 ok2 ⊢
    obtain ⟨h3, f3, alt3⟩ := t_num (n := n) (p3 := -1) (lo := 0) (hi := 7) a2 b ok2 (by decide) (by decide) hn
    rcases alt3 with ⟨e3, eh, hno3⟩ | ⟨e3, hp3, -, a3⟩
    · have hp3 := pNone (by decide) hno3
      rw [eh] at e3
      refine ⟨h2, 0, by rw [start, e3, Option.bind_some, if_pos rfl], (FrTH.ofT f1).trans (FrTH.ofT f2), ?_⟩
      dsimp only
      rw [hp3]
      exact ⟨rfl, ⟨_, a2, rfl⟩, qh2⟩
    · obtain ⟨g3, -⟩ := pNum_lt hp3
      have ok3 := nxt_ok t ok2.2.2.1
      have qh3 := qh2.frT f3 hx
      dsimp only
      rw [hp3]
      rw [e3, Option.bind_some, if_neg (fun z => m1_ne (x := numV t k2) (by omega) z.symm)] at start
      obtain ⟨k3, ek3⟩ : ∃ k, k = nxt t k2.2.2 := ⟨_, rfl⟩
      rw [← ek3] at a3 ok3 ⊢
      have nev : (if nI (numV t k1) = 1 then some (-1 : Int32) else some (nI (numV t k2))) = some (if numV t k1 = 1 then -1 else nI (numV t k2)) := by
        by_cases c : numV t k1 = 1
        · rw [if_pos (show nI (numV t k1) = 1 by rw [c]; rfl), if_pos c]
        · rw [if_neg (show ¬ nI (numV t k1) = 1 from fun z => c ((nI_eqc (by omega) (by decide)).mp (show nI _ = nI 1 from z))), if_neg c]
      rw [nev, Option.bind_some, a3.ob, Option.bind_some] at start
      obtain ⟨h4, f4, alt4⟩ := t_num (n := n) (p3 := if numV t k1 = 1 then -1 else nI (numV t k2)) (lo := 0) (hi := 7) a3 b ok3 (by decide) (by decide) hn
      dsimp only
      rcases alt4 with ⟨e4, eh, hno4⟩ | ⟨e4, hp4, hne4, a4⟩
      · rw [eh] at e4
        refine ⟨h3, 0, by rw [start, e4, Option.bind_some, if_pos rfl], (FrTH.ofT f1).trans ((FrTH.ofT f2).trans (FrTH.ofT f3)), ?_⟩
        cases e5 : pNum t k3 0 7 with
        | none => exact ⟨rfl, ⟨_, a3, rfl⟩, qh3⟩
        | some x =>
          obtain ⟨bb, τ'⟩ := x
          obtain ⟨y1, y2, y3, y4, y5⟩ := pNum_lt e5
          have hc : numV t k1 ≠ 1 ∧ bb = numV t k2 := by
            rcases hno4 with z | z
            · rw [z] at e5; cases e5
            · by_cases c : numV t k1 = 1
              · rw [if_pos c] at z
                exact absurd z (m1_ne (by omega))
              · rw [if_neg c] at z
                exact ⟨c, by rw [y4]; exact ((nI_eqc (by omega) (by omega)).mp z).symm⟩
          dsimp only
          rw [if_pos hc]
          exact ⟨rfl, ⟨_, a3, rfl⟩, qh3⟩
      · obtain ⟨g4, -⟩ := pNum_lt hp4
        have ok4 := nxt_ok t ok3.2.2.1
        have qh4 := qh3.frT f4 hx
        have hnc : ¬ (numV t k1 ≠ 1 ∧ numV t k3 = numV t k2) := by
          rintro ⟨z1, z2⟩
          apply hne4
          rw [if_neg z1, z2]
        rw [hp4]
        show ∃ h' r, _ ∧ RSt h h' q hb t fb H r (if numV t k1 ≠ 1 ∧ numV t k3 = numV t k2 then (Sum.inl k3.2.1 : RS) else pDoor3 t H (numV t k1) (numV t k2) (numV t k3) (nxt t k3.2.2))
        rw [if_neg hnc]
        obtain ⟨k4, ek4⟩ : ∃ k, k = nxt t k3.2.2 := ⟨_, rfl⟩
        rw [← ek4] at a4 ok4 ⊢
        obtain ⟨h5, e5, q5, f5⟩ := h_addDoor qh4 hD14 (nI (numV t k1)) (nI (numV t k2)) (nI (numV t k3))
        have a5 := a4.frB f5 hx
        have fr5 := (FrTH.ofT f1).trans ((FrTH.ofT f2).trans ((FrTH.ofT f3).trans ((FrTH.ofT (hb := hb) f4).trans (FrTH.ofB f5))))
        rw [e4, Option.bind_some, if_neg (fun z => m1_ne (x := numV t k3) (by omega) z.symm), qh4.ob, Option.bind_some, e5, Option.bind_some, a5.ob, Option.bind_some, t_isWord a5 b ok4 (by decide) (by decide) (by omega), Option.bind_some] at start
        unfold pDoor3
        cases hw : isW t k4 8
        · rw [hw, if_pos (show bI false = 0 from rfl)] at start
          exact ⟨h5, 1, start, fr5, rfl, a5, q5⟩
        · rw [hw, if_neg (show ¬ bI true = 0 by decide)] at start
          obtain ⟨h6, e6, q6, f6⟩ := q5.putO (hO H ||| i_shl 1 (nI (hD H)))
          have a6 := a5.frB f6 hx
          obtain ⟨h7, e7, a7, f7⟩ := a6.next b ok4.2.2.1 hn
          refine ⟨h7, 1, ?_, fr5.trans ((FrTH.ofB f6).trans (FrTH.ofT f7)), ?_⟩
          · rw [start, show x_gI h5 hb 0 5 = some (hO H) from q5.O, Option.bind_some, e6, Option.bind_some, a6.ob, Option.bind_some, e7, Option.bind_some]
          · exact ⟨rfl, a7, q6.frT f7 hx⟩
end TN
