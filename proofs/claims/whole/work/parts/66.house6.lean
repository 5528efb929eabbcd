/-! The least set (class), an evening's turn, told acts. -/
def glS (H : HS) : Nat → Int32 → Int32
  | 0, s => s
  | i + 1, s => glS H i (if bt s i && decide (hLn H ≤ sW H s - wtN (hK H i)) then sClr s i else s)
def sLeast (H : HS) (p d : Nat) : Int32 := if sStands H p d then (if hLn H ≤ sW H (sShutM H) then glS H (hD H) (sShutM H) else -1) else -1
def sTurn1 (H : HS) (p d : Nat) (least : Int32) : HS := if least = -1 then (if sMayWalk H p d then sGo H p d else H) else sOpenFor H d least
def sTurn2 (H : HS) (z1 z2 : Int32) (p d : Nat) : HS := sTurn1 (sSeed (sSeed H z1) z2) p d (sLeast (sSeed (sSeed H z1) z2) p d)
def sTurn (H : HS) : HS := sTurn2 H (sDrawn H) (sDrawn (sSeed H (sDrawn H))) (sVal H (hP H)) (sVal (sSeed H (sDrawn H)) (hD H))
def sAct (H : HS) (w o d s : Int32) : Option HS := if w = 3 then some H else if sIs (hP H) o && sIs (hD H) d then (if w = 0 ∧ sMayWalk H o.toNatClampNeg d.toNatClampNeg = true then some (sGo H o.toNatClampNeg d.toNatClampNeg) else if w = 1 ∧ sSet H s = true ∧ sOpensBy H o.toNatClampNeg d.toNatClampNeg s = true then some (sOpenFor H d.toNatClampNeg s) else if w = 2 ∧ sMayShut H o.toNatClampNeg d.toNatClampNeg = true then some (sO H (sClr (hO H) d.toNatClampNeg)) else none) else none
section HL
variable {h h' : xH} {b d p n lo len : Nat} {H T : HS} {r set x : Int32}
theorem sW_clr (ok : HOk H) (hd : d < hD H) (hb : bt set d = true) : sW H (sClr set d) + wtN (hK H d) = sW H set := by
  have h14 := ok.1
  unfold sW
  rw [sumN_0, sumN_0]
  have hs : sWt H set d = wtN (hK H d) := by unfold sWt; rw [hb]; rfl
  rw [← hs, smB_congr (g := fun j => if j = d then 0 else sWt H set j) (hD H) (fun j hj => by
    unfold sWt
    rw [sClr_bt (by omega) (by omega)]
    by_cases e : j = d
    · subst e; simp
    · simp [e])]
  exact smB_drop (fun j hj => if_neg hj) (if_pos rfl) _ hd
theorem h_least42 (q : HAt h b H) (ok : HOk H) : ∀ (i k : Nat) (s : Int32), i < k → i ≤ hD H → f_X0_leastSet_L42 h b k s (nI (sW H s)) (nI i + (-1)) = some (glS H i s)
  | _, 0, _, hk, _ => absurd hk (by omega)
  | 0, k + 1, s, _, _ => by
    unfold f_X0_leastSet_L42
    rw [if_pos (by decide)]; rfl
  | i + 1, k + 1, s, hk, hi => by
    have h14 := ok.1
    obtain ⟨eL, hL1, hL4⟩ := HOk.L H ok
    have hw := sW_le H ok s
    have hd : i < hD H := by omega
    unfold f_X0_leastSet_L42
    rw [pk_m1, if_neg (nI_pos (by omega))]
    show _ = some (glS H i (if bt s i && decide (hLn H ≤ sW H s - wtN (hK H i)) then sClr s i else s))
    cases e : bt s i
    · rw [if_pos ((b_has _ (by omega)).mpr e)]
      simp only [Option.bind_some]
      rw [h_least42 q ok i k s (by omega) (by omega)]
      rfl
    · rw [if_neg (fun z => by rw [(b_has _ (by omega)).mp z] at e; cases e)]
      have hc := sW_clr ok hd e
      simp only [q.ob, h_weightOf q ok hd, q.L, Option.bind_some, eL]
      rw [pk_sub (show wtN (hK H i) ≤ sW H s by omega)]
      by_cases c : hLn H ≤ sW H s - wtN (hK H i)
      · rw [if_neg (nI_nlt c (by omega)), decide_eq_true c]
        rw [show sW H s - wtN (hK H i) = sW H (sClr s i) by omega]
        show f_X0_leastSet_L42 h b k (sClr s i) _ _ = _
        rw [h_least42 q ok i k (sClr s i) (by omega) (by omega)]
        rfl
      · rw [if_pos (nI_lt (by omega) (by omega)), decide_eq_false c]
        rw [h_least42 q ok i k s (by omega) (by omega)]
        rfl
theorem nI_m1 (a : Nat) : nI a - 1 = nI a + (-1) := Int32.sub_eq_add_neg _ _
theorem h_leastSet (q : HAt h b H) (ok : HOk H) (hn : 20 ≤ n) (hp : p < hP H) (hd : d < hD H) : f_X0_leastSet n h b (nI p) (nI d) = some (sLeast H p d) := by
  have h14 := ok.1
  obtain ⟨eL, hL1, hL4⟩ := HOk.L H ok
  have hw := sW_le H ok (sShutM H)
  simp only [f_X0_leastSet, q.ob, h_stands q ok hp hd, h_shuttable q ok hn, h_weigh q ok hn, q.L, q.D, Option.bind_some, eL]
  unfold sLeast sStands
  cases !bt (hO H) d && sOpens H d (hR H p)
  · rw [if_pos ((bI_0 _).mpr rfl)]; rfl
  · rw [if_neg (by decide), if_pos rfl]
    by_cases c : hLn H ≤ sW H (sShutM H)
    · rw [if_pos (nI_le c (by omega)), if_pos c, nI_m1, h_least42 q ok (hD H) n _ (by omega) (by omega)]
      rfl
    · rw [if_neg (fun z => c ((nI_leI (by omega) (by omega)).mp z)), if_neg c]
theorem HOk.seed (ok : HOk H) (z : Int32) : HOk (sSeed H z) := ok
theorem sVal_lt (H : HS) {m : Nat} (h : 0 < m) : sVal H m < m := Nat.mod_lt _ h
theorem h_turn2 {z1 z2 : Int32} {p d : Nat} (ok : HOk H) (hn : 20 ≤ n) (hp : p < hP H) (hd : d < hD H) (q : HAt h b H) (d1 : ∃ h1, f_X0_draw h b (nI (hP H)) = some (nI p, h1) ∧ HAt h1 b (sSeed H z1) ∧ FrB b 5 h h1) (d2 : ∀ h1, HAt h1 b (sSeed H z1) → ∃ h2, f_X0_draw h1 b (nI (hD H)) = some (nI d, h2) ∧ HAt h2 b (sSeed (sSeed H z1) z2) ∧ FrB b 5 h1 h2) : ∃ h', f_X0_takeTurn n h b = some h' ∧ HAt h' b (sTurn2 H z1 z2 p d) ∧ FrB b 5 h h' := by
  have h14 := ok.1
  have h4 := ok.2.1
  obtain ⟨h1, e1, q1, f1⟩ := d1
  obtain ⟨h2, e2, q2, f2⟩ := d2 h1 q1
  have ok2 : HOk (sSeed (sSeed H z1) z2) := (ok.seed z1).seed z2
  unfold f_X0_takeTurn sTurn2 sTurn1
  rw [q.P, Option.bind_some, q.ob, Option.bind_some, e1, Option.bind_some, q1.D, Option.bind_some, q1.ob, Option.bind_some, pj_sSeed_D, e2, Option.bind_some, q2.ob, Option.bind_some, h_hasOne q2, Option.bind_some]
  rw [show sIs (hP (sSeed (sSeed H z1) z2)) (nI p) = true from (sIs_iff (show hP H < 2 ^ 31 by omega) _).mpr ⟨p, hp, rfl⟩, if_neg (by decide), Option.bind_some, h_hasDoor q2, Option.bind_some]
  rw [show sIs (hD (sSeed (sSeed H z1) z2)) (nI d) = true from (sIs_iff (show hD H < 2 ^ 31 by omega) _).mpr ⟨d, hd, rfl⟩, if_neg (by decide), Option.bind_some]
  simp only [Option.bind_some]
  rw [h_leastSet q2 ok2 hn hp hd, Option.bind_some]
  by_cases c : sLeast (sSeed (sSeed H z1) z2) p d = -1
  · rw [if_pos c, if_pos c, h_mayWalk q2 ok2 hp hd, Option.bind_some]
    unfold sMayWalk
    cases (bt (hO (sSeed (sSeed H z1) z2)) d && !decide (hK (sSeed (sSeed H z1) z2) d = 1) && sAt (sSeed (sSeed H z1) z2) d (hR (sSeed (sSeed H z1) z2) p))
    · rw [if_pos (show bI false = 0 from rfl), if_neg (by decide)]
      exact ⟨h2, rfl, q2, f1.trans f2⟩
    · rw [if_neg (show ¬ bI true = 0 by decide), if_pos rfl]
      obtain ⟨h3, e3, q3, f3⟩ := h_goThrough q2 ok2 hp hd
      exact ⟨h3, by rw [e3]; rfl, q3, f1.trans (f2.trans f3)⟩
  · rw [if_neg c, if_neg c]
    obtain ⟨h3, e3, q3, f3⟩ := h_openFor (d := d) (set := sLeast (sSeed (sSeed H z1) z2) p d) q2
    exact ⟨h3, by rw [e3]; rfl, q3, f1.trans (f2.trans f3)⟩
theorem h_takeTurn (ok : HOk H) (hn : 20 ≤ n) (hp : 0 < hP H) (hd : 0 < hD H) (q : HAt h b H) : ∃ h', f_X0_takeTurn n h b = some h' ∧ HAt h' b (sTurn H) ∧ FrB b 5 h h' := by
  have h14 := ok.1
  have h4 := ok.2.1
  exact h_turn2 ok hn (sVal_lt H hp) (sVal_lt _ hd) q (h_draw q hp (by omega)) (fun h1 q1 => h_draw q1 hd (by omega))
def aW (a : Int64) : Int32 := ((l_shr a 22) &&& 3).toInt32
def aO (a : Int64) : Int32 := ((l_shr a 20) &&& 3).toInt32
def aD (a : Int64) : Int32 := ((l_shr a 16) &&& 15).toInt32
def aS (a : Int64) : Int32 := (a &&& 65535).toInt32
theorem h_play129 {w : Int32} (q : HAt h b H) (ok : HOk H) (hp : p < hP H) (hd : d < hD H) : ∃ h', f_X0_playAct_J129 n h b w (nI p) (nI d) = some (bI (decide (w = 2) && sMayShut H p d), h') ∧ HAt h' b (if w = 2 ∧ sMayShut H p d = true then sO H (sClr (hO H) d) else H) ∧ FrB b 5 h h' := by
  unfold f_X0_playAct_J129
  by_cases c : w = 2
  · rw [if_pos c, q.ob, Option.bind_some, h_mayShut q ok hp hd, Option.bind_some, decide_eq_true c]
    unfold sMayShut
    cases (bt (hO H) d && sShuts H d (hR H p))
    · rw [if_pos (show bI false = 0 from rfl), if_neg (fun z => by cases z.2)]
      exact ⟨h, rfl, q, FrB.rfl⟩
    · rw [if_neg (show ¬ bI true = 0 by decide), if_pos ⟨c, rfl⟩, q.O, Option.bind_some]
      obtain ⟨h1, e1, q1, f1⟩ := q.putO (sClr (hO H) d)
      exact ⟨h1, by rw [show x_put h b 0 5 (.int (hO H &&& (i_shl 1 (nI d) ^^^ (-1)))) = some h1 from e1]; rfl, q1, f1⟩
  · rw [if_neg c, if_neg (fun z => c z.1), decide_eq_false c]
    exact ⟨h, rfl, q, FrB.rfl⟩
theorem h_play92 {w s : Int32} (q : HAt h b H) (ok : HOk H) (hn : 20 ≤ n) (hp : p < hP H) (hd : d < hD H) : ∃ h', f_X0_playAct_J92 n h b w (nI p) (nI d) s = some (bI ((decide (w = 1) && (sSet H s && sOpensBy H p d s)) || (decide (w = 2) && sMayShut H p d)), h') ∧ HAt h' b (if w = 1 ∧ sSet H s = true ∧ sOpensBy H p d s = true then sOpenFor H d s else if w = 2 ∧ sMayShut H p d = true then sO H (sClr (hO H) d) else H) ∧ FrB b 5 h h' := by
  obtain ⟨h1, e1, q1, f1⟩ := h_play129 (w := w) (n := n) q ok hp hd
  unfold f_X0_playAct_J92
  by_cases c : w = 1
  · rw [if_pos c, q.ob, Option.bind_some, h_hasDoors q, Option.bind_some, decide_eq_true c]
    cases hs : sSet H s
    · rw [if_pos (show bI false = 0 from rfl), if_neg (fun z => by cases z.2.1)]
      exact ⟨h1, e1, q1, f1⟩
    · rw [if_neg (show ¬ bI true = 0 by decide), Option.bind_some, h_opensBy q ok hn hp hd, Option.bind_some, show (!bt (hO H) d && sOpens H d (hR H p) && decide (s &&& (sShutM H ^^^ (-1)) = 0) && sEn H s) = sOpensBy H p d s from rfl]
      cases ho : sOpensBy H p d s
      · rw [if_pos (show bI false = 0 from rfl), if_neg (fun z => by cases z.2.2)]
        exact ⟨h1, e1, q1, f1⟩
      · rw [if_neg (show ¬ bI true = 0 by decide), if_pos ⟨c, rfl, rfl⟩, Option.bind_some]
        obtain ⟨h2, e2, q2, f2⟩ := h_openFor (d := d) (set := s) q
        exact ⟨h2, by rw [e2]; rfl, q2, f2⟩
  · rw [if_neg c, if_neg (fun z => c z.1), decide_eq_false c]
    exact ⟨h1, e1, q1, f1⟩
theorem h_playAct {a : Int64} (q : HAt h b H) (ok : HOk H) (hn : 20 ≤ n) : ∃ h', f_X0_playAct n h b a = some (bI (sAct H (aW a) (aO a) (aD a) (aS a)).isSome, h') ∧ HAt h' b ((sAct H (aW a) (aO a) (aD a) (aS a)).getD H) ∧ FrB b 5 h h' := by
  have h14 := ok.1
  have h4 := ok.2.1
  unfold f_X0_playAct
  simp only [Option.bind_some]
  show ∃ h', (if aW a = 3 then _ else (x_ob h b 0).bind fun u5 => (f_X0_hasOne h b (aO a)).bind fun q6 => if q6 = 0 then _ else (x_ob h b 0).bind fun u7 => (f_X0_hasDoor h b (aD a)).bind fun q8 => if q8 = 0 then _ else if aW a = 0 then (x_ob h b 0).bind fun u9 => (f_X0_mayWalk h b (aO a) (aD a)).bind fun q10 => if q10 = 0 then f_X0_playAct_J92 n h b (aW a) (aO a) (aD a) (aS a) else (x_ob h b 0).bind fun u26 => (f_X0_goThrough h b (aO a) (aD a)).bind fun q27 => _ else f_X0_playAct_J92 n h b (aW a) (aO a) (aD a) (aS a)) = _ ∧ _
  generalize aW a = w
  generalize aO a = o
  generalize aD a = dd
  generalize aS a = s
  unfold sAct
  by_cases c : w = 3
  · rw [if_pos c, if_pos c]; exact ⟨h, rfl, q, FrB.rfl⟩
  · rw [if_neg c, if_neg c, q.ob, Option.bind_some, h_hasOne q, Option.bind_some]
    cases ho : sIs (hP H) o
    · rw [if_pos (show bI false = 0 from rfl), if_neg (by simp)]
      exact ⟨h, rfl, q, FrB.rfl⟩
    · rw [if_neg (show ¬ bI true = 0 by decide), Option.bind_some, h_hasDoor q, Option.bind_some]
      cases hD' : sIs (hD H) dd
      · rw [if_pos (show bI false = 0 from rfl), if_neg (by simp)]
        exact ⟨h, rfl, q, FrB.rfl⟩
      · rw [if_neg (show ¬ bI true = 0 by decide), if_pos (show (true && true) = true from rfl)]
        obtain ⟨p, hp, rfl⟩ := (sIs_iff (by omega) _).mp ho
        obtain ⟨d, hd, rfl⟩ := (sIs_iff (by omega) _).mp hD'
        rw [nI_clamp (by omega), nI_clamp (by omega)]
        obtain ⟨h1, e1, q1, f1⟩ := h_play92 (w := w) (s := s) q ok hn hp hd
        have key : ∀ X : Option HS, X = (if w = 1 ∧ sSet H s = true ∧ sOpensBy H p d s = true then some (sOpenFor H d s) else if w = 2 ∧ sMayShut H p d = true then some (sO H (sClr (hO H) d)) else none) → ∃ h', f_X0_playAct_J92 n h b w (nI p) (nI d) s = some (bI X.isSome, h') ∧ HAt h' b (X.getD H) ∧ FrB b 5 h h' := by
          intro X hX
          refine ⟨h1, ?_, ?_, f1⟩
          · rw [e1, hX]
            by_cases c1 : w = 1 ∧ sSet H s = true ∧ sOpensBy H p d s = true
            · rw [if_pos c1, c1.1, c1.2.1, c1.2.2]; rfl
            · rw [if_neg c1]
              have : (decide (w = 1) && (sSet H s && sOpensBy H p d s)) = false := by
                rw [Bool.eq_false_iff]
                intro z
                simp only [Bool.and_eq_true, decide_eq_true_eq] at z
                exact c1 z
              rw [this]
              by_cases c2 : w = 2 ∧ sMayShut H p d = true
              · rw [if_pos c2, c2.1, c2.2]; rfl
              · rw [if_neg c2]
                have : (decide (w = 2) && sMayShut H p d) = false := by
                  rw [Bool.eq_false_iff]
                  intro z
                  simp only [Bool.and_eq_true, decide_eq_true_eq] at z
                  exact c2 z
                rw [this]; rfl
          · rw [hX]
            by_cases c1 : w = 1 ∧ sSet H s = true ∧ sOpensBy H p d s = true
            · rw [if_pos c1] at q1 ⊢; exact q1
            · rw [if_neg c1] at q1 ⊢
              by_cases c2 : w = 2 ∧ sMayShut H p d = true
              · rw [if_pos c2] at q1 ⊢; exact q1
              · rw [if_neg c2] at q1 ⊢; exact q1
        by_cases c0 : w = 0
        · rw [if_pos c0, h_mayWalk q ok hp hd, show (bt (hO H) d && !decide (hK H d = 1) && sAt H d (hR H p)) = sMayWalk H p d from rfl]
          cases hm : sMayWalk H p d
          · rw [Option.bind_some, Option.bind_some, if_pos (show bI false = 0 from rfl), if_neg (fun z => by cases z.2)]
            exact key _ rfl
          · rw [Option.bind_some, Option.bind_some, if_neg (show ¬ bI true = 0 by decide), if_pos ⟨c0, rfl⟩]
            obtain ⟨h2, e2, q2, f2⟩ := h_goThrough q ok hp hd
            exact ⟨h2, by rw [e2]; rfl, q2, f2⟩
        · rw [if_neg c0, if_neg (fun z => c0 z.1)]
          exact key _ rfl
end HL
