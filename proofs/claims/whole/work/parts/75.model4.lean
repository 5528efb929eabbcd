/-! The reference: told acts, wind, an evening's turn. -/
theorem and3 (v : Int64) : ∃ k, k < 4 ∧ (v &&& 3).toInt32 = nI k := by
  have h1 : (v &&& 3).toInt32.toBitVec.toNat = (v.toBitVec.toNat &&& 3) % 2 ^ 32 := by
    rw [Int64.toBitVec_toInt32, BitVec.signExtend_eq_setWidth_of_le _ (by decide), BitVec.toNat_setWidth]; rfl
  have h2 : v.toBitVec.toNat &&& 3 < 4 := Nat.lt_of_le_of_lt Nat.and_le_right (by decide)
  refine ⟨v.toBitVec.toNat &&& 3, h2, ?_⟩
  apply Int32.toBitVec_inj.mp
  apply BitVec.eq_of_toNat_eq
  rw [h1, pk_tn (by omega), Nat.mod_eq_of_lt (by omega)]
section MM
variable {h h' : xH} {m d p n : Nat} {H T : HS} {r set x : Int32}
theorem m_does {a : Int64} (q : MH h m H) (ok : HOk H) (hn : 20 ≤ n) : ∃ h', f_X7_does n h m a = some (bI (sAct H (aW a) (aO a) (aD a) (aS a)).isSome, h') ∧ MH h' m ((sAct H (aW a) (aO a) (aD a) (aS a)).getD H) ∧ FrH m h h' := by
  have h14 := ok.1
  have h4 := ok.2.1
  obtain ⟨kw, hkw, ew⟩ : ∃ k, k < 4 ∧ aW a = nI k := and3 _
  unfold f_X7_does
  simp only [Option.bind_some]
  show ∃ h', (if aW a = 3 then _ else (x_ob h m 7).bind fun u5 => (f_X7_isDoor h m (aD a)).bind fun q6 => if q6 = 0 then _ else (x_ob h m 7).bind fun u7 => (f_X7_isOne h m (aO a)).bind fun q8 => if q8 = 0 then _ else if aW a = 0 then (x_gR h m 7 13).bind fun a9 => (x_ld h a9 (aO a)).bind fun x10 => (x_ob h m 7).bind fun u11 => (f_X7_mayWalk h m (aD a) x10).bind fun q12 => if q12 = 0 then _ else (x_gR h m 7 13).bind fun a13 => (x_gR h m 7 13).bind fun a14 => (x_ld h a14 (aO a)).bind fun x15 => (x_ob h m 7).bind fun u16 => (f_X7_beyond h m (aD a) x15).bind fun q17 => (x_st h a13 (aO a) q17).bind fun h18 => _ else if aW a = 1 then (x_ob h m 7).bind fun u21 => (f_X7_isSet h m (aS a)).bind fun q22 => if q22 = 0 then _ else (x_ob h m 7).bind fun u23 => (f_X7_mayOpenBy n h m (aO a) (aD a) (aS a)).bind fun q24 => if q24 = 0 then _ else (x_ob h m 7).bind fun u25 => (f_X7_opens h m (aD a) (aS a)).bind fun q26 => _ else (x_gR h m 7 13).bind fun a30 => (x_ld h a30 (aO a)).bind fun x31 => (x_ob h m 7).bind fun u32 => (f_X7_mayShut h m (aD a) x31).bind fun q33 => if q33 = 0 then _ else (x_gI h m 7 11).bind fun x34 => (x_put h m 7 11 (.int (x34 &&& ((i_shl 1 (aD a)) ^^^ (-1))))).bind fun h35 => _) = _ ∧ _
  generalize aW a = w at ew
  generalize aO a = o
  generalize aD a = dd
  generalize aS a = s
  unfold sAct
  by_cases c : w = 3
  · rw [if_pos c, if_pos c]; exact ⟨h, rfl, q, FrH.rfl⟩
  · rw [if_neg c, if_neg c]
    simp only [q.ob, Option.bind_some, m_isDoor q ok, m_isOne q ok]
    cases hd' : sIs (hD H) dd
    · rw [if_pos (show bI false = 0 from rfl), if_neg (by simp)]
      exact ⟨h, rfl, q, FrH.rfl⟩
    · rw [if_neg (show ¬ bI true = 0 by decide)]
      cases ho : sIs (hP H) o
      · rw [if_pos (show bI false = 0 from rfl), if_neg (by simp)]
        exact ⟨h, rfl, q, FrH.rfl⟩
      · rw [if_neg (show ¬ bI true = 0 by decide), if_pos (show (true && true) = true from rfl)]
        obtain ⟨p, hp, rfl⟩ := (sIs_iff (by omega) _).mp ho
        obtain ⟨d, hd, rfl⟩ := (sIs_iff (by omega) _).mp hd'
        rw [nI_clamp (by omega), nI_clamp (by omega)]
        simp only [q.rr, q.ldR ok hp, Option.bind_some, m_mayWalk q ok hd, m_beyond q ok hd, m_isSet q ok, m_mayOpenBy q ok hn hp hd, m_mayShut q ok hd, q.O]
        rw [show (bt (hO H) d && !decide (hK H d = 1) && sAt H d (hR H p)) = sMayWalk H p d from rfl, show (bt (hO H) d && sShuts H d (hR H p)) = sMayShut H p d from rfl]
        by_cases c0 : w = 0
        · rw [if_pos c0]
          have n1 : ¬ w = 1 := by rw [c0]; decide
          have n2 : ¬ w = 2 := by rw [c0]; decide
          cases hm : sMayWalk H p d
          · rw [if_pos (show bI false = 0 from rfl), if_neg (fun z => by cases z.2), if_neg (fun z => n1 z.1), if_neg (fun z => n2 z.1)]
            exact ⟨h, rfl, q, FrH.rfl⟩
          · rw [if_neg (show ¬ bI true = 0 by decide), if_pos ⟨c0, rfl⟩]
            obtain ⟨h2, e2, q2, f2⟩ := q.stR h4 hp (sBey H d (hR H p))
            exact ⟨h2, by rw [e2]; rfl, q2, f2⟩
        · rw [if_neg c0, if_neg (c := w = 0 ∧ sMayWalk H p d = true) (fun z => c0 z.1)]
          by_cases c1 : w = 1
          · have n2 : ¬ w = 2 := by rw [c1]; decide
            rw [if_pos c1]
            cases hs : sSet H s
            · rw [if_pos (show bI false = 0 from rfl), if_neg (fun z => by cases z.2.1), if_neg (fun z => n2 z.1)]
              exact ⟨h, rfl, q, FrH.rfl⟩
            · rw [if_neg (show ¬ bI true = 0 by decide)]
              cases hb : sOpensBy H p d s
              · rw [if_pos (show bI false = 0 from rfl), if_neg (fun z => by cases z.2.2), if_neg (fun z => n2 z.1)]
                exact ⟨h, rfl, q, FrH.rfl⟩
              · rw [if_neg (show ¬ bI true = 0 by decide), if_pos ⟨c1, rfl, rfl⟩]
                obtain ⟨h2, e2, q2, f2⟩ := m_opens (d := d) (set := s) q
                exact ⟨h2, by rw [e2]; rfl, q2, f2⟩
          · rw [if_neg c1, if_neg (c := w = 1 ∧ sSet H s = true ∧ sOpensBy H p d s = true) (fun z => c1 z.1)]
            have c2 : w = 2 := by
              have : kw = 0 ∨ kw = 1 ∨ kw = 2 ∨ kw = 3 := by omega
              rcases this with rfl | rfl | rfl | rfl
              · exact absurd ew c0
              · exact absurd ew c1
              · exact ew
              · exact absurd ew c
            cases hm : sMayShut H p d
            · rw [if_pos (show bI false = 0 from rfl), if_neg (fun z => by cases z.2)]
              exact ⟨h, rfl, q, FrH.rfl⟩
            · rw [if_neg (show ¬ bI true = 0 by decide), if_pos ⟨c2, rfl⟩]
              obtain ⟨h2, e2, q2, f2⟩ := q.putO (sClr (hO H) d)
              exact ⟨h2, by rw [show x_put h m 7 11 (.int (hO H &&& (i_shl 1 (nI d) ^^^ (-1)))) = some h2 from e2]; rfl, q2, f2⟩
theorem m_blow1 {G : HS × Nat} {i v k : Nat} {z : Int32} (q : MH h m G.1) (hi : i < hD G.1) (h14 : hD G.1 ≤ 14) (dr : ∃ h', f_X7_draw h m 100 = some (nI v, h') ∧ MH h' m (sSeed G.1 z) ∧ FrH m h h') : ∃ s' : Int32 × xH, f_X7_night_L4 m (k + 1) (nI G.2) (nI i) h = f_X7_night_L4 m k s'.1 (nI (i + 1)) s'.2 ∧ s'.1 = nI (sBl2 G i (decide (hW G.1 ≤ nI v)) z).2 ∧ MH s'.2 m (sBl2 G i (decide (hW G.1 ≤ nI v)) z).1 ∧ FrH m h s'.2 := by
  rw [f_X7_night_L4]
  unfold sBl2
  simp only [q.D, Option.bind_some, q.ob, q.O, m_has (show i < 32 by omega)]
  rw [if_neg (nI_ge hi (by omega))]
  cases hb : bt (hO G.1) i
  · rw [if_pos (show bI false = 0 from rfl), if_neg (by decide)]
    obtain ⟨h1, e1, q1, f1⟩ := dr
    rw [e1]
    simp only [Option.bind_some, q1.W, q1.O, nI_1, pj_sSeed_W, pj_sSeed_O]
    by_cases hw : hW G.1 ≤ nI v
    · rw [if_pos hw, decide_eq_true hw, if_pos rfl]
      exact ⟨(nI G.2, h1), rfl, rfl, q1, f1⟩
    · rw [if_neg hw, decide_eq_false hw, if_neg (by decide)]
      obtain ⟨h2, e2, q2, f2⟩ := q1.putO (hO G.1 ||| i_shl 1 (nI i))
      rw [e2]
      exact ⟨(nI (G.2 + 1), h2), rfl, rfl, q2, f1.trans f2⟩
  · rw [if_neg (show ¬ bI true = 0 by decide), if_pos rfl]
    simp only [nI_1]
    exact ⟨(nI G.2, h), rfl, rfl, q, FrH.rfl⟩
theorem m_night (q : MH h m H) (h14 : hD H ≤ 14) (hn : 20 ≤ n) : ∃ h', f_X7_night n h m = some (nI (sBlow H (hD H)).2, h') ∧ MH h' m (sBlow H (hD H)).1 ∧ FrH m h h' := by
  have := lp0 (L := fun k (s : Int32 × xH) i => f_X7_night_L4 m k s.1 (nI i) s.2) (I := fun i s => s.1 = nI (sBlow H i).2 ∧ MH s.2 m (sBlow H i).1 ∧ FrH m h s.2) (R := fun s => s.1 = nI (sBlow H (hD H)).2 ∧ MH s.2 m (sBlow H (hD H)).1 ∧ FrH m h s.2) (D := hD H) (n := n) (s := (0, h)) (by omega)
    ⟨rfl, q, FrH.rfl⟩
    (fun k s hs => by
      refine ⟨s, ?_, hs⟩
      obtain ⟨c1, c2, c3⟩ := hs
      show f_X7_night_L4 m (k + 1) s.1 (nI (hD H)) s.2 = _
      unfold f_X7_night_L4
      simp only [c2.D, Option.bind_some, (sBlow_D H (hD H)).1]
      rw [if_pos (nI_le (Nat.le_refl _) (by omega))])
    (fun k s i hi hs => by
      right
      obtain ⟨c1, c2, c3⟩ := hs
      have eD := (sBlow_D H i).1
      obtain ⟨s', e1, e2, e3, e4⟩ := m_blow1 (k := k) (i := i) c2 (by omega) (by omega) (m_draw c2 (k := 100) (by omega) (by omega))
      refine ⟨s', ?_, e2, e3, c3.trans e4⟩
      show f_X7_night_L4 m (k + 1) s.1 (nI i) s.2 = _
      rw [c1]
      exact e1)
  obtain ⟨s, e, c1, c2, c3⟩ := this
  refine ⟨s.2, ?_, c2, c3⟩
  unfold f_X7_night
  rw [show f_X7_night_L4 m n 0 0 h = some s from e, Option.bind_some, c1]
/-- one turn of an evening -/
theorem m_turn2 {z1 z2 v1 : Int32} {p d i k many : Nat} (ok : HOk H) (hn : 20000 ≤ n) (hp : p < hP H) (hd : d < hD H) (q : MH h m H) (hi : ¬ v1 ≤ nI i) (d1 : ∃ h1, f_X7_draw h m (nI (hP H)) = some (nI p, h1) ∧ MH h1 m (sSeed H z1) ∧ FrH m h h1) (d2 : ∀ h1, MH h1 m (sSeed H z1) → ∃ h2, f_X7_draw h1 m (nI (hD H)) = some (nI d, h2) ∧ MH h2 m (sSeed (sSeed H z1) z2) ∧ FrH m h1 h2) : ∃ h', f_X7_evening_L44 n m v1 (k + 1) (nI many) (nI i) h = f_X7_evening_L44 n m v1 k (nI (many + (if sLeast (sSeed (sSeed H z1) z2) p d = -1 then 0 else 1))) (nI (i + 1)) h' ∧ MH h' m (sTurn2 H z1 z2 p d) ∧ FrH m h h' := by
  have h14 := ok.1
  have h4 := ok.2.1
  obtain ⟨h1, e1, q1, f1⟩ := d1
  obtain ⟨h2, e2, q2, f2⟩ := d2 h1 q1
  have ok2 : HOk (sSeed (sSeed H z1) z2) := (ok.seed z1).seed z2
  unfold sTurn2 sTurn1
  rw [f_X7_evening_L44, if_neg hi]
  simp only [q.P, q.ob, Option.bind_some, e1, q1.D, q1.ob, pj_sSeed_D, e2, q2.ob, m_ways1 q2 ok2 hn hp hd, nI_1]
  by_cases c : sLeast (sSeed (sSeed H z1) z2) p d = -1
  · simp only [if_pos c, q2.rr, q2.ldR ok2 hp, m_mayWalk q2 ok2 hd, m_beyond q2 ok2 hd, Option.bind_some]
    rw [show (bt (hO (sSeed (sSeed H z1) z2)) d && !decide (hK (sSeed (sSeed H z1) z2) d = 1) && sAt (sSeed (sSeed H z1) z2) d (hR (sSeed (sSeed H z1) z2) p)) = sMayWalk (sSeed (sSeed H z1) z2) p d from rfl]
    cases sMayWalk (sSeed (sSeed H z1) z2) p d
    · rw [if_pos (show bI false = 0 from rfl), if_neg (by decide)]
      exact ⟨h2, rfl, q2, f1.trans f2⟩
    · rw [if_neg (show ¬ bI true = 0 by decide), if_pos rfl]
      obtain ⟨h3, e3, q3, f3⟩ := q2.stR h4 hp (sBey (sSeed (sSeed H z1) z2) d (hR (sSeed (sSeed H z1) z2) p))
      exact ⟨h3, by rw [e3]; rfl, q3, f1.trans (f2.trans f3)⟩
  · simp only [if_neg c]
    obtain ⟨h3, e3, q3, f3⟩ := m_opens (d := d) (set := sLeast (sSeed (sSeed H z1) z2) p d) q2
    exact ⟨h3, by rw [e3]; rfl, q3, f1.trans (f2.trans f3)⟩
end MM
