/-! The house stays good: wind, turn, act. -/
section Gd
variable {H : HS}
theorem ok_bl2 {G : HS × Nat} {i : Nat} (ok : HOk G.1) (hi : i < hD G.1) (c : Bool) (z : Int32) : HOk (sBl2 G i c z).1 := by
  have h14 := ok.1
  unfold sBl2
  cases bt (hO G.1) i with
  | true => exact ok
  | false =>
    cases c with
    | true => exact HOk.seed ok z
    | false =>
      have : HOk (sO (sSeed G.1 z) (hO G.1 ||| i_shl 1 (nI i))) := ok_O (HOk.seed ok z) (fun k h1 h2 => by
        have h1' : hD G.1 ≤ k := h1
        rw [b_or, ok.2.2.2.2.2.2 k h1' h2, b_bit (by omega) h2, decide_eq_false (by omega)]
        rfl)
      exact this
theorem ok_blow (ok : HOk H) : ∀ i, i ≤ hD H → HOk (sBlow H i).1
  | 0, _ => ok
  | i + 1, hi => ok_bl2 (ok_blow ok i (by omega)) (by rw [(sBlow_D H i).1]; omega) _ _
theorem ok_turn1 {p d : Nat} (ok : HOk H) (hd : d < hD H) (l : Int32) : HOk (sTurn1 H p d l) := by
  unfold sTurn1
  by_cases c : l = -1
  · rw [if_pos c]
    by_cases c2 : sMayWalk H p d = true
    · rw [if_pos c2]; exact ok_go ok hd
    · rw [if_neg c2]; exact ok
  · rw [if_neg c]; exact ok_openFor ok hd l
theorem ok_turn2 {p d : Nat} (ok : HOk H) (hd : d < hD H) (z1 z2 : Int32) : HOk (sTurn2 H z1 z2 p d) := by
  have o2 : HOk (sSeed (sSeed H z1) z2) := HOk.seed (HOk.seed ok z1) z2
  have hd2 : d < hD (sSeed (sSeed H z1) z2) := hd
  unfold sTurn2
  exact ok_turn1 o2 hd2 _
theorem ok_turn (ok : HOk H) (hd : 0 < hD H) : HOk (sTurn H) := by
  have lt := sVal_lt (sSeed H (sDrawn H)) hd
  unfold sTurn
  exact ok_turn2 ok lt _ _
theorem ok_act (ok : HOk H) (a o d s : Int32) : HOk ((sAct H a o d s).getD H) := by
  unfold sAct
  by_cases c3 : a = 3
  · rw [if_pos c3]; exact ok
  · rw [if_neg c3]
    by_cases ci : (sIs (hP H) o && sIs (hD H) d) = true
    · rw [if_pos ci]
      rw [Bool.and_eq_true] at ci
      have h14 := ok.1
      obtain ⟨j, hj, e⟩ := (sIs_iff (by omega) d).mp ci.2
      have ed : d.toNatClampNeg = j := by rw [e]; exact nI_clamp (by omega)
      rw [ed]
      split
      · exact ok_go ok hj
      · split
        · exact ok_openFor ok hj s
        · split
          · exact ok_clr ok _
          · exact ok
    · rw [if_neg ci]; exact ok
end Gd
