/-! by, open, may, ways, door, stand. -/
section Bop
variable {h : xH} {D : DS} {w : Nat → Nat} {A : AS} {X : Option (Int32 × xH)} {Y : xH → Option (Int32 × xH)} {n : Nat}
theorem b_by (q : CI h D A) (ok : AOk A) (p1 p2 p3 : Int32) (hn : 20 ≤ n) : BSt h D w A (f_X6_by n h 16 p1 p2 p3) (fun g => f_X7_by n g 64 p1 p2 p3) := by
  refine b_one' q ok (p1 := p1) (fun c => ⟨?_, fun g qg => ?_⟩) (fun p hp e c => ?_)
  · simp only [f_X6_by, refC, q.g0, q.H.ob, h_hasOne q.H, c, i0, Option.bind_some]
  · simp only [f_X7_by, refM7, qg.ob, m_isOne qg.H ok.H, c, i0, Option.bind_some]
  · refine b_door' q ok (p1 := p2) (fun c2 => ⟨?_, fun g qg => ?_⟩) (fun d hd e2 c2 => ?_)
    · simp only [f_X6_by, refC, q.g0, q.H.ob, h_hasOne q.H, c, i0, i1, h_hasDoor q.H, c2, Option.bind_some]
    · simp only [f_X7_by, refM7, qg.ob, m_isOne qg.H ok.H, c, i0, i1, m_isDoor qg.H ok.H, c2, Option.bind_some]
    · subst e
      subst e2
      cases c3 : sSet (zH A) p3 with
      | false =>
        refine b_ref2 q ok ?_ (fun g qg => ?_)
        · simp only [f_X6_by, refC, q.g0, q.H.ob, h_hasOne q.H, c, i0, i1, h_hasDoor q.H, c2, Option.bind_some, h_hasDoors q.H, c3]
        · simp only [f_X7_by, refM7, qg.ob, m_isOne qg.H ok.H, c, i0, i1, m_isDoor qg.H ok.H, c2, Option.bind_some, m_isSet qg.H ok.H, c3]
      | true =>
        have e1 : f_X0_opensBy n h 17 (nI p) (nI d) p3 = some (bI (sOpensBy (zH A) p d p3)) := h_opensBy q.H ok.H hn hp hd
        refine b_val q ok (if bI (sOpensBy (zH A) p d p3) = 0 then 0 else 1) ?_ (fun g qg => ?_)
        · simp only [f_X6_by, q.g0, q.H.ob, h_hasOne q.H, c, i0, i1, h_hasDoor q.H, c2, Option.bind_some, h_hasDoors q.H, c3, e1]
          cases sOpensBy (zH A) p d p3 <;> rfl
        · simp only [f_X7_by, qg.ob, m_isOne qg.H ok.H, c, i0, i1, m_isDoor qg.H ok.H, c2, Option.bind_some, m_isSet qg.H ok.H, c3, m_mayOpenBy qg.H ok.H hn hp hd]
          cases sOpensBy (zH A) p d p3 <;> rfl
theorem b_open (q : CI h D A) (ok : AOk A) (p1 p2 p3 : Int32) (hn : 20 ≤ n) : BSt h D w A (f_X6_open n h 16 p1 p2 p3) (fun g => f_X7_open n g 64 p1 p2 p3) := by
  refine b_one' q ok (p1 := p1) (fun c => ⟨?_, fun g qg => ?_⟩) (fun p hp e c => ?_)
  · simp only [f_X6_open, refC, q.g0, q.H.ob, h_hasOne q.H, c, i0, Option.bind_some]
  · simp only [f_X7_open, refM7, qg.ob, m_isOne qg.H ok.H, c, i0, Option.bind_some]
  · refine b_door' q ok (p1 := p2) (fun c2 => ⟨?_, fun g qg => ?_⟩) (fun d hd e2 c2 => ?_)
    · simp only [f_X6_open, refC, q.g0, q.H.ob, h_hasOne q.H, c, i0, i1, h_hasDoor q.H, c2, Option.bind_some]
    · simp only [f_X7_open, refM7, qg.ob, m_isOne qg.H ok.H, c, i0, i1, m_isDoor qg.H ok.H, c2, Option.bind_some]
    · subst e
      subst e2
      cases c3 : sSet (zH A) p3 with
      | false =>
        refine b_ref2 q ok ?_ (fun g qg => ?_)
        · simp only [f_X6_open, refC, q.g0, q.H.ob, h_hasOne q.H, c, i0, i1, h_hasDoor q.H, c2, Option.bind_some, h_hasDoors q.H, c3]
        · simp only [f_X7_open, refM7, qg.ob, m_isOne qg.H ok.H, c, i0, i1, m_isDoor qg.H ok.H, c2, Option.bind_some, m_isSet qg.H ok.H, c3]
      | true =>
        have e1 : f_X0_opensBy n h 17 (nI p) (nI d) p3 = some (bI (sOpensBy (zH A) p d p3)) := h_opensBy q.H ok.H hn hp hd
        cases c4 : sOpensBy (zH A) p d p3 with
        | false =>
          refine b_ref5 q ok ?_ (fun g qg => ?_)
          · simp only [f_X6_open, refC, q.g0, q.H.ob, h_hasOne q.H, c, i0, i1, h_hasDoor q.H, c2, Option.bind_some, h_hasDoors q.H, c3, e1, c4]
          · simp only [f_X7_open, refM7, qg.ob, m_isOne qg.H ok.H, c, i0, i1, m_isDoor qg.H ok.H, c2, Option.bind_some, m_isSet qg.H ok.H, c3, m_mayOpenBy qg.H ok.H hn hp hd, c4]
        | true =>
          obtain ⟨h1, e2, q1, f1⟩ := h_openFor (d := d) (set := p3) q.H
          have okg := ok_openFor ok.H hd p3
          have cn := (q.now q1 f1).1
          refine b_now (r := nI (sStock (sOpenFor (zH A) d p3))) q ok okg (h1 := h1) ?_ q1 f1 (fun g qg => ?_)
          · simp only [f_X6_open, q.g0, q.H.ob, h_hasOne q.H, c, i0, i1, h_hasDoor q.H, c2, Option.bind_some, h_hasDoors q.H, c3, e1, c4, e2, cn.g0, q1.ob, h_openStock q1 okg hn]
          · obtain ⟨g1, e3, q2, f2⟩ := m_opens (d := d) (set := p3) qg.H
            refine ⟨g1, ?_, q2, f2⟩
            simp only [f_X7_open, qg.ob, m_isOne qg.H ok.H, c, i0, i1, m_isDoor qg.H ok.H, c2, Option.bind_some, m_isSet qg.H ok.H, c3, m_mayOpenBy qg.H ok.H hn hp hd, c4, e3, q2.ob, m_stockNow q2 okg hn]
theorem ite01 (b : Bool) (g : xH) : (if bI b = 0 then some ((0 : Int32), g) else some ((1 : Int32), g)) = some ((if b then 1 else 0 : Int32), g) := by cases b <;> rfl
theorem iteM (x : Int32) (g : xH) : (if x = -1 then some ((0 : Int32), g) else some ((1 : Int32), g)) = some ((if x = -1 then 0 else 1 : Int32), g) := by by_cases c : x = -1 <;> simp only [c, if_true, if_false]
theorem b_may (q : CI h D A) (ok : AOk A) (p1 p2 p3 : Int32) (hn : 20000 ≤ n) : BSt h D w A (f_X6_may n h 16 p1 p2 p3) (fun g => f_X7_may n g 64 p1 p2 p3) := by
  refine b_one' q ok (p1 := p1) (fun c => ⟨?_, fun g qg => ?_⟩) (fun p hp e c => ?_)
  · simp only [f_X6_may, refC, q.g0, q.H.ob, h_hasOne q.H, c, i0, Option.bind_some]
  · simp only [f_X7_may, refM7, qg.ob, m_isOne qg.H ok.H, c, i0, Option.bind_some]
  · refine b_door' q ok (p1 := p2) (fun c2 => ⟨?_, fun g qg => ?_⟩) (fun d hd e2 c2 => ?_)
    · simp only [f_X6_may, refC, q.g0, q.H.ob, h_hasOne q.H, c, i0, i1, h_hasDoor q.H, c2, Option.bind_some]
    · simp only [f_X7_may, refM7, qg.ob, m_isOne qg.H ok.H, c, i0, i1, m_isDoor qg.H ok.H, c2, Option.bind_some]
    · subst e
      subst e2
      have m3 : ∀ g : xH, f_X7_in g p3.toInt64 0 2 = some (bI (sIs 3 p3)) := fun g => m_is (by decide) (by decide) p3
      by_cases c3 : sIs 3 p3 = true
      · obtain ⟨j, hj, rfl⟩ := (sIs_iff (by decide) p3).mp c3
        have : j = 0 ∨ j = 1 ∨ j = 2 := by omega
        rcases this with rfl | rfl | rfl
        · refine b_val q ok (if (bt (hO (zH A)) d && !decide (hK (zH A) d = 1) && sAt (zH A) d (hR (zH A) p)) then 1 else 0) ?_ (fun g qg => ?_)
          · simp only [f_X6_may, q.g0, q.H.ob, h_hasOne q.H, c, i0, i1, h_hasDoor q.H, c2, Option.bind_some, eq_true (show nI 0 = (0 : Int32) from rfl), if_true, h_mayWalk q.H ok.H hp hd, ite01]
          · simp only [f_X7_may, qg.ob, m_isOne qg.H ok.H, c, i0, i1, m_isDoor qg.H ok.H, c2, Option.bind_some, m3, c3, show ¬ (nI 0 : Int32) = 2 by decide, eq_true (show nI 0 = (0 : Int32) from rfl), if_true, if_false, qg.H.rr, qg.H.ldR ok.H hp, m_mayWalk qg.H ok.H hd, ite01]
        · refine b_val q ok (if (bt (hO (zH A)) d && sShuts (zH A) d (hR (zH A) p)) then 1 else 0) ?_ (fun g qg => ?_)
          · simp only [f_X6_may, q.g0, q.H.ob, h_hasOne q.H, c, i0, i1, h_hasDoor q.H, c2, Option.bind_some, show ¬ (nI 1 : Int32) = 0 by decide, eq_true (show nI 1 = (1 : Int32) from rfl), if_true, if_false, h_mayShut q.H ok.H hp hd, ite01]
          · simp only [f_X7_may, qg.ob, m_isOne qg.H ok.H, c, i0, i1, m_isDoor qg.H ok.H, c2, Option.bind_some, m3, c3, show ¬ (nI 1 : Int32) = 2 by decide, show ¬ (nI 1 : Int32) = 0 by decide, if_true, if_false, qg.H.rr, qg.H.ldR ok.H hp, m_mayShut qg.H ok.H hd, ite01]
        · refine b_val q ok (if sLeast (zH A) p d = -1 then 0 else 1) ?_ (fun g qg => ?_)
          · simp only [f_X6_may, q.g0, q.H.ob, h_hasOne q.H, c, i0, i1, h_hasDoor q.H, c2, Option.bind_some, show ¬ (nI 2 : Int32) = 0 by decide, show ¬ (nI 2 : Int32) = 1 by decide, eq_true (show nI 2 = (2 : Int32) from rfl), if_true, if_false, h_leastSet q.H ok.H (show 20 ≤ n by omega) hp hd, iteM]
          · simp only [f_X7_may, qg.ob, m_isOne qg.H ok.H, c, i0, i1, m_isDoor qg.H ok.H, c2, Option.bind_some, m3, c3, eq_true (show nI 2 = (2 : Int32) from rfl), if_true, if_false, m_ways1 qg.H ok.H hn hp hd, iteM]
      · have c4 := sIs_no c3
        have n0 : ∀ j, j < 3 → ¬ p3 = nI j := fun j hj z => c3 ((sIs_iff (by decide) p3).mpr ⟨j, hj, z⟩)
        refine b_ref2 q ok ?_ (fun g qg => ?_)
        · simp only [f_X6_may, refC, q.g0, q.H.ob, h_hasOne q.H, c, i0, i1, h_hasDoor q.H, c2, Option.bind_some, show ¬ p3 = 0 from n0 0 (by decide), show ¬ p3 = 1 from n0 1 (by decide), show ¬ p3 = 2 from n0 2 (by decide), if_false]
        · simp only [f_X7_may, refM7, qg.ob, m_isOne qg.H ok.H, c, i0, i1, m_isDoor qg.H ok.H, c2, Option.bind_some, m3, c4]
end Bop
