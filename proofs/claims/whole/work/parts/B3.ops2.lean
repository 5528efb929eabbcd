/-! Calls about one and a door. -/
section Bop
variable {h : xH} {D : DS} {w : Nat → Nat} {A : AS} {X : Option (Int32 × xH)} {Y : xH → Option (Int32 × xH)} {n : Nat}
theorem i1 {α : Type} (a b : α) : (if bI true = 0 then a else b) = b := rfl
theorem i0 {α : Type} (a b : α) : (if bI false = 0 then a else b) = a := rfl
theorem ok_O {H : HS} (ok : HOk H) {x : Int32} (hx : ∀ k, hD H ≤ k → k < 32 → bt x k = false) : HOk (sO H x) := ⟨ok.1, ok.2.1, ok.2.2.1, ok.2.2.2.1, ok.2.2.2.2.1, ok.2.2.2.2.2.1, hx⟩
theorem ok_go {H : HS} {p d : Nat} (ok : HOk H) (hd : d < hD H) : HOk (sGo H p d) := by
  obtain ⟨-, ⟨a, ha, ea⟩, ⟨b, hb, eb⟩, -⟩ := ok.2.2.1 d hd
  unfold sGo
  by_cases c : hR H p = hA H d
  · rw [if_pos c, eb]; exact ok_Rm ok hb
  · rw [if_neg c, ea]; exact ok_Rm ok ha
theorem ok_openFor {H : HS} {d : Nat} (ok : HOk H) (hd : d < hD H) (set : Int32) : HOk (sOpenFor H d set) := by
  have h14 := ok.1
  have : HOk (sO H ((hO H &&& (set ^^^ (-1))) ||| i_shl 1 (nI d))) := ok_O ok (fun k h1 h2 => by
    rw [b_or, b_and, ok.2.2.2.2.2.2 k h1 h2, b_bit (by omega) h2, decide_eq_false (by omega)]
    rfl)
  exact this
theorem ok_clr {H : HS} (ok : HOk H) (x : Int32) : HOk (sO H (hO H &&& x)) := ok_O ok (fun k h1 h2 => by
  rw [b_and, ok.2.2.2.2.2.2 k h1 h2]
  rfl)
theorem b_one' (q : CI h D A) (ok : AOk A) {p1 : Int32} (h1 : sIs (hP (zH A)) p1 = false → X = refC h (-2) ∧ ∀ g, MIn g w A → Y g = refM7 g (-2)) (h3 : ∀ p, p < hP (zH A) → p1 = nI p → sIs (hP (zH A)) p1 = true → BSt h D w A X Y) : BSt h D w A X Y := by
  have h4 := ok.H.2.1
  by_cases c : sIs (hP (zH A)) p1 = true
  · obtain ⟨p, hp, e⟩ := (sIs_iff (by omega) p1).mp c
    exact h3 p hp e c
  · obtain ⟨x, y⟩ := h1 (sIs_no c)
    exact b_ref2 q ok x y
theorem b_door' (q : CI h D A) (ok : AOk A) {p1 : Int32} (h1 : sIs (hD (zH A)) p1 = false → X = refC h (-2) ∧ ∀ g, MIn g w A → Y g = refM7 g (-2)) (h3 : ∀ p, p < hD (zH A) → p1 = nI p → sIs (hD (zH A)) p1 = true → BSt h D w A X Y) : BSt h D w A X Y := by
  have h4 := ok.H.1
  by_cases c : sIs (hD (zH A)) p1 = true
  · obtain ⟨p, hp, e⟩ := (sIs_iff (by omega) p1).mp c
    exact h3 p hp e c
  · obtain ⟨x, y⟩ := h1 (sIs_no c)
    exact b_ref2 q ok x y
theorem b_where (q : CI h D A) (ok : AOk A) (p : Int32) : BSt h D w A (f_X6_where h 16 p) (fun g => f_X7_where g 64 p) := by
  refine b_one' q ok (p1 := p) (fun c => ⟨?_, fun g qg => ?_⟩) (fun j hj e c => ?_)
  · simp only [f_X6_where, refC, q.g0, q.H.ob, h_hasOne q.H, c, i0, Option.bind_some]
  · simp only [f_X7_where, refM7, qg.ob, m_isOne qg.H ok.H, c, i0, Option.bind_some]
  · subst e
    refine b_val q ok (hR (zH A) j) ?_ (fun g qg => ?_)
    · simp only [f_X6_where, q.g0, q.H.ob, h_hasOne q.H, c, i1, Option.bind_some, q.H.rr, q.H.ldR ok.H hj]
    · simp only [f_X7_where, qg.ob, m_isOne qg.H ok.H, c, i1, Option.bind_some, qg.H.rr, qg.H.ldR ok.H hj]
theorem b_reach (q : CI h D A) (ok : AOk A) (p : Int32) (hn : 20 ≤ n) : BSt h D w A (f_X6_reach n h 16 p) (fun g => f_X7_reach n g 64 p) := by
  refine b_one' q ok (p1 := p) (fun c => ⟨?_, fun g qg => ?_⟩) (fun j hj e c => ?_)
  · simp only [f_X6_reach, refC, q.g0, q.H.ob, h_hasOne q.H, c, i0, Option.bind_some]
  · simp only [f_X7_reach, refM7, qg.ob, m_isOne qg.H ok.H, c, i0, Option.bind_some]
  · subst e
    refine b_val q ok (sReach (zH A) (hO (zH A)) (hR (zH A) j)) ?_ (fun g qg => ?_)
    · simp only [f_X6_reach, q.g0, q.H.ob, h_hasOne q.H, c, i1, Option.bind_some, q.H.rr, q.H.ldR ok.H hj, h_reachFrom q.H ok.H hn]
    · simp only [f_X7_reach, qg.ob, m_isOne qg.H ok.H, c, i1, Option.bind_some, m_reachOf qg.H ok.H hn hj]
theorem b_walk (q : CI h D A) (ok : AOk A) (p1 p2 : Int32) : BSt h D w A (f_X6_walk h 16 p1 p2) (fun g => f_X7_walk g 64 p1 p2) := by
  have h4 := ok.H.2.1
  refine b_one' q ok (p1 := p1) (fun c => ⟨?_, fun g qg => ?_⟩) (fun p hp e c => ?_)
  · simp only [f_X6_walk, refC, q.g0, q.H.ob, h_hasOne q.H, c, i0, Option.bind_some]
  · simp only [f_X7_walk, refM7, qg.ob, m_isOne qg.H ok.H, c, i0, Option.bind_some]
  · refine b_door' q ok (p1 := p2) (fun c2 => ⟨?_, fun g qg => ?_⟩) (fun d hd e2 c2 => ?_)
    · simp only [f_X6_walk, refC, q.g0, q.H.ob, h_hasOne q.H, c, i0, i1, h_hasDoor q.H, c2, Option.bind_some]
    · simp only [f_X7_walk, refM7, qg.ob, m_isOne qg.H ok.H, c, i0, i1, m_isDoor qg.H ok.H, c2, Option.bind_some]
    · subst e
      subst e2
      cases cw : (bt (hO (zH A)) d && !decide (hK (zH A) d = 1) && sAt (zH A) d (hR (zH A) p)) with
      | false =>
        refine b_ref5 q ok ?_ (fun g qg => ?_)
        · simp only [f_X6_walk, refC, q.g0, q.H.ob, h_hasOne q.H, c, i0, i1, h_hasDoor q.H, c2, Option.bind_some, h_mayWalk q.H ok.H hp hd, cw]
        · simp only [f_X7_walk, refM7, qg.ob, m_isOne qg.H ok.H, c, i0, i1, m_isDoor qg.H ok.H, c2, Option.bind_some, qg.H.rr, qg.H.ldR ok.H hp, m_mayWalk qg.H ok.H hd, cw]
      | true =>
        obtain ⟨h1, e1, q1, f1⟩ := h_goThrough q.H ok.H hp hd
        have okg : HOk (sGo (zH A) p d) := ok_go ok.H hd
        have cn := (q.now q1 f1).1
        refine b_now (r := hR (sGo (zH A) p d) p) q ok okg (h1 := h1) ?_ q1 f1 (fun g qg => ?_)
        · simp only [f_X6_walk, q.g0, q.H.ob, h_hasOne q.H, c, i0, i1, h_hasDoor q.H, c2, Option.bind_some, h_mayWalk q.H ok.H hp hd, cw, e1, cn.g0, q1.rr, q1.ldR okg hp]
        · obtain ⟨g1, e2, q2, f2⟩ := qg.H.stR h4 hp (if hR (zH A) p = hA (zH A) d then hB (zH A) d else hA (zH A) d)
          have q2' : MH g1 64 (sGo (zH A) p d) := q2
          have sb : sBey (zH A) d (hR (zH A) p) = (if hR (zH A) p = hA (zH A) d then hB (zH A) d else hA (zH A) d) := rfl
          refine ⟨g1, ?_, q2', f2⟩
          simp only [f_X7_walk, qg.ob, m_isOne qg.H ok.H, c, i0, i1, m_isDoor qg.H ok.H, c2, Option.bind_some, qg.H.rr, qg.H.ldR ok.H hp, m_mayWalk qg.H ok.H hd, cw, m_beyond qg.H ok.H hd, sb, e2, q2'.rr, q2'.ldR okg hp]
theorem b_shut (q : CI h D A) (ok : AOk A) (p1 p2 : Int32) (hn : 20 ≤ n) : BSt h D w A (f_X6_shut n h 16 p1 p2) (fun g => f_X7_shut n g 64 p1 p2) := by
  have h4 := ok.H.2.1
  refine b_one' q ok (p1 := p1) (fun c => ⟨?_, fun g qg => ?_⟩) (fun p hp e c => ?_)
  · simp only [f_X6_shut, refC, q.g0, q.H.ob, h_hasOne q.H, c, i0, Option.bind_some]
  · simp only [f_X7_shut, refM7, qg.ob, m_isOne qg.H ok.H, c, i0, Option.bind_some]
  · refine b_door' q ok (p1 := p2) (fun c2 => ⟨?_, fun g qg => ?_⟩) (fun d hd e2 c2 => ?_)
    · simp only [f_X6_shut, refC, q.g0, q.H.ob, h_hasOne q.H, c, i0, i1, h_hasDoor q.H, c2, Option.bind_some]
    · simp only [f_X7_shut, refM7, qg.ob, m_isOne qg.H ok.H, c, i0, i1, m_isDoor qg.H ok.H, c2, Option.bind_some]
    · subst e
      subst e2
      cases cw : (bt (hO (zH A)) d && sShuts (zH A) d (hR (zH A) p)) with
      | false =>
        refine b_ref5 q ok ?_ (fun g qg => ?_)
        · simp only [f_X6_shut, refC, q.g0, q.H.ob, h_hasOne q.H, c, i0, i1, h_hasDoor q.H, c2, Option.bind_some, h_mayShut q.H ok.H hp hd, cw]
        · simp only [f_X7_shut, refM7, qg.ob, m_isOne qg.H ok.H, c, i0, i1, m_isDoor qg.H ok.H, c2, Option.bind_some, qg.H.rr, qg.H.ldR ok.H hp, m_mayShut qg.H ok.H hd, cw]
      | true =>
        obtain ⟨h1, e1, q1, f1⟩ := q.H.putO (hO (zH A) &&& (i_shl 1 (nI d) ^^^ (-1)))
        have okg := ok_clr ok.H (i_shl 1 (nI d) ^^^ (-1))
        have cn := (q.now q1 f1).1
        refine b_now (r := nI (sStock (sO (zH A) (hO (zH A) &&& (i_shl 1 (nI d) ^^^ (-1)))))) q ok okg (h1 := h1) ?_ q1 f1 (fun g qg => ?_)
        · simp only [f_X6_shut, q.g0, q.H.ob, h_hasOne q.H, c, i0, i1, h_hasDoor q.H, c2, Option.bind_some, h_mayShut q.H ok.H hp hd, cw, q.H.O, e1, cn.g0, q1.ob, h_openStock q1 okg hn]
        · obtain ⟨g1, e2, q2, f2⟩ := qg.H.putO (hO (zH A) &&& (i_shl 1 (nI d) ^^^ (-1)))
          refine ⟨g1, ?_, q2, f2⟩
          simp only [f_X7_shut, qg.ob, m_isOne qg.H ok.H, c, i0, i1, m_isDoor qg.H ok.H, c2, Option.bind_some, qg.H.rr, qg.H.ldR ok.H hp, m_mayShut qg.H ok.H hd, cw, qg.H.O, e2, q2.ob, m_stockNow q2 okg hn]
theorem b_night (q : CI h D A) (ok : AOk A) (okB : HOk (sBlow (zH A) (hD (zH A))).1) (hn : 20 ≤ n) : BSt h D w A (f_X6_night n h 16) (fun g => f_X7_night n g 64) := by
  obtain ⟨h1, e1, q1, f1⟩ := h_blow q.H ok.H.1 hn
  refine b_now (r := nI (sBlow (zH A) (hD (zH A))).2) q ok okB (h1 := h1) ?_ q1 f1 (fun g qg => m_night qg.H ok.H.1 hn) (Nat.le_of_eq (sBlow_D _ _).1.symm)
  simp only [f_X6_night, q.g0, q.H.ob, Option.bind_some, e1]
end Bop
