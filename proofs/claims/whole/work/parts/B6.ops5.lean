/-! stand, ask, doorOf, doors, wipe. -/
section Bop
variable {h : xH} {D : DS} {w : Nat → Nat} {A : AS} {X : Option (Int32 × xH)} {Y : xH → Option (Int32 × xH)} {n : Nat}
theorem bI_inj {a b : Bool} : bI a = bI b ↔ a = b := by cases a <;> cases b <;> decide
/-- stand -/
theorem b_stand (q : CI h D A) (ok : AOk A) (p1 : Int32) (b : Bool) : BSt h D w A (f_X6_stand h 16 p1 (bI b)) (fun g => f_X7_stand g 64 p1 (bI b)) := by
  have h14 := ok.H.1
  refine b_door' q ok (p1 := p1) (fun c => ⟨?_, fun g qg => ?_⟩) (fun d hd e c => ?_)
  · simp only [f_X6_stand, refC, q.g0, q.H.ob, h_hasDoor q.H, c, i0, Option.bind_some]
  · simp only [f_X7_stand, refM7, qg.ob, m_isDoor qg.H ok.H, c, i0, Option.bind_some]
  · subst e
    have d32 : d < 32 := by omega
    by_cases cb : bt (hO (zH A)) d = b
    · have same : (if bI b = 0 then hO (zH A) &&& (i_shl 1 (nI d) ^^^ (-1)) else hO (zH A) ||| i_shl 1 (nI d)) = hO (zH A) := by
        cases b with
        | false =>
          rw [i0]
          apply b_ext
          intro i hi
          rw [b_and, b_not _ hi, b_bit d32 hi]
          by_cases e : i = d
          · rw [e, cb]; rfl
          · rw [decide_eq_false e]; simp
        | true =>
          rw [i1]
          apply b_ext
          intro i hi
          rw [b_or, b_bit d32 hi]
          by_cases e : i = d
          · rw [e, cb]; rfl
          · rw [decide_eq_false e]; simp
      refine b_now (r := 0) (H := zH A) (h1 := h) q ok ok.H ?_ q.H FrB.rfl (fun g qg => ?_)
      · simp only [f_X6_stand, q.g0, q.H.ob, h_hasDoor q.H, c, i1, Option.bind_some, h_isOpen q.H d32, cb, if_true]
      · obtain ⟨g1, e2, q2, f2⟩ := qg.H.putO (hO (zH A))
        refine ⟨g1, ?_, q2, f2⟩
        have e3 : (if bI b = 0 then (x_gI g 64 7 11).bind fun x8 => some (x8 &&& (i_shl 1 (nI d) ^^^ (-1))) else (x_gI g 64 7 11).bind fun x9 => some (x9 ||| i_shl 1 (nI d))) = some (hO (zH A)) := by
          rw [qg.H.O, Option.bind_some, Option.bind_some]
          cases b with
          | false => rw [i0] at same ⊢; rw [same]
          | true => rw [i1] at same ⊢; rw [same]
        simp only [f_X7_stand, qg.ob, m_isDoor qg.H ok.H, c, i1, Option.bind_some, e3]
        simp only [qg.H.O, Option.bind_some, m_has d32, e2, cb, if_true]
    · have flip : (if bI b = 0 then hO (zH A) &&& (i_shl 1 (nI d) ^^^ (-1)) else hO (zH A) ||| i_shl 1 (nI d)) = hO (zH A) ^^^ i_shl 1 (nI d) := by
        cases b with
        | false =>
          rw [i0]
          apply b_ext
          intro i hi
          rw [b_and, b_not _ hi, b_bit d32 hi, b_xor, b_bit d32 hi]
          by_cases e : i = d
          · rw [e, show bt (hO (zH A)) d = true by cases z : bt (hO (zH A)) d with | false => exact absurd z cb | true => rfl, decide_eq_true rfl]; rfl
          · rw [decide_eq_false e]; simp
        | true =>
          rw [i1]
          apply b_ext
          intro i hi
          rw [b_or, b_bit d32 hi, b_xor, b_bit d32 hi]
          by_cases e : i = d
          · rw [e, show bt (hO (zH A)) d = false by cases z : bt (hO (zH A)) d with | true => exact absurd z cb | false => rfl, decide_eq_true rfl]; rfl
          · rw [decide_eq_false e]; simp
      have okx : HOk (sO (zH A) (hO (zH A) ^^^ i_shl 1 (nI d))) := ok_O ok.H (fun k k1 k2 => by
        rw [b_xor, ok.H.2.2.2.2.2.2 k k1 k2, b_bit d32 k2, decide_eq_false (by omega)]
        rfl)
      have cb2 : ¬ bI (bt (hO (zH A)) d) = bI b := fun z => cb (bI_inj.mp z)
      obtain ⟨h1, e1, q1, f1⟩ := q.H.putO (hO (zH A) ^^^ i_shl 1 (nI d))
      refine b_now (r := 1) (h1 := h1) q ok okx ?_ q1 f1 (fun g qg => ?_)
      · simp only [f_X6_stand, q.g0, q.H.ob, h_hasDoor q.H, c, i1, Option.bind_some, h_isOpen q.H d32, eq_false cb2, if_false, q.H.O, e1]
      · obtain ⟨g1, e2, q2, f2⟩ := qg.H.putO (hO (zH A) ^^^ i_shl 1 (nI d))
        refine ⟨g1, ?_, q2, f2⟩
        have e3 : (if bI b = 0 then (x_gI g 64 7 11).bind fun x8 => some (x8 &&& (i_shl 1 (nI d) ^^^ (-1))) else (x_gI g 64 7 11).bind fun x9 => some (x9 ||| i_shl 1 (nI d))) = some (hO (zH A) ^^^ i_shl 1 (nI d)) := by
          rw [qg.H.O, Option.bind_some, Option.bind_some]
          cases b with
          | false => rw [i0] at flip ⊢; rw [flip]
          | true => rw [i1] at flip ⊢; rw [flip]
        simp only [f_X7_stand, qg.ob, m_isDoor qg.H ok.H, c, i1, Option.bind_some, e3]
        simp only [qg.H.O, Option.bind_some, m_has d32, e2, eq_false cb2, if_false]
/-- doorOf -/
theorem b_doorOf (q : CI h D A) (ok : AOk A) (p1 p2 : Int32) : BSt h D w A (f_X6_doorOf h 16 p1 p2) (fun g => f_X7_doorOf g 64 p1 p2) := by
  have h14 := ok.H.1
  refine b_door' q ok (p1 := p1) (fun c => ⟨?_, fun g qg => ?_⟩) (fun d hd e c => ?_)
  · simp only [f_X6_doorOf, refC, q.g0, q.H.ob, h_hasDoor q.H, c, i0, Option.bind_some]
  · simp only [f_X7_doorOf, refM7, qg.ob, m_isDoor qg.H ok.H, c, i0, Option.bind_some]
  · subst e
    have d32 : d < 32 := by omega
    have m5 : ∀ g : xH, f_X7_in g p2.toInt64 0 4 = some (bI (sIs 5 p2)) := fun g => m_is (by decide) (by decide) p2
    by_cases c3 : sIs 5 p2 = true
    · obtain ⟨j, hj, rfl⟩ := (sIs_iff (by decide) p2).mp c3
      have : j = 0 ∨ j = 1 ∨ j = 2 ∨ j = 3 ∨ j = 4 := by omega
      rcases this with rfl | rfl | rfl | rfl | rfl
      · refine b_val q ok (hK (zH A) d) ?_ (fun g qg => ?_)
        · simp only [f_X6_doorOf, q.g0, q.H.ob, h_hasDoor q.H, c, i1, Option.bind_some, eq_true (show nI 0 = (0 : Int32) from rfl), if_true, q.H.rk, q.H.ldK ok.H hd]
        · have el : x_ld g (64 + 18 + d) (nI 0) = some (hK (zH A) d) := qg.H.ldK ok.H hd
          simp only [f_X7_doorOf, qg.ob, m_isDoor qg.H ok.H, c, i1, Option.bind_some, m5, c3, eq_false (show ¬ nI 0 = (3 : Int32) by decide), eq_false (show ¬ nI 0 = (4 : Int32) by decide), if_false, qg.H.rd, qg.H.ldQ ok.H hd, el]
      · refine b_val q ok (hA (zH A) d) ?_ (fun g qg => ?_)
        · simp only [f_X6_doorOf, q.g0, q.H.ob, h_hasDoor q.H, c, i1, Option.bind_some, eq_false (show ¬ nI 1 = (0 : Int32) by decide), eq_true (show nI 1 = (1 : Int32) from rfl), if_true, if_false, q.H.ra, q.H.ldA ok.H hd]
        · have el : x_ld g (64 + 18 + d) (nI 1) = some (hA (zH A) d) := qg.H.ldA ok.H hd
          simp only [f_X7_doorOf, qg.ob, m_isDoor qg.H ok.H, c, i1, Option.bind_some, m5, c3, eq_false (show ¬ nI 1 = (3 : Int32) by decide), eq_false (show ¬ nI 1 = (4 : Int32) by decide), if_false, qg.H.rd, qg.H.ldQ ok.H hd, el]
      · refine b_val q ok (hB (zH A) d) ?_ (fun g qg => ?_)
        · simp only [f_X6_doorOf, q.g0, q.H.ob, h_hasDoor q.H, c, i1, Option.bind_some, eq_false (show ¬ nI 2 = (0 : Int32) by decide), eq_false (show ¬ nI 2 = (1 : Int32) by decide), eq_true (show nI 2 = (2 : Int32) from rfl), if_true, if_false, q.H.rb, q.H.ldB ok.H hd]
        · have el : x_ld g (64 + 18 + d) (nI 2) = some (hB (zH A) d) := qg.H.ldB ok.H hd
          simp only [f_X7_doorOf, qg.ob, m_isDoor qg.H ok.H, c, i1, Option.bind_some, m5, c3, eq_false (show ¬ nI 2 = (3 : Int32) by decide), eq_false (show ¬ nI 2 = (4 : Int32) by decide), if_false, qg.H.rd, qg.H.ldQ ok.H hd, el]
      · refine b_val q ok (if bt (hO (zH A)) d then 1 else 0) ?_ (fun g qg => ?_)
        · simp only [f_X6_doorOf, q.g0, q.H.ob, h_hasDoor q.H, c, i1, Option.bind_some, eq_false (show ¬ nI 3 = (0 : Int32) by decide), eq_false (show ¬ nI 3 = (1 : Int32) by decide), eq_false (show ¬ nI 3 = (2 : Int32) by decide), eq_true (show nI 3 = (3 : Int32) from rfl), if_true, if_false, h_isOpen q.H d32, ite01]
        · simp only [f_X7_doorOf, qg.ob, m_isDoor qg.H ok.H, c, i1, Option.bind_some, m5, c3, eq_true (show nI 3 = (3 : Int32) from rfl), if_true, qg.H.O, b_get _ d32]
      · refine b_val q ok (nI (wtN (hK (zH A) d))) ?_ (fun g qg => ?_)
        · simp only [f_X6_doorOf, q.g0, q.H.ob, h_hasDoor q.H, c, i1, Option.bind_some, eq_false (show ¬ nI 4 = (0 : Int32) by decide), eq_false (show ¬ nI 4 = (1 : Int32) by decide), eq_false (show ¬ nI 4 = (2 : Int32) by decide), eq_false (show ¬ nI 4 = (3 : Int32) by decide), eq_true (show nI 4 = (4 : Int32) from rfl), if_true, if_false, h_weightOf q.H ok.H hd]
        · simp only [f_X7_doorOf, qg.ob, m_isDoor qg.H ok.H, c, i1, Option.bind_some, m5, c3, eq_false (show ¬ nI 4 = (3 : Int32) by decide), eq_true (show nI 4 = (4 : Int32) from rfl), if_true, if_false, m_weightOf qg.H ok.H hd]
    · have n0 : ∀ j, j < 5 → ¬ p2 = nI j := fun j hj z => c3 ((sIs_iff (by decide) p2).mpr ⟨j, hj, z⟩)
      refine b_ref2 q ok ?_ (fun g qg => ?_)
      · simp only [f_X6_doorOf, refC, q.g0, q.H.ob, h_hasDoor q.H, c, i1, Option.bind_some, eq_false (show ¬ p2 = 0 from n0 0 (by decide)), eq_false (show ¬ p2 = 1 from n0 1 (by decide)), eq_false (show ¬ p2 = 2 from n0 2 (by decide)), eq_false (show ¬ p2 = 3 from n0 3 (by decide)), eq_false (show ¬ p2 = 4 from n0 4 (by decide)), if_false]
      · simp only [f_X7_doorOf, refM7, qg.ob, m_isDoor qg.H ok.H, c, i1, i0, Option.bind_some, m5, sIs_no c3]
/-- ask -/
theorem b_ask (q : CI h D A) (ok : AOk A) (p1 p2 : Int32) : BSt h D w A (f_X6_ask h 16 p1 p2) (fun g => f_X7_ask g 64 p1 p2) := by
  have m2 : ∀ g : xH, f_X7_in g p1.toInt64 0 1 = some (bI (sIs 2 p1)) := fun g => m_is (by decide) (by decide) p1
  have mL : ∀ g : xH, f_X7_in g p2.toInt64 1 4 = some (bI (decide (1 ≤ p2.toInt) && decide (p2.toInt ≤ 4))) := fun g => m_in (a := 1) (c := 4) (by decide) (by decide) p2
  have mW : ∀ g : xH, f_X7_in g p2.toInt64 0 99 = some (bI (sIs 100 p2)) := fun g => m_is (by decide) (by decide) p2
  by_cases e0 : p1 = 0
  · subst e0
    have c2 : sIs 2 0 = true := by decide
    by_cases c : 1 ≤ p2.toInt ∧ p2.toInt ≤ 4
    · obtain ⟨k, k1, k4, ek⟩ : ∃ k : Nat, 1 ≤ k ∧ k ≤ 4 ∧ p2 = nI k := by
        obtain ⟨j, hj, e⟩ := (sIs_iff (n := 5) (by decide) p2).mp (by rw [sIs_toInt (by decide), decide_eq_true (by omega), decide_eq_true (by omega)]; rfl)
        subst e
        rw [nI_toInt (by omega)] at c
        exact ⟨j, by omega, by omega, rfl⟩
      have l1 : ¬ p2 < 1 := fun z => by have := (ltN (k := 1) (by decide) p2).mp z; omega
      have l4 : ¬ (4 : Int32) < p2 := fun z => by have := (Nlt (k := 4) (by decide) p2).mp z; omega
      obtain ⟨h1, e1, q1, f1⟩ := q.H.putL p2
      have okL : HOk (sL (zH A) p2) := by rw [ek]; exact ok_L ok.H k1 k4
      refine b_now (r := hL (zH A)) (h1 := h1) q ok okL ?_ q1 f1 (fun g qg => ?_)
      · simp only [f_X6_ask, if_true, eq_false l1, eq_false l4, if_false, q.g0, Option.bind_some, q.H.L, e1]
      · obtain ⟨g1, e2, q2, f2⟩ := qg.H.putL p2
        refine ⟨g1, ?_, q2, f2⟩
        simp only [f_X7_ask, m2, c2, i1, Option.bind_some, if_true, mL, decide_eq_true c.1, decide_eq_true c.2, Bool.and_true, qg.H.L, e2]
    · have nn : (decide (1 ≤ p2.toInt) && decide (p2.toInt ≤ 4)) = false := by
        rw [Bool.eq_false_iff]
        intro z
        rw [Bool.and_eq_true, decide_eq_true_eq, decide_eq_true_eq] at z
        exact c z
      refine b_ref2 q ok ?_ (fun g qg => ?_)
      · by_cases l1 : p2 < 1
        · simp only [f_X6_ask, f_X6_ask_J32, refC, if_true, eq_true l1, eq_false (show ¬ (0 : Int32) = 1 by decide), if_false]
        · have l4 : (4 : Int32) < p2 := by
            rw [show (1 : Int32) = nI 1 from rfl, ltN (by decide)] at l1
            exact (Nlt (k := 4) (by decide) p2).mpr (by omega)
          simp only [f_X6_ask, f_X6_ask_J32, refC, if_true, eq_false l1, eq_true l4, eq_false (show ¬ (0 : Int32) = 1 by decide), if_false]
      · simp only [f_X7_ask, refM7, m2, c2, i1, i0, Option.bind_some, if_true, mL, nn]
  · by_cases e1 : p1 = 1
    · subst e1
      have c2 : sIs 2 1 = true := by decide
      have n1 := eq_false (show ¬ (1 : Int32) = 0 by decide)
      by_cases c : sIs 100 p2 = true
      · obtain ⟨k, hk, rfl⟩ := (sIs_iff (by decide) p2).mp c
        obtain ⟨h1, e1, q1, f1⟩ := q.H.putW (nI k)
        refine b_now (r := hW (zH A)) (h1 := h1) q ok (ok_W ok.H (by omega)) ?_ q1 f1 (fun g qg => ?_)
        · simp only [f_X6_ask, f_X6_ask_J32, n1, if_false, if_true, eq_false (show ¬ nI k < 0 from nI_pos (by omega)), eq_false (show ¬ (99 : Int32) < nI k from nI_nlt (a := 99) (by omega) (by omega)), q.g0, Option.bind_some, q.H.W, e1]
        · obtain ⟨g1, e2, q2, f2⟩ := qg.H.putW (nI k)
          refine ⟨g1, ?_, q2, f2⟩
          simp only [f_X7_ask, m2, c2, i1, Option.bind_some, n1, if_false, mW, c, qg.H.W, e2]
      · have c5 := sIs_nt (by decide) c
        refine b_ref2 q ok ?_ (fun g qg => ?_)
        · by_cases l1 : p2 < 0
          · simp only [f_X6_ask, f_X6_ask_J32, refC, n1, if_false, if_true, eq_true l1]
          · have l4 : (99 : Int32) < p2 := by
              rw [lt0] at l1
              exact (Nlt (k := 99) (by decide) p2).mpr (by omega)
            simp only [f_X6_ask, f_X6_ask_J32, refC, n1, if_false, if_true, eq_false l1, eq_true l4]
        · simp only [f_X7_ask, refM7, m2, c2, i1, i0, Option.bind_some, n1, if_false, mW, sIs_no c]
    · have c2 : sIs 2 p1 = false := by
        apply sIs_no
        intro z
        obtain ⟨j, hj, rfl⟩ := (sIs_iff (by decide) p1).mp z
        have : j = 0 ∨ j = 1 := by omega
        rcases this with rfl | rfl
        · exact e0 rfl
        · exact e1 rfl
      refine b_ref2 q ok ?_ (fun g qg => ?_)
      · simp only [f_X6_ask, f_X6_ask_J32, refC, eq_false e0, eq_false e1, if_false]
      · simp only [f_X7_ask, refM7, m2, c2, i0, Option.bind_some]
end Bop
