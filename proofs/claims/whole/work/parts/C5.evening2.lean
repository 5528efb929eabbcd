/-! evening, the call. -/
section Bop
variable {h h' : xH} {D : DS} {w : Nat → Nat} {A : AS} {n : Nat}
theorem b_evening (q : CI h D A) (ok : AOk A) (p : Int32) (hn : 20000 ≤ n) : BSt h D w A (f_X6_evening n h 16 p) (fun g => f_X7_evening n g 64 p) := by
  have h14 := ok.H.1
  have h4 := ok.H.2.1
  have mi : ∀ g : xH, f_X7_in g p.toInt64 1 60 = some (bI (decide (1 ≤ p.toInt) && decide (p.toInt ≤ 60))) := fun g => m_in (a := 1) (c := 60) (by decide) (by decide) p
  by_cases c : 1 ≤ p.toInt ∧ p.toInt ≤ 60
  · have l1 : ¬ p < 1 := fun z => by have := (ltN (k := 1) (by decide) p).mp z; omega
    have l2 : p ≤ 60 := (leN (k := 60) (by decide) p).mpr (by omega)
    have yy : (decide (1 ≤ p.toInt) && decide (p.toInt ≤ 60)) = true := by rw [decide_eq_true c.1, decide_eq_true c.2]; rfl
    by_cases cD : hD (zH A) = 0
    · refine b_ref5 q ok ?_ (fun g qg => ?_)
      · simp only [f_X6_evening, refC, eq_false l1, if_false, eq_true l2, if_true, q.g0, Option.bind_some, q.H.D, eq_true (show nI (hD (zH A)) = 0 by rw [cD]; rfl)]
      · simp only [f_X7_evening, refM7, mi, yy, i1, Option.bind_some, qg.H.D, eq_true (show nI (hD (zH A)) = 0 by rw [cD]; rfl), if_true]
    · have nD := eq_false (show ¬ nI (hD (zH A)) = 0 from nI_ne0 (by omega) (by omega))
      by_cases cP : hP (zH A) = 0
      · refine b_ref5 q ok ?_ (fun g qg => ?_)
        · simp only [f_X6_evening, refC, eq_false l1, if_false, eq_true l2, if_true, q.g0, Option.bind_some, q.H.D, nD, q.H.P, eq_true (show nI (hP (zH A)) = 0 by rw [cP]; rfl)]
        · simp only [f_X7_evening, refM7, mi, yy, i1, Option.bind_some, qg.H.D, nD, if_false, qg.H.P, eq_true (show nI (hP (zH A)) = 0 by rw [cP]; rfl), if_true]
      · have nP := eq_false (show ¬ nI (hP (zH A)) = 0 from nI_ne0 (by omega) (by omega))
        obtain ⟨k, hk, rfl⟩ : ∃ k : Nat, k ≤ 60 ∧ p = nI k := by
          obtain ⟨j, hj, e⟩ := (sIs_iff (n := 61) (by decide) p).mp (by rw [sIs_toInt (by decide), decide_eq_true (by omega), decide_eq_true (by omega)]; rfl)
          exact ⟨j, by omega, e⟩
        obtain ⟨h1, e1, q1, f1, g1⟩ := h_eve (n := n) ok.H (by omega) (by omega) hk q rfl (hN (zH A)) (by omega)
        have eN : hN (sEve (zH A) k).1 - hN (zH A) = nI (sEve (zH A) k).2 := by
          rw [(eve_D (H := zH A) k).2.2, Int32.add_comm, Int32.add_sub_cancel]
        refine b_now (r := nI (sEve (zH A) k).2) (h1 := h1) q ok (ok_eve ok.H (by omega) k) ?_ q1 f1 (fun g qg => ?_) (Nat.le_of_eq (eve_D (H := zH A) k).1.symm)
        · simp only [f_X6_evening, eq_false l1, if_false, eq_true l2, if_true, q.g0, Option.bind_some, q.H.D, nD, q.H.P, nP, q.H.N, e1, g1, q1.N, eN]
        · obtain ⟨k1, e2, q2, f2⟩ := m_eve (n := n) ok.H (by omega) (by omega) hk qg.H hn
          refine ⟨k1, ?_, q2, f2⟩
          simp only [f_X7_evening, mi, yy, i1, Option.bind_some, qg.H.D, nD, if_false, qg.H.P, nP, e2]
  · have nn : (decide (1 ≤ p.toInt) && decide (p.toInt ≤ 60)) = false := by
      rw [Bool.eq_false_iff]
      intro z
      rw [Bool.and_eq_true, decide_eq_true_eq, decide_eq_true_eq] at z
      exact c z
    refine b_ref2 q ok ?_ (fun g qg => ?_)
    · by_cases l1 : p < 1
      · simp only [f_X6_evening, refC, eq_true l1, if_true]
      · have l2 : ¬ p ≤ 60 := fun z => by
          have z1 := (leN (k := 60) (by decide) p).mp z
          rw [show (1 : Int32) = nI 1 from rfl, ltN (by decide)] at l1
          omega
        simp only [f_X6_evening, refC, eq_false l1, eq_false l2, if_false]
    · simp only [f_X7_evening, refM7, mi, nn, i0, Option.bind_some]
end Bop
