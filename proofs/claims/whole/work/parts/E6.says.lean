/-! says. -/
def undB (k t : Nat) : Bool := decide (t = 0) || decide (k = t) || (decide (t = 2) && decide (k = 5))
section Mk
variable {h h' g g' : xH} {w w' : Nat → Nat} {A : AS} {D : DS} {n : Nat}
theorem c_und {k t : Nat} (hk : k < 6) (ht : t < 6) (hn : 7 ≤ n) : f_X6_isUnder n h (nI k) (nI t) = some (bI (undB k t)) := by
  obtain ⟨n, rfl⟩ : ∃ x, n = x + 7 := ⟨n - 7, by omega⟩
  rcases (show k = 0 ∨ k = 1 ∨ k = 2 ∨ k = 3 ∨ k = 4 ∨ k = 5 by omega) with rfl | rfl | rfl | rfl | rfl | rfl <;> rcases (show t = 0 ∨ t = 1 ∨ t = 2 ∨ t = 3 ∨ t = 4 ∨ t = 5 by omega) with rfl | rfl | rfl | rfl | rfl | rfl <;> rfl
theorem t6 : ∀ t, t < 6 → (nI t = 0 ↔ t = 0) ∧ (nI t = 1 ↔ t = 1) ∧ (nI t = 2 ↔ t = 2) ∧ (nI t = 3 ↔ t = 3) ∧ (nI t = 4 ↔ t = 4) ∧ (nI t = 5 ↔ t = 5) := by decide +kernel
theorem m_und {k t : Nat} (hk : k < 6) (ht : t < 6) : (if nI t = 0 then some (1 : Int32) else if nI k = nI t then some (1 : Int32) else if nI t = (2 : Int32) then (if nI k = (5 : Int32) then some (1 : Int32) else some (0 : Int32)) else some (0 : Int32)) = some (bI (undB k t)) := by
  rcases (show k = 0 ∨ k = 1 ∨ k = 2 ∨ k = 3 ∨ k = 4 ∨ k = 5 by omega) with rfl | rfl | rfl | rfl | rfl | rfl <;> rcases (show t = 0 ∨ t = 1 ∨ t = 2 ∨ t = 3 ∨ t = 4 ∨ t = 5 by omega) with rfl | rfl | rfl | rfl | rfl | rfl <;> rfl
def sayV (H : HS) (d t : Nat) : Int32 := if t = 0 then nI (wtN (hK H d)) else if t = 1 then hA H d else if t = 3 then bI (sSome H (hA H d)) else if t = 4 then bI (sSome H (hB H d)) else i_shr (sShutM H) (nI d) &&& 1
theorem bI01 (b : Bool) : (if bI b = 0 then some (0 : Int32) else some (1 : Int32)) = some (bI b) := by cases b <;> rfl
theorem bI01' (b : Bool) (g : xH) : (if bI b = 0 then some ((0 : Int32), g) else some ((1 : Int32), g)) = some (bI b, g) := by cases b <;> rfl
theorem c_say {d t : Nat} (q : CI h D A) (ok : AOk A) (hd : d < hD (zH A)) (ht : t < 6) (hn : 20 ≤ n) : f_X6_saying n h 16 (nI d) (nI t) = some (sayV (zH A) d t) := by
  obtain ⟨z0, z1, z2, z3, z4, z5⟩ := t6 t ht
  unfold f_X6_saying sayV
  rcases (show t = 0 ∨ t = 1 ∨ t = 2 ∨ t = 3 ∨ t = 4 ∨ t = 5 by omega) with rfl | rfl | rfl | rfl | rfl | rfl
  · rw [if_neg (by decide), if_neg (by decide), if_neg (by decide), if_neg (by decide), q.g0, Option.bind_some, q.H.ob, Option.bind_some, h_weightOf q.H ok.1 hd, Option.bind_some, if_pos rfl]
  · rw [if_pos (by decide), q.g0, Option.bind_some, q.H.ra, Option.bind_some, q.H.ldA ok.1 hd, Option.bind_some, if_neg (by decide), if_pos rfl]
  · rw [if_neg (by decide), if_pos (by decide), q.g0, Option.bind_some, q.H.ob, Option.bind_some, h_shuttable q.H ok.1 hn, Option.bind_some, if_neg (by decide), if_neg (by decide), if_neg (by decide), if_neg (by decide)]
  · rw [if_neg (by decide), if_neg (by decide), if_pos (by decide), q.g0, Option.bind_some, Option.bind_some, q.H.ra, Option.bind_some, q.H.ldA ok.1 hd, Option.bind_some, q.H.ob, Option.bind_some, h_someoneIn q.H ok.1 hn, Option.bind_some, bI01, if_neg (by decide), if_neg (by decide), if_pos rfl]
  · rw [if_neg (by decide), if_neg (by decide), if_neg (by decide), if_pos (by decide), q.g0, Option.bind_some, Option.bind_some, q.H.rb, Option.bind_some, q.H.ldB ok.1 hd, Option.bind_some, q.H.ob, Option.bind_some, h_someoneIn q.H ok.1 hn, Option.bind_some, bI01, if_neg (by decide), if_neg (by decide), if_neg (by decide), if_pos rfl]
  · rw [if_neg (by decide), if_pos (by decide), q.g0, Option.bind_some, q.H.ob, Option.bind_some, h_shuttable q.H ok.1 hn, Option.bind_some, if_neg (by decide), if_neg (by decide), if_neg (by decide), if_neg (by decide)]
theorem m_say {j d t : Nat} (q : MIn g w A) (ok : AOk A) (hj : j < 8) (h14 : d < 14) (e : (zS A j).1 = nI (10 + d)) (hd : d < hD (zH A)) (ht : t < 6) (hn : 20 ≤ n) : f_X7_says_J117 n g 64 (nI j) (nI t) = some (sayV (zH A) d t, g) := by
  obtain ⟨r0, l0⟩ := m_sh0 q ok hj
  rw [m0_d h14 e] at l0
  obtain ⟨f0, f1, f2, f5, gg, ⟨a0, x1, x2, a5, -⟩, s⟩ := q.2.2.1
  have r5 : x_gR g 64 7 5 = some 78 := q.g (k := 5) (by omega)
  have l5 := At.ld a5 hj (by decide)
  rw [((s j hj).2.2 d h14 e).2] at l5
  unfold f_X7_says_J117 sayV
  rw [r0, Option.bind_some, l0, Option.bind_some, if_neg (by decide), r5, Option.bind_some, l5, Option.bind_some]
  rcases (show t = 0 ∨ t = 1 ∨ t = 2 ∨ t = 3 ∨ t = 4 ∨ t = 5 by omega) with rfl | rfl | rfl | rfl | rfl | rfl
  · rw [if_pos (by decide), q.ob, Option.bind_some, m_weightOf q.H ok.1 hd, Option.bind_some, if_pos rfl]
  · rw [if_neg (by decide), if_pos (by decide), q.H.rd, Option.bind_some, q.H.ldQ ok.1 hd, Option.bind_some, q.H.ldA ok.1 hd, Option.bind_some, if_neg (by decide), if_pos rfl]
  · rw [if_neg (by decide), if_neg (by decide), if_neg (by decide), if_neg (by decide), q.ob, Option.bind_some, m_shuttable q.H ok.1 hn, Option.bind_some, if_neg (by decide), if_neg (by decide), if_neg (by decide), if_neg (by decide)]
  · rw [if_neg (by decide), if_neg (by decide), if_pos (by decide), q.H.rd, Option.bind_some, q.H.ldQ ok.1 hd, Option.bind_some, q.H.ldA ok.1 hd, Option.bind_some, q.ob, Option.bind_some, m_some q.H ok.1 hn, Option.bind_some, bI01', if_neg (by decide), if_neg (by decide), if_pos rfl]
  · rw [if_neg (by decide), if_neg (by decide), if_neg (by decide), if_pos (by decide), q.H.rd, Option.bind_some, q.H.ldQ ok.1 hd, Option.bind_some, q.H.ldB ok.1 hd, Option.bind_some, q.ob, Option.bind_some, m_some q.H ok.1 hn, Option.bind_some, bI01', if_neg (by decide), if_neg (by decide), if_neg (by decide), if_pos rfl]
  · rw [if_neg (by decide), if_neg (by decide), if_neg (by decide), if_neg (by decide), q.ob, Option.bind_some, m_shuttable q.H ok.1 hn, Option.bind_some, if_neg (by decide), if_neg (by decide), if_neg (by decide), if_neg (by decide)]
theorem und1 : ∀ t, t < 6 → ∃ x : Int32, (if nI t = 0 then some (1 : Int32) else if (-1 : Int32) = nI t then some (1 : Int32) else if nI t = (2 : Int32) then (if (-1 : Int32) = (5 : Int32) then some (1 : Int32) else some (0 : Int32)) else some (0 : Int32)) = some x := by
  intro t ht
  rcases (show t = 0 ∨ t = 1 ∨ t = 2 ∨ t = 3 ∨ t = 4 ∨ t = 5 by omega) with rfl | rfl | rfl | rfl | rfl | rfl <;> exact ⟨_, rfl⟩
/-- says -/
theorem b_says (q : CI h D A) (ok : AOk A) (p1 p2 : Int32) (hn : 20 ≤ n) : BSt h D w A (f_X6_says n h 16 p1 p2) (fun g => f_X7_says n g 64 p1 p2) := by
  have n12 : ¬ (1 : Int32) = 2 := by decide
  have n02 : ¬ (0 : Int32) = 2 := by decide
  have n01 : ¬ (0 : Int32) = 1 := by decide
  have n21 : ¬ (2 : Int32) = 1 := by decide
  have n10 : ¬ (1 : Int32) = 0 := by decide
  by_cases c : sIs 8 p1 = true
  · by_cases c2 : sIs 6 p2 = true
    · obtain ⟨j, hj, rfl⟩ := (sIs_iff (by decide) p1).mp c
      obtain ⟨t, ht, rfl⟩ := (sIs_iff (by decide) p2).mp c2
      have qs := q.s1 hj
      obtain ⟨x, ex⟩ := und1 t ht
      rcases ok.2.2.1 j hj with ⟨z1, z2⟩ | ⟨k, z, hk, hz, z1, z2⟩ | ⟨d, hd, z1, z2⟩
      · obtain ⟨e1, e2⟩ := cs_e qs z1
        refine b_ref4 q ok ?_ (fun g qg => ?_)
        · simp only [f_X6_says, refC, c_is8, c, c_isK, c2, i1, Option.bind_some, q.g4, q.ldS hj, qs.ob, e2, eq_false n10, if_false]
        · obtain ⟨r0, l0⟩ := m_sh0 qg ok hj
          rw [m0_e z1] at l0
          show f_X7_says n g 64 (nI j) (nI t) = _
          unfold f_X7_says
          rw [m_is8, c, Option.bind_some, i1, m_is6, c2, Option.bind_some, i1, r0, Option.bind_some, l0, Option.bind_some, if_neg n02, Option.bind_some, ex, Option.bind_some, Option.bind_some, l0, Option.bind_some, if_neg n01, Option.bind_some, l0, Option.bind_some, if_neg n02]
          unfold f_X7_says_J117
          rw [r0, Option.bind_some, l0, Option.bind_some, if_pos rfl]
          rfl
      · obtain ⟨e1, e2⟩ := cs_r qs hk z1
        refine b_ref3 q ok ?_ (fun g qg => ?_)
        · simp only [f_X6_says, refC, c_is8, c, c_isK, c2, i1, Option.bind_some, q.g4, q.ldS hj, qs.ob, e2, e1, if_true]
        · obtain ⟨r0, l0⟩ := m_sh0 qg ok hj
          rw [m0_r hk z1] at l0
          show f_X7_says n g 64 (nI j) (nI t) = _
          unfold f_X7_says
          rw [m_is8, c, Option.bind_some, i1, m_is6, c2, Option.bind_some, i1, r0, Option.bind_some, l0, Option.bind_some, if_neg n12, Option.bind_some, ex, Option.bind_some, Option.bind_some, l0, Option.bind_some, if_pos rfl]
          rfl
      · obtain ⟨e1, e2, e3⟩ := cs_d qs hd z1
        have hdD := ok.2.2.2.2 j hj d hd z1
        obtain ⟨k, hk, ek⟩ := (ok.1.2.2.1 d hdD).1
        have h14 := ok.1.1
        have cd : sIs (hD (zH A)) (nI d) = true := (sIs_iff (by omega) _).mpr ⟨d, hdD, rfl⟩
        have eC : f_X6_says n h 16 (nI j) (nI t) = if bI (undB k t) = 0 then refC h (-3) else some (sayV (zH A) d t, h) := by
          unfold f_X6_says
          rw [c_is8, c, Option.bind_some, i1, c_isK, c2, Option.bind_some, i1, q.g4, Option.bind_some, q.ldS hj, Option.bind_some, qs.ob, Option.bind_some, e2, Option.bind_some, if_pos rfl, Option.bind_some, e1, Option.bind_some, if_neg n10, q.g0, Option.bind_some, Option.bind_some, e3, Option.bind_some, q.H.ob, Option.bind_some, h_hasDoor q.H, cd, Option.bind_some, i1, Option.bind_some, Option.bind_some, Option.bind_some, q.H.rk, Option.bind_some, q.H.ldK ok.1 hdD, Option.bind_some, ek, c_und hk ht (by omega), Option.bind_some, q.ob, Option.bind_some, c_say q ok hdD ht hn, Option.bind_some]
          unfold refC
          rw [q.ob]
          rfl
        have eM : ∀ g, MIn g w A → f_X7_says n g 64 (nI j) (nI t) = if bI (undB k t) = 0 then refM7 g (-3) else some (sayV (zH A) d t, g) := fun g qg => by
          obtain ⟨r0, l0⟩ := m_sh0 qg ok hj
          rw [m0_d hd z1] at l0
          obtain ⟨f0, f1, f2, f5, gg, ⟨a0, x1, x2, a5, -⟩, s⟩ := qg.2.2.1
          have r5 : x_gR g 64 7 5 = some 78 := qg.g (k := 5) (by omega)
          have l5 := At.ld a5 hj (by decide)
          rw [((s j hj).2.2 d hd z1).2] at l5
          unfold f_X7_says
          rw [m_is8, c, Option.bind_some, i1, m_is6, c2, Option.bind_some, i1, r0, Option.bind_some, l0, Option.bind_some, if_pos rfl, qg.H.rd, Option.bind_some, r5, Option.bind_some, l5, Option.bind_some, qg.H.ldQ ok.1 hdD, Option.bind_some, qg.H.ldK ok.1 hdD, Option.bind_some, Option.bind_some, ek, m_und hk ht, Option.bind_some, Option.bind_some, l0, Option.bind_some, if_neg n21, Option.bind_some, l0, Option.bind_some, if_pos rfl, m_say qg ok hj hd z1 hdD ht hn]
          rfl
        cases u : undB k t with
        | false =>
          rw [u] at eC eM
          exact b_ref3 q ok eC (fun g qg => eM g qg)
        | true =>
          rw [u] at eC eM
          exact b_val q ok _ eC (fun g qg => eM g qg)
    · refine b_ref2 q ok ?_ (fun g qg => ?_)
      · simp only [f_X6_says, refC, c_is8, c, c_isK, sIs_no c2, i1, i0, Option.bind_some]
      · simp only [f_X7_says, refM7, m_is8, c, m_is6, sIs_no c2, i1, i0, Option.bind_some]
  · refine b_ref2 q ok ?_ (fun g qg => ?_)
    · simp only [f_X6_says, refC, c_is8, sIs_no c, i0, Option.bind_some]
    · simp only [f_X7_says, refM7, m_is8, sIs_no c, i0, Option.bind_some]
end Mk
