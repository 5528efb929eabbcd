/-! ways, door, stand, ask, wipe. -/
section Bop
variable {h : xH} {D : DS} {w : Nat → Nat} {A : AS} {X : Option (Int32 × xH)} {Y : xH → Option (Int32 × xH)} {n : Nat}
theorem lt0 (x : Int32) : x < 0 ↔ x.toInt < 0 := Int32.lt_iff_toInt_lt
theorem leN {k : Nat} (hk : k < 2 ^ 31) (x : Int32) : x ≤ nI k ↔ x.toInt ≤ k := by rw [Int32.le_iff_toInt_le, nI_toInt hk]
theorem ltN {k : Nat} (hk : k < 2 ^ 31) (x : Int32) : x < nI k ↔ x.toInt < k := by rw [Int32.lt_iff_toInt_lt, nI_toInt hk]
theorem Nlt {k : Nat} (hk : k < 2 ^ 31) (x : Int32) : nI k < x ↔ (k : Int) < x.toInt := by rw [Int32.lt_iff_toInt_lt, nI_toInt hk]
theorem sIs_nt {k : Nat} (hk : k < 2 ^ 31) {x : Int32} (c : ¬ sIs k x = true) : ¬ (0 ≤ x.toInt ∧ x.toInt ≤ (k : Int) - 1) := by
  rw [sIs_toInt hk, Bool.and_eq_true, decide_eq_true_eq, decide_eq_true_eq] at c
  exact c
theorem sMany_lt {H : HS} (ok : HOk H) : sMany H < 2 ^ 30 := by
  have h14 := ok.1
  have := smB_le (f := fun s => if wq H s then 1 else 0) (m := 1) (fun j => by split <;> omega) (2 ^ hD H)
  have h2 : 2 ^ hD H ≤ 2 ^ 14 := Nat.pow_le_pow_right (by decide) h14
  unfold sMany
  omega
theorem b_ways (q : CI h D A) (ok : AOk A) (p1 p2 p3 : Int32) (hn : 20000 ≤ n) : BSt h D w A (f_X6_ways n h 16 p1 p2 p3) (fun g => f_X7_ways n g 64 p1 p2 p3) := by
  refine b_one' q ok (p1 := p1) (fun c => ⟨?_, fun g qg => ?_⟩) (fun p hp e c => ?_)
  · simp only [f_X6_ways, refC, q.g0, q.H.ob, h_hasOne q.H, c, i0, Option.bind_some]
  · simp only [f_X7_ways, refM7, qg.ob, m_isOne qg.H ok.H, c, i0, Option.bind_some]
  · refine b_door' q ok (p1 := p2) (fun c2 => ⟨?_, fun g qg => ?_⟩) (fun d hd e2 c2 => ?_)
    · simp only [f_X6_ways, refC, q.g0, q.H.ob, h_hasOne q.H, c, i0, i1, h_hasDoor q.H, c2, Option.bind_some]
    · simp only [f_X7_ways, refM7, qg.ob, m_isOne qg.H ok.H, c, i0, i1, m_isDoor qg.H ok.H, c2, Option.bind_some]
    · subst e
      subst e2
      have m3 : ∀ g : xH, f_X7_in g p3.toInt64 0 1 = some (bI (sIs 2 p3)) := fun g => m_is (by decide) (by decide) p3
      by_cases c3 : sIs 2 p3 = true
      · obtain ⟨j, hj, rfl⟩ := (sIs_iff (by decide) p3).mp c3
        have : j = 0 ∨ j = 1 := by omega
        rcases this with rfl | rfl
        · have hne : ¬ (if sStands (zH A) p d then nI (sMany (zH A)) else 0) = -1 := by
            by_cases cs : sStands (zH A) p d = true
            · rw [if_pos cs]; exact nI_nm1 (sMany_lt ok.H)
            · rw [if_neg cs]; decide
          refine b_val q ok (if sStands (zH A) p d then nI (sMany (zH A)) else 0) ?_ (fun g qg => ?_)
          · simp only [f_X6_ways, q.g0, q.H.ob, h_hasOne q.H, c, i0, i1, h_hasDoor q.H, c2, Option.bind_some, eq_false (show ¬ nI 0 < (0 : Int32) by decide), eq_true (show nI 0 ≤ (1 : Int32) by decide), eq_true (show nI 0 = (0 : Int32) from rfl), if_true, if_false, h_countSets q.H ok.H (show 20 ≤ n by omega) hp hd]
          · have e0 : f_X7_waysOf n g 64 (nI p) (nI d) (nI 0) = _ := m_ways0 qg.H ok.H hn hp hd
            simp only [f_X7_ways, qg.ob, m_isOne qg.H ok.H, c, i0, i1, m_isDoor qg.H ok.H, c2, Option.bind_some, m3, c3, e0, eq_false hne, if_false]
        · by_cases cl : sLeast (zH A) p d = -1
          · refine b_ref5 q ok ?_ (fun g qg => ?_)
            · simp only [f_X6_ways, refC, q.g0, q.H.ob, h_hasOne q.H, c, i0, i1, h_hasDoor q.H, c2, Option.bind_some, eq_false (show ¬ nI 1 < (0 : Int32) by decide), eq_true (show nI 1 ≤ (1 : Int32) by decide), eq_false (show ¬ nI 1 = (0 : Int32) by decide), if_true, if_false, h_leastSet q.H ok.H (show 20 ≤ n by omega) hp hd, eq_true cl]
            · have e0 : f_X7_waysOf n g 64 (nI p) (nI d) (nI 1) = _ := m_ways1 qg.H ok.H hn hp hd
              simp only [f_X7_ways, refM7, qg.ob, m_isOne qg.H ok.H, c, i0, i1, m_isDoor qg.H ok.H, c2, Option.bind_some, m3, c3, e0, eq_true cl, if_true]
          · refine b_val q ok (sLeast (zH A) p d) ?_ (fun g qg => ?_)
            · simp only [f_X6_ways, refC, q.g0, q.H.ob, h_hasOne q.H, c, i0, i1, h_hasDoor q.H, c2, Option.bind_some, eq_false (show ¬ nI 1 < (0 : Int32) by decide), eq_true (show nI 1 ≤ (1 : Int32) by decide), eq_false (show ¬ nI 1 = (0 : Int32) by decide), if_true, if_false, h_leastSet q.H ok.H (show 20 ≤ n by omega) hp hd, eq_false cl]
            · have e0 : f_X7_waysOf n g 64 (nI p) (nI d) (nI 1) = _ := m_ways1 qg.H ok.H hn hp hd
              simp only [f_X7_ways, refM7, qg.ob, m_isOne qg.H ok.H, c, i0, i1, m_isDoor qg.H ok.H, c2, Option.bind_some, m3, c3, e0, eq_false cl, if_false]
      · have c4 := sIs_no c3
        have c5 := sIs_nt (by decide) c3
        refine b_ref2 q ok ?_ (fun g qg => ?_)
        · by_cases c6 : p3 < 0
          · simp only [f_X6_ways, refC, q.g0, q.H.ob, h_hasOne q.H, c, i0, i1, h_hasDoor q.H, c2, Option.bind_some, eq_true c6, if_true]
          · have c7 : ¬ p3 ≤ 1 := fun z => by
              have z1 := (leN (k := 1) (by decide) p3).mp z
              rw [lt0] at c6
              omega
            simp only [f_X6_ways, refC, q.g0, q.H.ob, h_hasOne q.H, c, i0, i1, h_hasDoor q.H, c2, Option.bind_some, eq_false c6, eq_false c7, if_false]
        · simp only [f_X7_ways, refM7, qg.ob, m_isOne qg.H ok.H, c, i0, i1, m_isDoor qg.H ok.H, c2, Option.bind_some, m3, c4]
theorem sAddD_1 (H : HS) (a p3 : Int32) : sAddD H (nI 1) a p3 = sAddD H (nI 1) a (nI 0) := by
  unfold sAddD
  rw [if_pos (show nI 1 = (1 : Int32) from rfl), if_pos (show nI 1 = (1 : Int32) from rfl)]
theorem m_door1 (g : xH) (a p3 : Int32) : f_X7_door g 64 (nI 1) a p3 = f_X7_door g 64 (nI 1) a (nI 0) := by
  unfold f_X7_door f_X7_door_J45
  simp only [eq_true (show nI 1 = (1 : Int32) from rfl), if_true]
theorem b_doorJ (q : CI h D A) (ok : AOk A) {k a : Nat} {p3 : Int32} (hk : k < 6) (ha : a < 8) (hv : k = 1 ∨ ∃ c, c < 8 ∧ p3 = nI c ∧ a ≠ c) : BSt h D w A (f_X6_door_J45 h 16 (nI k) (nI a) p3) (fun g => f_X7_door g 64 (nI k) (nI a) p3) := by
  have h14 := ok.H.1
  by_cases cD : hD (zH A) < 14
  · obtain ⟨h1, e1, q1, f1⟩ := h_addDoor q.H cD (nI k) (nI a) p3
    have okm : HOk (sAddD (zH A) (nI k) (nI a) p3) ∧ ∀ g, MIn g w A → ∃ g1, f_X7_door g 64 (nI k) (nI a) p3 = some (nI (hD (zH A)), g1) ∧ MH g1 64 (sAddD (zH A) (nI k) (nI a) p3) ∧ FrH 64 g g1 := by
      by_cases e : k = 1
      · subst e
        rw [sAddD_1]
        refine ⟨ok_addD ok.H cD hk ha (Or.inl rfl), fun g qg => ?_⟩
        rw [m_door1]
        exact m_addD qg.H ok.H cD hk ha (by decide) (Or.inl rfl)
      · obtain ⟨c, hc, rfl, hac⟩ := hv.resolve_left e
        exact ⟨ok_addD ok.H cD hk ha (Or.inr hc), fun g qg => m_addD qg.H ok.H cD hk ha hc (Or.inr hac)⟩
    refine b_now (r := nI (hD (zH A))) q ok okm.1 (h1 := h1) ?_ q1 f1 okm.2
    simp only [f_X6_door_J45, q.g0, Option.bind_some, q.H.D, eq_true (show nI (hD (zH A)) < 14 from nI_lt (b := 14) cD (by decide)), if_true, q.H.ob, e1]
  · have e14 : hD (zH A) = 14 := by omega
    refine b_ref6 q ok ?_ (fun g qg => ?_)
    · simp only [f_X6_door_J45, refC, q.g0, Option.bind_some, q.H.D, eq_false (show ¬ nI (hD (zH A)) < 14 from nI_nlt (b := 14) (by omega) (by omega)), if_false]
    · have k6 : sIs 6 (nI k) = true := (sIs_iff (by decide) _).mpr ⟨k, hk, rfl⟩
      have k8 : sIs 8 (nI a) = true := (sIs_iff (by decide) _).mpr ⟨a, ha, rfl⟩
      have J : f_X7_door_J45 g 64 (nI k) (nI a) p3 = refM7 g (-6) := by
        simp only [f_X7_door_J45, refM7, qg.H.D, Option.bind_some, eq_true (show nI (hD (zH A)) = 14 by rw [e14]; rfl), if_true]
      by_cases e : k = 1
      · simp only [f_X7_door, m_is6, k6, i1, m_isR, k8, Option.bind_some, eq_true (show nI k = 1 by rw [e]; rfl), if_true, J]
      · obtain ⟨c, hc, rfl, hac⟩ := hv.resolve_left e
        have k9 : sIs 8 (nI c) = true := (sIs_iff (by decide) _).mpr ⟨c, hc, rfl⟩
        simp only [f_X7_door, m_is6, k6, i1, m_isR, k8, k9, Option.bind_some, eq_false (show ¬ nI k = 1 from fun z => e ((nI_eqc (by omega) (by decide)).mp (show nI k = nI 1 from z))), eq_false (show ¬ nI a = nI c from fun z => hac ((nI_eqc (by omega) (by omega)).mp z)), if_false, J]
theorem b_door (q : CI h D A) (ok : AOk A) (p1 p2 p3 : Int32) : BSt h D w A (f_X6_door h 16 p1 p2 p3) (fun g => f_X7_door g 64 p1 p2 p3) := by
  by_cases k1 : sIs 6 p1 = true
  · by_cases k2 : sIs 8 p2 = true
    · obtain ⟨k, hk, rfl⟩ := (sIs_iff (by decide) p1).mp k1
      obtain ⟨a, ha, rfl⟩ := (sIs_iff (by decide) p2).mp k2
      by_cases e : k = 1
      · have ex : f_X6_door h 16 (nI k) (nI a) p3 = f_X6_door_J45 h 16 (nI k) (nI a) p3 := by
          simp only [f_X6_door, c_isK, k1, i1, c_isR, k2, Option.bind_some, eq_true (show nI k = 1 by rw [e]; rfl), if_true]
        rw [ex]
        exact b_doorJ q ok hk ha (Or.inl e)
      · have ne := eq_false (show ¬ nI k = 1 from fun z => e ((nI_eqc (by omega) (by decide)).mp (show nI k = nI 1 from z)))
        by_cases k3 : sIs 8 p3 = true
        · obtain ⟨c, hc, rfl⟩ := (sIs_iff (by decide) p3).mp k3
          by_cases ea : a = c
          · refine b_ref2 q ok ?_ (fun g qg => ?_)
            · simp only [f_X6_door, refC, c_isK, k1, i1, c_isR, k2, k3, Option.bind_some, ne, if_false, eq_true (show nI a = nI c by rw [ea]), if_true]
            · simp only [f_X7_door, refM7, m_is6, k1, i1, m_isR, k2, k3, Option.bind_some, ne, if_false, eq_true (show nI a = nI c by rw [ea]), if_true]
          · have ex : f_X6_door h 16 (nI k) (nI a) (nI c) = f_X6_door_J45 h 16 (nI k) (nI a) (nI c) := by
              simp only [f_X6_door, c_isK, k1, i1, c_isR, k2, k3, Option.bind_some, ne, if_false, eq_false (show ¬ nI a = nI c from fun z => ea ((nI_eqc (by omega) (by omega)).mp z))]
            rw [ex]
            exact b_doorJ q ok hk ha (Or.inr ⟨c, hc, rfl, ea⟩)
        · refine b_ref2 q ok ?_ (fun g qg => ?_)
          · simp only [f_X6_door, refC, c_isK, k1, i1, i0, c_isR, k2, sIs_no k3, Option.bind_some, ne, if_false]
          · simp only [f_X7_door, refM7, m_is6, k1, i1, i0, m_isR, k2, sIs_no k3, Option.bind_some, ne, if_false]
    · refine b_ref2 q ok ?_ (fun g qg => ?_)
      · simp only [f_X6_door, refC, c_isK, k1, i1, i0, c_isR, sIs_no k2, Option.bind_some]
      · simp only [f_X7_door, refM7, m_is6, k1, i1, i0, m_isR, sIs_no k2, Option.bind_some]
  · refine b_ref2 q ok ?_ (fun g qg => ?_)
    · simp only [f_X6_door, refC, c_isK, sIs_no k1, i0, Option.bind_some]
    · simp only [f_X7_door, refM7, m_is6, sIs_no k1, i0, Option.bind_some]
end Bop
