/-! stock; how many shelves are full. -/
section Bop
variable {h h' : xH} {D : DS} {w : Nat → Nat} {A : AS} {n : Nat}
theorem b_stock (q : CI h D A) (ok : AOk A) (hn : 20 ≤ n) : BVl w A (f_X6_stock n h 16) (fun g => f_X7_stock n g 64) := by
  refine ⟨nI (sStock (zH A)), ?_, fun g qg => ?_⟩
  · simp only [f_X6_stock, q.g0, q.H.ob, Option.bind_some, h_openStock q.H ok.H hn]
  · simp only [f_X7_stock, qg.ob, Option.bind_some, m_stockNow qg.H ok.H hn]
def zFull (A : AS) (j : Nat) : Nat := if (zS A j).1 = -1 then 0 else 1
theorem c_full (q : CI h D A) (hn : 20 ≤ n) : f_X6_fullShelves n h 16 = some (nI (smB (zFull A) 8)) := by
  have := lpE (L := fun k s i => f_X6_fullShelves_L4 h 16 k s (nI i)) (g := fun i => nI (smB (zFull A) i)) (D := 8) (n := n) (fin := nI (smB (zFull A) 8)) (by omega)
    (fun k => by
      show f_X6_fullShelves_L4 h 16 (k + 1) _ (nI 8) = _
      rw [f_X6_fullShelves_L4, if_pos (show (8 : Int32) ≤ nI 8 by decide)])
    (fun k i hi => by
      show f_X6_fullShelves_L4 h 16 (k + 1) (nI (smB (zFull A) i)) (nI i) = f_X6_fullShelves_L4 h 16 k (nI (smB (zFull A) i + zFull A i)) (nI (i + 1))
      rw [f_X6_fullShelves_L4, if_neg (show ¬ (8 : Int32) ≤ nI i from nI_ge (b := 8) hi (by decide)), q.g4, Option.bind_some, q.ldS hi, Option.bind_some, (q.s1 hi).ob, Option.bind_some]
      unfold f_X4_isEmpty zFull
      rw [(q.s1 hi).g0, Option.bind_some]
      by_cases c : (zS A i).1 = -1
      · rw [if_pos c, if_pos c, Option.bind_some, if_neg (show ¬ (1 : Int32) = 0 by decide), Option.bind_some, nI_1]; rfl
      · rw [if_neg c, if_neg c, Option.bind_some, if_pos rfl, Option.bind_some, Option.bind_some, nI_1, nI_1])
  unfold f_X6_fullShelves
  rw [show f_X6_fullShelves_L4 h 16 n 0 0 = _ from this, Option.bind_some]
theorem m_full {g : xH} (qg : MIn g w A) (ok : AOk A) (hn : 20 ≤ n) : f_X7_status_L118 g 64 n 0 0 = some (nI (smB (zFull A) 8)) := by
  obtain ⟨f0, f1, f2, f5, gg, ⟨a0, -⟩, s⟩ := qg.2.2.1
  have r0 : x_gR g 64 7 0 = some 65 := qg.g (k := 0) (by omega)
  have := lpE (L := fun k s i => f_X7_status_L118 g 64 k s (nI i)) (g := fun i => nI (smB (zFull A) i)) (D := 8) (n := n) (fin := nI (smB (zFull A) 8)) (by omega)
    (fun k => by
      show f_X7_status_L118 g 64 (k + 1) _ (nI 8) = _
      rw [f_X7_status_L118, if_pos (show (8 : Int32) ≤ nI 8 by decide)])
    (fun k i hi => by
      show f_X7_status_L118 g 64 (k + 1) (nI (smB (zFull A) i)) (nI i) = f_X7_status_L118 g 64 k (nI (smB (zFull A) i + zFull A i)) (nI (i + 1))
      rw [f_X7_status_L118, if_neg (show ¬ (8 : Int32) ≤ nI i from nI_ge (b := 8) hi (by decide)), r0, Option.bind_some, a0.ld hi (by decide), Option.bind_some]
      obtain ⟨s0, s1, s2⟩ := s i hi
      unfold zFull
      rcases ok.2.2.1 i hi with ⟨z1, z2⟩ | ⟨k', z, hk, hz, z1, z2⟩ | ⟨d, hd, z1, z2⟩
      · rw [s0 z1, if_pos rfl, if_pos z1, Option.bind_some, Option.bind_some, nI_add0, nI_1]; rfl
      · rw [(s1 k' hk z1).1, if_neg (show ¬ (1 : Int32) = 0 by decide), if_neg (by rw [z1]; exact nI_nm1 (by omega)), Option.bind_some, Option.bind_some, nI_1, nI_1]
      · rw [(s2 d hd z1).1, if_neg (show ¬ (2 : Int32) = 0 by decide), if_neg (by rw [z1]; exact nI_nm1 (by omega)), Option.bind_some, Option.bind_some, nI_1, nI_1])
  exact this
end Bop
