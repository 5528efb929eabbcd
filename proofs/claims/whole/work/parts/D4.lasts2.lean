/-! spare, endless, boxes. -/
def spB (H : HS) (L : Nat) : Nat → Option (Nat × Nat)
  | 0 => none
  | i + 1 => if bt (hO H) i = true then (match spB H L i with
    | none => some (i, sLasts H (sClr (hO H) i) L 0)
    | some x => if sLasts H (sClr (hO H) i) L 0 ≤ x.2 then some x else some (i, sLasts H (sClr (hO H) i) L 0)) else spB H L i
def spI (o : Option (Nat × Nat)) : Int32 := match o with
  | none => -1
  | some x => nI x.1
def spC (o : Option (Nat × Nat)) : Int32 := match o with
  | none => -1
  | some x => nI x.2
def spM (T : Nat) (o : Option (Nat × Nat)) : Int32 := match o with
  | none => 0
  | some x => nI T - nI x.2
theorem spB_ok {H : HS} {L : Nat} : ∀ (i : Nat) (x : Nat × Nat), spB H L i = some x → x.1 < i ∧ x.2 ≤ 99
  | 0, x, e => by cases e
  | i + 1, x, e => by
    unfold spB at e
    have b := sLasts_le H (sClr (hO H) i) L 0
    by_cases c : bt (hO H) i = true
    · rw [if_pos c] at e
      cases z : spB H L i with
      | none => rw [z] at e; cases e; exact ⟨Nat.lt_succ_self _, b⟩
      | some y =>
        rw [z] at e
        have := spB_ok i y z
        dsimp only at e
        split at e
        · cases e; exact ⟨by omega, this.2⟩
        · cases e; exact ⟨Nat.lt_succ_self _, b⟩
    · rw [if_neg c] at e
      have := spB_ok i x e
      exact ⟨by omega, this.2⟩
def enB (H : HS) : Nat → Int32
  | 0 => 0
  | i + 1 => if sLasts H (hO H) (i + 1) 0 = 99 then enB H i ||| i_shl 1 (nI (i + 1)) else enB H i
def bxB (H : HS) (L : Nat) (p : Int32) : Nat → Nat → Option Nat
  | 0, _ => none
  | c + 1, i => if nI (sLasts H (hO H) L i) < p then bxB H L p c (i + 1) else some i
theorem e99 : ∀ r, r < 100 → (nI r = 99 ↔ r = 99) := by decide +kernel
section Mk
variable {h h' g g' : xH} {w w' : Nat → Nat} {A : AS} {D : DS} {F : Nat → Nat → Prop} {P : Nat → Prop} {n : Nat}
theorem c_spare {L : Nat} (q : CI h D A) (ok : AOk A) (h1 : 1 ≤ L) (h4 : L ≤ 4) (eL : hL (zH A) = nI L) (hn : 200 ≤ n) : ∃ h', f_X6_spare_L6 n 16 n (-1) (-1) 0 h = some (spI (spB (zH A) L (hD (zH A))), h') ∧ CI h' D A ∧ FrC D h h' := by
  have h14 := ok.1.1
  have := lp0 (L := fun k (s : Int32 × Int32 × xH) i => f_X6_spare_L6 n 16 k s.1 s.2.1 (nI i) s.2.2) (I := fun i s => s.1 = spI (spB (zH A) L i) ∧ s.2.1 = spC (spB (zH A) L i) ∧ CI s.2.2 D A ∧ FrC D h s.2.2) (R := fun (s : Int32 × xH) => s.1 = spI (spB (zH A) L (hD (zH A))) ∧ CI s.2 D A ∧ FrC D h s.2) (D := hD (zH A)) (n := n) (s := (-1, -1, h)) (by omega) ⟨rfl, rfl, q, Fr.rfl⟩
    (fun k s hs => by
      obtain ⟨s1, s2, s3, s4⟩ := hs
      refine ⟨(s.1, s.2.2), ?_, s1, s3, s4⟩
      show f_X6_spare_L6 n 16 (k + 1) s.1 s.2.1 (nI (hD (zH A))) s.2.2 = _
      rw [f_X6_spare_L6, s3.g0, Option.bind_some, s3.H.D, Option.bind_some, if_pos (nI_le (Nat.le_refl _) (by omega))])
    (fun k s i hi hs => by
      right
      obtain ⟨s1, s2, s3, s4⟩ := hs
      have st : f_X6_spare_L6 n 16 (k + 1) s.1 s.2.1 (nI i) s.2.2 = if bI (bt (hO (zH A)) i) = 0 then f_X6_spare_L6 n 16 k s.1 s.2.1 (nI (i + 1)) s.2.2 else (f_X1_most n s.2.2 45 17 (nI L) (sClr (hO (zH A)) i) 0).bind fun q14 => if q14.1 ≤ s.2.1 then f_X6_spare_L6 n 16 k s.1 s.2.1 (nI (i + 1)) q14.2 else f_X6_spare_L6 n 16 k (nI i) q14.1 (nI (i + 1)) q14.2 := by
        rw [f_X6_spare_L6, s3.g0, Option.bind_some, s3.H.D, Option.bind_some, if_neg (nI_ge (b := hD (zH A)) hi (by omega)), Option.bind_some, s3.H.ob, Option.bind_some, h_isOpen s3.H (by omega), Option.bind_some]
        simp only [Option.bind_some, s3.g7, s3.H.Lw, s3.H.O, s3.o45, eL, nI_1]
        rfl
      by_cases co : bt (hO (zH A)) i = true
      · obtain ⟨h2, e2, c2, d2⟩ := c_most (n := n) (more := 0) (ob := sClr (hO (zH A)) i) s3 ok.1 h1 h4 (by decide) hn
        have b := sLasts_le (zH A) (sClr (hO (zH A)) i) L 0
        rw [co, i1, show f_X1_most n s.2.2 45 17 (nI L) (sClr (hO (zH A)) i) 0 = _ from e2, Option.bind_some] at st
        cases z : spB (zH A) L i with
        | none =>
          rw [z] at s1 s2
          refine ⟨(nI i, nI (sLasts (zH A) (sClr (hO (zH A)) i) L 0), h2), ?_, ?_, ?_, c2, s4.trans d2⟩
          · show f_X6_spare_L6 n 16 (k + 1) s.1 s.2.1 (nI i) s.2.2 = _
            rw [st, show s.2.1 = -1 from s2]
            exact if_neg (n99m (sLasts (zH A) (sClr (hO (zH A)) i) L 0) (by omega))
          · unfold spB; rw [if_pos co, z]; rfl
          · unfold spB; rw [if_pos co, z]; rfl
        | some x =>
          rw [z] at s1 s2
          have bx := spB_ok i x z
          by_cases cl : sLasts (zH A) (sClr (hO (zH A)) i) L 0 ≤ x.2
          · refine ⟨(s.1, s.2.1, h2), ?_, ?_, ?_, c2, s4.trans d2⟩
            · show f_X6_spare_L6 n 16 (k + 1) s.1 s.2.1 (nI i) s.2.2 = _
              rw [st, show s.2.1 = nI x.2 from s2]
              exact if_pos (nI_le cl (by omega))
            · unfold spB; rw [if_pos co, z]; dsimp only; rw [if_pos cl]; exact s1
            · unfold spB; rw [if_pos co, z]; dsimp only; rw [if_pos cl]; exact s2
          · refine ⟨(nI i, nI (sLasts (zH A) (sClr (hO (zH A)) i) L 0), h2), ?_, ?_, ?_, c2, s4.trans d2⟩
            · show f_X6_spare_L6 n 16 (k + 1) s.1 s.2.1 (nI i) s.2.2 = _
              rw [st, show s.2.1 = nI x.2 from s2]
              exact if_neg (nI_ge (show x.2 < sLasts (zH A) (sClr (hO (zH A)) i) L 0 by omega) (by omega))
            · unfold spB; rw [if_pos co, z]; dsimp only; rw [if_neg cl]; rfl
            · unfold spB; rw [if_pos co, z]; dsimp only; rw [if_neg cl]; rfl
      · rw [Bool.eq_false_iff.mpr co, i0] at st
        refine ⟨s, st, ?_, ?_, s3, s4⟩
        · unfold spB; rw [if_neg co]; exact s1
        · unfold spB; rw [if_neg co]; exact s2)
  obtain ⟨s, e, r1, r2, r3⟩ := this
  exact ⟨s.2, by rw [← r1]; exact e, r2, r3⟩
theorem m_spare {L : Nat} (ok : AOk A) (h1 : 1 ≤ L) (h4 : L ≤ 4) (eL : hL (zH A) = nI L) (hn : 200 ≤ n) : ∀ (c i k : Nat) (g : xH) (w : Nat → Nat), c + i = hD (zH A) → c < k → MIn g w A → (Nz g w ∨ ∃ a, w a = 4) → ∃ g' w' cc ss, f_X7_spare_L6 n 64 k (spI (spB (zH A) L i)) (spM (sLasts (zH A) (hO (zH A)) L 0) (spB (zH A) L i)) (nI i) g = some ((spI (spB (zH A) L (hD (zH A))), g'), cc, ss) ∧ MX g w g' w' A cc ss
  | 0, i, k, g, w, hc, hk, q, hz => by
    have h14 := ok.1.1
    obtain ⟨k, rfl⟩ : ∃ x, k = x + 1 := ⟨k - 1, by omega⟩
    refine ⟨g, w, 0, 0, ?_, MX.of q Fr.rfl⟩
    rw [f_X7_spare_L6, q.H.D, Option.bind_some, if_pos (nI_le (show hD (zH A) ≤ i by omega) (by omega)), show i = hD (zH A) by omega]
  | c + 1, i, k, g, w, hc, hk, q, hz => by
    have h14 := ok.1.1
    obtain ⟨k, rfl⟩ : ∃ x, k = x + 1 := ⟨k - 1, by omega⟩
    have T := sLasts_le (zH A) (hO (zH A)) L 0
    have b := sLasts_le (zH A) (sClr (hO (zH A)) i) L 0
    have st : ∀ v1 v2, f_X7_spare_L6 n 64 (k + 1) v1 v2 (nI i) g = if bI (bt (hO (zH A)) i) = 0 then f_X7_spare_L6 n 64 k v1 v2 (nI (i + 1)) g else (f_X7_worthOf n g 64 (nI i)).bind fun q6 => x_add q6.2.1 q6.2.2 (if v1 = -1 then f_X7_spare_L6 n 64 k (nI i) q6.1.1 (nI (i + 1)) q6.1.2 else if v2 ≤ q6.1.1 then f_X7_spare_L6 n 64 k v1 v2 (nI (i + 1)) q6.1.2 else f_X7_spare_L6 n 64 k (nI i) q6.1.1 (nI (i + 1)) q6.1.2) := fun v1 v2 => by
      rw [f_X7_spare_L6, q.H.D, Option.bind_some, if_neg (nI_ge (b := hD (zH A)) (show i < hD (zH A) by omega) (by omega)), q.H.O, Option.bind_some, m_has (by omega), Option.bind_some, q.ob]
      simp only [Option.bind_some, nI_1]
    by_cases co : bt (hO (zH A)) i = true
    · obtain ⟨g2, w2, c2, s2, e2, x2, y2⟩ := m_worthOf (n := n) q hz ok.1 h1 h4 eL (show i < hD (zH A) by omega) co hn
      obtain ⟨g3, w3, c3, s3, e3, x3⟩ := m_spare ok h1 h4 eL hn c (i + 1) k g2 w2 (by omega) (by omega) x2.1 (Or.inr y2)
      refine ⟨g3, w3, c2 + c3, s2 + s3, ?_, x2.trans x3⟩
      rw [st, co, i1, e2, Option.bind_some]
      dsimp only
      have fin : ∀ o, spB (zH A) L (i + 1) = o → f_X7_spare_L6 n 64 k (spI o) (spM (sLasts (zH A) (hO (zH A)) L 0) o) (nI (i + 1)) g2 = some ((spI (spB (zH A) L (hD (zH A))), g3), c3, s3) := fun o e => by rw [← e]; exact e3
      cases z : spB (zH A) L i with
      | none =>
        have := fin (some (i, sLasts (zH A) (sClr (hO (zH A)) i) L 0)) (by unfold spB; rw [if_pos co, z])
        rw [show spI none = -1 from rfl, if_pos rfl, show f_X7_spare_L6 n 64 k (nI i) (nI (sLasts (zH A) (hO (zH A)) L 0) - nI (sLasts (zH A) (sClr (hO (zH A)) i) L 0)) (nI (i + 1)) g2 = _ from this, xad]
      | some x =>
        have bx := spB_ok i x z
        rw [show spI (some x) = nI x.1 from rfl, if_neg (nI_nm1 (by omega)), show spM (sLasts (zH A) (hO (zH A)) L 0) (some x) = nI (sLasts (zH A) (hO (zH A)) L 0) - nI x.2 from rfl]
        by_cases cl : sLasts (zH A) (sClr (hO (zH A)) i) L 0 ≤ x.2
        · have := fin (some x) (by unfold spB; rw [if_pos co, z]; dsimp only; rw [if_pos cl])
          rw [if_pos ((sub_le9 T bx.2 b).mpr cl), show f_X7_spare_L6 n 64 k (nI x.1) (nI (sLasts (zH A) (hO (zH A)) L 0) - nI x.2) (nI (i + 1)) g2 = _ from this, xad]
        · have := fin (some (i, sLasts (zH A) (sClr (hO (zH A)) i) L 0)) (by unfold spB; rw [if_pos co, z]; dsimp only; rw [if_neg cl])
          rw [if_neg (fun y => cl ((sub_le9 T bx.2 b).mp y)), show f_X7_spare_L6 n 64 k (nI i) (nI (sLasts (zH A) (hO (zH A)) L 0) - nI (sLasts (zH A) (sClr (hO (zH A)) i) L 0)) (nI (i + 1)) g2 = _ from this, xad]
    · obtain ⟨g3, w3, c3, s3, e3, x3⟩ := m_spare ok h1 h4 eL hn c (i + 1) k g w (by omega) (by omega) q hz
      refine ⟨g3, w3, c3, s3, ?_, x3⟩
      rw [st, Bool.eq_false_iff.mpr co, i0]
      have : spB (zH A) L (i + 1) = spB (zH A) L i := by conv => lhs; unfold spB; rw [if_neg co]
      rw [← this]
      exact e3
/-- spare -/
theorem b_spare (q : CI h D A) (ok : AOk A) (hn : 200 ≤ n) : BMt h D A (f_X6_spare n h 16) (fun g => f_X7_spare n g 64) := by
  have h14 := ok.1.1
  obtain ⟨L, h1, h4, eL⟩ := ok.1.2.2.2.2.1
  obtain ⟨h2, e2, c2, d2⟩ := c_spare (n := n) q ok h1 h4 eL hn
  have mm : ∀ g w, Nz g w → MIn g w A → ∃ g' w' cc ss, f_X7_spare_L6 n 64 n (-1) 0 0 g = some ((spI (spB (zH A) L (hD (zH A))), g'), cc, ss) ∧ MX g w g' w' A cc ss := fun g w nz qg => m_spare (n := n) ok h1 h4 eL hn (hD (zH A)) 0 n g w (by omega) (by omega) qg (Or.inl nz)
  cases z : spB (zH A) L (hD (zH A)) with
  | none =>
    rw [z, show spI none = -1 from rfl] at e2
    obtain ⟨h3, e3, c3, f3⟩ := c_refuse c2 (i := 3) (p := -5) (by decide) (by decide)
    refine ⟨-5, ref1 A 3, ⟨h3, ?_, c3, Fr.trans d2 f3⟩, fun g w nz qg => ?_, ok.ref 3⟩
    · unfold f_X6_spare
      rw [e2, Option.bind_some, if_pos (show (-1 : Int32) = -1 from rfl)]
      exact e3
    · obtain ⟨g', w', cc, ss, e4, x4⟩ := mm g w nz qg
      rw [z, show spI none = -1 from rfl] at e4
      obtain ⟨g5, w5, c5, s5, e5, x5⟩ := mm_refuse x4.1 (i := 3) (p := -5) (by decide) (by decide)
      refine ⟨g5, w5, cc + c5, ss + s5, ?_, x4.trans x5⟩
      show f_X7_spare n g 64 = _
      unfold f_X7_spare
      rw [e4, Option.bind_some, if_pos (show (-1 : Int32) = -1 from rfl), show ((x_ob g' 64 7).bind fun u19 => (f_X7_refuse g' 64 (-5)).bind fun q20 => some ((q20.1, q20.2), 0, 0)) = _ from e5, xad]
  | some x =>
    rw [z, show spI (some x) = nI x.1 from rfl] at e2
    have bx := spB_ok _ x z
    have ne : ¬ nI x.1 = -1 := nI_nm1 (by omega)
    refine ⟨nI x.1, A, ⟨h2, ?_, c2, d2⟩, fun g w nz qg => ?_, ok⟩
    · unfold f_X6_spare
      rw [e2, Option.bind_some]
      exact if_neg ne
    · obtain ⟨g', w', cc, ss, e4, x4⟩ := mm g w nz qg
      rw [z, show spI (some x) = nI x.1 from rfl] at e4
      refine ⟨g', w', cc, ss, ?_, x4⟩
      show f_X7_spare n g 64 = _
      unfold f_X7_spare
      rw [e4, Option.bind_some]
      dsimp only
      rw [if_neg ne, xad, Nat.add_zero, Nat.add_zero]
theorem c_endl (ok : AOk A) (hn : 200 ≤ n) : ∀ (c i k : Nat) (h : xH), c + i = 4 → c < k → CI h D A → ∃ h', f_X6_endless_L4 n 16 k (enB (zH A) i) (nI (i + 1)) h = some (enB (zH A) 4, h') ∧ CI h' D A ∧ FrC D h h'
  | 0, i, k, h, hc, hk, q => by
    obtain ⟨k, rfl⟩ : ∃ x, k = x + 1 := ⟨k - 1, by omega⟩
    refine ⟨h, ?_, q, Fr.rfl⟩
    rw [f_X6_endless_L4, show i = 4 by omega, if_pos (by decide)]
  | c + 1, i, k, h, hc, hk, q => by
    obtain ⟨k, rfl⟩ : ∃ x, k = x + 1 := ⟨k - 1, by omega⟩
    obtain ⟨h2, e2, c2, d2⟩ := c_most (n := n) (L := i + 1) (more := 0) (ob := hO (zH A)) q ok.1 (by omega) (by omega) (by decide) hn
    obtain ⟨h3, e3, c3, d3⟩ := c_endl ok hn c (i + 1) k h2 (by omega) (by omega) c2
    refine ⟨h3, ?_, c3, d2.trans d3⟩
    have b := e99 _ (show sLasts (zH A) (hO (zH A)) (i + 1) 0 < 100 by have := sLasts_le (zH A) (hO (zH A)) (i + 1) 0; omega)
    rw [f_X6_endless_L4, if_neg (show ¬ (4 : Int32) < nI (i + 1) from nI_nlt (a := 4) (b := i + 1) (by omega) (by omega)), q.g7, Option.bind_some, q.g0, Option.bind_some, Option.bind_some, q.H.O, Option.bind_some, q.o45, Option.bind_some, show f_X1_most n h 45 17 (nI (i + 1)) (hO (zH A)) 0 = _ from e2, Option.bind_some]
    dsimp only
    by_cases z : sLasts (zH A) (hO (zH A)) (i + 1) 0 = 99
    · rw [if_pos (b.mpr z), Option.bind_some, Option.bind_some, nI_1]
      rw [show enB (zH A) (i + 1) = enB (zH A) i ||| i_shl 1 (nI (i + 1)) from if_pos z] at e3
      exact e3
    · rw [if_neg (fun y => z (b.mp y)), Option.bind_some, nI_1]
      rw [show enB (zH A) (i + 1) = enB (zH A) i from if_neg z] at e3
      exact e3
theorem m_endl (ok : AOk A) (hn : 200 ≤ n) : ∀ (c i k : Nat) (g : xH) (w : Nat → Nat), c + i = 4 → c < k → MIn g w A → (Nz g w ∨ ∃ a, w a = 4) → ∃ g' w' cc ss, f_X7_endless_L4 n 64 k (enB (zH A) i) (nI (i + 1)) g = some ((enB (zH A) 4, g'), cc, ss) ∧ MX g w g' w' A cc ss
  | 0, i, k, g, w, hc, hk, q, hz => by
    obtain ⟨k, rfl⟩ : ∃ x, k = x + 1 := ⟨k - 1, by omega⟩
    refine ⟨g, w, 0, 0, ?_, MX.of q Fr.rfl⟩
    rw [f_X7_endless_L4, show i = 4 by omega, if_pos (by decide)]
  | c + 1, i, k, g, w, hc, hk, q, hz => by
    obtain ⟨k, rfl⟩ : ∃ x, k = x + 1 := ⟨k - 1, by omega⟩
    obtain ⟨g2, w2, c2, s2, e2, x2, y2⟩ := m_lastsBy (n := n) (L := i + 1) (more := 0) q hz ok.1 (by omega) (by omega) (by decide) hn
    obtain ⟨g3, w3, c3, s3, e3, x3⟩ := m_endl ok hn c (i + 1) k g2 w2 (by omega) (by omega) x2.1 (Or.inr y2)
    refine ⟨g3, w3, c2 + c3, s2 + s3, ?_, x2.trans x3⟩
    have b := e99 _ (show sLasts (zH A) (hO (zH A)) (i + 1) 0 < 100 by have := sLasts_le (zH A) (hO (zH A)) (i + 1) 0; omega)
    rw [f_X7_endless_L4, if_neg (show ¬ (4 : Int32) < nI (i + 1) from nI_nlt (a := 4) (b := i + 1) (by omega) (by omega)), q.ob, Option.bind_some, show f_X7_lastsBy n g 64 (nI (i + 1)) 0 = _ from e2, Option.bind_some]
    dsimp only
    by_cases z : sLasts (zH A) (hO (zH A)) (i + 1) 0 = 99
    · rw [if_pos (b.mpr z), Option.bind_some, Option.bind_some, nI_1]
      rw [show enB (zH A) (i + 1) = enB (zH A) i ||| i_shl 1 (nI (i + 1)) from if_pos z] at e3
      rw [e3, xad]
    · rw [if_neg (fun y => z (b.mp y)), Option.bind_some, Option.bind_some, nI_1, Int32.or_zero]
      rw [show enB (zH A) (i + 1) = enB (zH A) i from if_neg z] at e3
      rw [e3, xad]
/-- endless -/
theorem b_endless (q : CI h D A) (ok : AOk A) (hn : 200 ≤ n) : BMt h D A (f_X6_endless n h 16) (fun g => f_X7_endless n g 64) := by
  obtain ⟨h2, e2, c2, d2⟩ := c_endl (n := n) ok hn 4 0 n h (by omega) (by omega) q
  refine ⟨enB (zH A) 4, A, ⟨h2, ?_, c2, d2⟩, fun g w nz qg => ?_, ok⟩
  · unfold f_X6_endless
    rw [show f_X6_endless_L4 n 16 n 0 1 h = _ from e2, Option.bind_some]
  · obtain ⟨g3, w3, c3, s3, e3, x3⟩ := m_endl (n := n) ok hn 4 0 n g w (by omega) (by omega) qg (Or.inl nz)
    refine ⟨g3, w3, c3, s3, ?_, x3⟩
    show f_X7_endless n g 64 = _
    unfold f_X7_endless
    rw [show f_X7_endless_L4 n 64 n 0 1 g = _ from e3, Option.bind_some, xad, Nat.add_zero, Nat.add_zero]
theorem c_bx {L : Nat} (p : Int32) (ok : AOk A) (h1 : 1 ≤ L) (h4 : L ≤ 4) (eL : hL (zH A) = nI L) (hn : 200 ≤ n) : ∀ (c i k : Nat) (h : xH), c + i = 21 → c < k → CI h D A → ∃ h', f_X6_boxes_L20 n 16 p k (nI i) h = some (match bxB (zH A) L p c i with
    | none => .inr h'
    | some y => .inl (nI y, h')) ∧ CI h' D A ∧ FrC D h h'
  | 0, i, k, h, hc, hk, q => by
    obtain ⟨k, rfl⟩ : ∃ x, k = x + 1 := ⟨k - 1, by omega⟩
    refine ⟨h, ?_, q, Fr.rfl⟩
    rw [f_X6_boxes_L20, show i = 21 by omega, if_pos (by decide)]
    rfl
  | c + 1, i, k, h, hc, hk, q => by
    obtain ⟨k, rfl⟩ : ∃ x, k = x + 1 := ⟨k - 1, by omega⟩
    obtain ⟨h2, e2, c2, d2⟩ := c_most (n := n) (L := L) (more := i) (ob := hO (zH A)) q ok.1 h1 h4 (by omega) hn
    have st : f_X6_boxes_L20 n 16 p (k + 1) (nI i) h = if nI (sLasts (zH A) (hO (zH A)) L i) < p then f_X6_boxes_L20 n 16 p k (nI (i + 1)) h2 else some (.inl (nI i, h2)) := by
      rw [f_X6_boxes_L20, if_neg (show ¬ (20 : Int32) < nI i from nI_nlt (a := 20) (b := i) (by omega) (by omega)), q.g7, Option.bind_some, q.g0, Option.bind_some, Option.bind_some, q.H.Lw, Option.bind_some, Option.bind_some, q.H.O, Option.bind_some, q.o45, Option.bind_some, eL, e2, Option.bind_some, Option.bind_some, nI_1]
    by_cases z : nI (sLasts (zH A) (hO (zH A)) L i) < p
    · obtain ⟨h3, e3, c3, d3⟩ := c_bx p ok h1 h4 eL hn c (i + 1) k h2 (by omega) (by omega) c2
      refine ⟨h3, ?_, c3, d2.trans d3⟩
      rw [st, if_pos z, e3, show bxB (zH A) L p (c + 1) i = bxB (zH A) L p c (i + 1) from if_pos z]
    · refine ⟨h2, ?_, c2, d2⟩
      rw [st, if_neg z, show bxB (zH A) L p (c + 1) i = some i from if_neg z]
theorem m_bx {L : Nat} (p : Int32) (ok : AOk A) (h1 : 1 ≤ L) (h4 : L ≤ 4) (eL : hL (zH A) = nI L) (hn : 200 ≤ n) : ∀ (c i k : Nat) (g : xH) (w : Nat → Nat), c + i = 21 → c < k → MIn g w A → (Nz g w ∨ ∃ a, w a = 4) → ∃ g' w' cc ss, f_X7_boxes_L21 n 64 p k (nI i) g = some ((match bxB (zH A) L p c i with
    | none => .inr g'
    | some y => .inl (nI y, g')), cc, ss) ∧ MX g w g' w' A cc ss
  | 0, i, k, g, w, hc, hk, q, hz => by
    obtain ⟨k, rfl⟩ : ∃ x, k = x + 1 := ⟨k - 1, by omega⟩
    refine ⟨g, w, 0, 0, ?_, MX.of q Fr.rfl⟩
    rw [f_X7_boxes_L21, show i = 21 by omega, if_pos (by decide)]
    rfl
  | c + 1, i, k, g, w, hc, hk, q, hz => by
    obtain ⟨k, rfl⟩ : ∃ x, k = x + 1 := ⟨k - 1, by omega⟩
    obtain ⟨g2, w2, c2, s2, e2, x2, y2⟩ := m_lastsBy (n := n) (L := L) (more := i) q hz ok.1 h1 h4 (by omega) hn
    have st : f_X7_boxes_L21 n 64 p (k + 1) (nI i) g = x_add c2 s2 (if nI (sLasts (zH A) (hO (zH A)) L i) < p then f_X7_boxes_L21 n 64 p k (nI (i + 1)) g2 else some (.inl (nI i, g2), 0, 0)) := by
      rw [f_X7_boxes_L21, if_neg (show ¬ (20 : Int32) < nI i from nI_nlt (a := 20) (b := i) (by omega) (by omega)), q.H.Lw, Option.bind_some, q.ob, Option.bind_some, eL, e2, Option.bind_some, Option.bind_some, nI_1]
    by_cases z : nI (sLasts (zH A) (hO (zH A)) L i) < p
    · obtain ⟨g3, w3, c3, s3, e3, x3⟩ := m_bx p ok h1 h4 eL hn c (i + 1) k g2 w2 (by omega) (by omega) x2.1 (Or.inr y2)
      refine ⟨g3, w3, c2 + c3, s2 + s3, ?_, x2.trans x3⟩
      rw [st, if_pos z, e3, xad, show bxB (zH A) L p (c + 1) i = bxB (zH A) L p c (i + 1) from if_pos z]
    · refine ⟨g2, w2, c2, s2, ?_, x2⟩
      rw [st, if_neg z, xad, show bxB (zH A) L p (c + 1) i = some i from if_neg z, Nat.add_zero, Nat.add_zero]
/-- boxes -/
theorem b_boxes (q : CI h D A) (ok : AOk A) (p : Int32) (hn : 200 ≤ n) : BMt h D A (f_X6_boxes n h 16 p) (fun g => f_X7_boxes n g 64 p) := by
  have inn : ∀ g : xH, f_X7_in g p.toInt64 1 98 = some (bI (decide (1 ≤ p.toInt) && decide (p.toInt ≤ 98))) := fun g => m_in (a := 1) (c := 98) (by decide) (by decide) p
  by_cases c1 : p < 1
  · have i1' : p.toInt < 1 := (ltN (k := 1) (by decide) p).mp c1
    refine bm_ref2 q ok ?_ (fun g w qg => ?_)
    · unfold f_X6_boxes; rw [if_pos c1]; rfl
    · show f_X7_boxes n g 64 p = _
      unfold f_X7_boxes
      rw [inn, Option.bind_some, decide_eq_false (show ¬ 1 ≤ p.toInt by omega), Bool.false_and, i0]
      rfl
  · have j1 : ¬ p.toInt < ((1 : Nat) : Int) := fun y => c1 ((ltN (k := 1) (by decide) p).mpr y)
    by_cases c2 : p < 99
    · have i2 := (ltN (k := 99) (by decide) p).mp c2
      obtain ⟨L, h1, h4, eL⟩ := ok.1.2.2.2.2.1
      obtain ⟨h2, e2, d1, d2⟩ := c_bx (n := n) p ok h1 h4 eL hn 21 0 n h (by omega) (by omega) q
      have hin : (decide (1 ≤ p.toInt) && decide (p.toInt ≤ 98)) = true := by rw [decide_eq_true (show 1 ≤ p.toInt by omega), decide_eq_true (show p.toInt ≤ 98 by omega)]; rfl
      cases z : bxB (zH A) L p 21 0 with
      | none =>
        rw [z] at e2
        refine ⟨-1, A, ⟨h2, ?_, d1, d2⟩, fun g w nz qg => ?_, ok⟩
        · unfold f_X6_boxes
          rw [if_neg c1, if_pos c2, show f_X6_boxes_L20 n 16 p n 0 h = _ from e2, Option.bind_some]
        · obtain ⟨g3, w3, c3, s3, e3, x3⟩ := m_bx (n := n) p ok h1 h4 eL hn 21 0 n g w (by omega) (by omega) qg (Or.inl nz)
          rw [z] at e3
          refine ⟨g3, w3, c3, s3, ?_, x3⟩
          show f_X7_boxes n g 64 p = _
          unfold f_X7_boxes
          rw [inn, Option.bind_some, hin, i1, show f_X7_boxes_L21 n 64 p n 0 g = _ from e3, Option.bind_some]
          rfl
      | some y =>
        rw [z] at e2
        refine ⟨nI y, A, ⟨h2, ?_, d1, d2⟩, fun g w nz qg => ?_, ok⟩
        · unfold f_X6_boxes
          rw [if_neg c1, if_pos c2, show f_X6_boxes_L20 n 16 p n 0 h = _ from e2, Option.bind_some]
        · obtain ⟨g3, w3, c3, s3, e3, x3⟩ := m_bx (n := n) p ok h1 h4 eL hn 21 0 n g w (by omega) (by omega) qg (Or.inl nz)
          rw [z] at e3
          refine ⟨g3, w3, c3, s3, ?_, x3⟩
          show f_X7_boxes n g 64 p = _
          unfold f_X7_boxes
          rw [inn, Option.bind_some, hin, i1, show f_X7_boxes_L21 n 64 p n 0 g = _ from e3, Option.bind_some]
          rfl
    · have j2 : ¬ p.toInt < ((99 : Nat) : Int) := fun y => c2 ((ltN (k := 99) (by decide) p).mpr y)
      refine bm_ref2 q ok ?_ (fun g w qg => ?_)
      · unfold f_X6_boxes; rw [if_neg c1, if_neg c2]; rfl
      · show f_X7_boxes n g 64 p = _
        unfold f_X7_boxes
        rw [inn, Option.bind_some, decide_eq_false (show ¬ p.toInt ≤ 98 by omega), Bool.and_false, i0]
        rfl
end Mk
