/-! show, row, element. -/
section Bop
variable {h h' : xH} {D : DS} {w : Nat → Nat} {A : AS} {X : Option (Int32 × xH)} {Y : xH → Option (Int32 × xH)} {n : Nat}
theorem uL_s {f : Nat → Int64} {k : Nat} {x : Int64} : vp_updL f k x k = x := if_pos rfl
theorem uL_n {f : Nat → Int64} {k j : Nat} {x : Int64} (h : j ≠ k) : vp_updL f k x j = f j := if_neg h
/-- the fields of a shelf of the class -/
theorem c_put2 {j : Nat} {s : SH} (q : CS1 h j s) (a b : Int32) : ∃ h1 h2 f, x_put h (48 + 2 * j) 4 0 (.int a) = some h1 ∧ x_put h1 (48 + 2 * j) 4 1 (.int b) = some h2 ∧ x_get h2 (48 + 2 * j) 4 0 = some (.int a) ∧ x_get h2 (48 + 2 * j) 4 1 = some (.int b) ∧ x_get h2 (48 + 2 * j) 4 2 = some (.ref (49 + 2 * j)) ∧ AtL h2 (49 + 2 * j) 40 f ∧ Fr (fun x _ => x = 48 + 2 * j) (fun _ => False) h h2 := by
  obtain ⟨q1, q2, q3, f, q4, q5⟩ := q
  obtain ⟨h1, e1, g1, f1⟩ := w_put q1 (.int a)
  have q2' := f1.1 _ _ _ _ (fun z => by omega) q2
  obtain ⟨h2, e2, g2, f2⟩ := w_put q2' (.int b)
  exact ⟨h1, h2, f, e1, e2, f2.1 _ _ _ _ (fun z => by omega) g1, g2, f2.1 _ _ _ _ (fun z => by omega) (f1.1 _ _ _ _ (fun z => by omega) q3), f2.2 _ _ id (f1.2 _ _ id q4), Fr.trans (Fr.mono f1 (fun _ _ z => z.1) (fun _ z => z)) (Fr.mono f2 (fun _ _ z => z.1) (fun _ z => z))⟩
theorem c_zero {a b : Nat} {f : Nat → Int64} (g : x_get h a 4 2 = some (.ref b)) (q : AtL h b 40 f) (hn : 50 ≤ n) : ∃ h', f_X4_takeRow_L12 a n 0 h = some h' ∧ (∃ f', AtL h' b 40 f' ∧ ∀ i, i < 40 → f' i = 0) ∧ Fr (fun _ _ => False) (fun y => y = b) h h' := by
  obtain ⟨x, e, r⟩ := lp0 (L := fun k (s : xH) i => f_X4_takeRow_L12 a k (nI i) s) (I := fun i s => (∃ f', AtL s b 40 f' ∧ ∀ i', i' < i → f' i' = 0) ∧ Fr (fun _ _ => False) (fun y => y = b) h s) (R := fun s => (∃ f', AtL s b 40 f' ∧ ∀ i, i < 40 → f' i = 0) ∧ Fr (fun _ _ => False) (fun y => y = b) h s) (D := 40) (n := n) (s := h) (by omega) ⟨⟨f, q, fun i hi => absurd hi (Nat.not_lt_zero _)⟩, Fr.rfl⟩
    (fun k s hs => ⟨s, by
      show f_X4_takeRow_L12 a (k + 1) (nI 40) s = _
      rw [f_X4_takeRow_L12, if_pos (show (40 : Int32) ≤ nI 40 by decide)], hs⟩)
    (fun k s i hi hs => by
      obtain ⟨⟨f', q', z⟩, fr⟩ := hs
      obtain ⟨h1, e1, g1, f1⟩ := w_stL q' (j := i) hi (by decide) 0
      refine Or.inr ⟨h1, ?_, ⟨_, g1, fun i' hi' => ?_⟩, Fr.trans fr f1⟩
      · show f_X4_takeRow_L12 a (k + 1) (nI i) s = f_X4_takeRow_L12 a k (nI (i + 1)) h1
        rw [f_X4_takeRow_L12, if_neg (show ¬ (40 : Int32) ≤ nI i from nI_ge (b := 40) hi (by decide)), g_R (fr.1 _ _ _ _ id g), Option.bind_some, e1, Option.bind_some, Option.bind_some, nI_1]
      · by_cases e : i' = i
        · rw [e, uL_s]
        · rw [uL_n e]; exact z i' (by omega))
  exact ⟨x, e, r⟩
theorem m_zero {j : Nat} {f : Nat → Int64} {fo : Nat → Option Nat} (g : x_get h 64 7 3 = some (.ref 68)) (hj : j < 8) (qo : AtQ h 68 8 (.array .long) fo) (ho : fo j = some (69 + j)) (q : AtL h (69 + j) 40 f) (hn : 50 ≤ n) : ∃ h', f_X7_row_L67 64 (nI j) n 0 h = some h' ∧ (∃ f', AtL h' (69 + j) 40 f' ∧ ∀ i, i < 40 → f' i = 0) ∧ Fr (fun _ _ => False) (fun y => y = 69 + j) h h' := by
  obtain ⟨x, e, r⟩ := lp0 (L := fun k (s : xH) i => f_X7_row_L67 64 (nI j) k (nI i) s) (I := fun i s => (∃ f', AtL s (69 + j) 40 f' ∧ ∀ i', i' < i → f' i' = 0) ∧ Fr (fun _ _ => False) (fun y => y = 69 + j) h s) (R := fun s => (∃ f', AtL s (69 + j) 40 f' ∧ ∀ i, i < 40 → f' i = 0) ∧ Fr (fun _ _ => False) (fun y => y = 69 + j) h s) (D := 40) (n := n) (s := h) (by omega) ⟨⟨f, q, fun i hi => absurd hi (Nat.not_lt_zero _)⟩, Fr.rfl⟩
    (fun k s hs => ⟨s, by
      show f_X7_row_L67 64 (nI j) (k + 1) (nI 40) s = _
      rw [f_X7_row_L67, if_pos (show (40 : Int32) ≤ nI 40 by decide)], hs⟩)
    (fun k s i hi hs => by
      obtain ⟨⟨f', q', z⟩, fr⟩ := hs
      obtain ⟨h1, e1, g1, f1⟩ := w_stL q' (j := i) hi (by decide) 0
      refine Or.inr ⟨h1, ?_, ⟨_, g1, fun i' hi' => ?_⟩, Fr.trans fr f1⟩
      · show f_X7_row_L67 64 (nI j) (k + 1) (nI i) s = f_X7_row_L67 64 (nI j) k (nI (i + 1)) h1
        rw [f_X7_row_L67, if_neg (show ¬ (40 : Int32) ≤ nI i from nI_ge (b := 40) hi (by decide)), g_R (fr.1 _ _ _ _ id g), Option.bind_some, AtQ.ld (fr.2 _ _ (fun z => by omega) qo) rfl hj (by decide) ho, Option.bind_some, e1, Option.bind_some, Option.bind_some, nI_1]
      · by_cases e : i' = i
        · rw [e, uL_s]
        · rw [uL_n e]; exact z i' (by omega))
  exact ⟨x, e, r⟩
theorem setS_ok (ok : AOk A) {j : Nat} {s : SH} (hs : SHk s) (hd : ∀ d, d < 14 → s.1 = nI (10 + d) → d < hD (zH A)) : AOk (setS A j s) := ⟨ok.1, ok.2.1, fun i hi => by
  show SHk (if i = j then s else zS A i)
  by_cases e : i = j
  · rw [if_pos e]; exact hs
  · rw [if_neg e]; exact ok.2.2.1 i hi, ok.2.2.2.1, fun i hi d h14 z => by
  have z' : (if i = j then s else zS A i).1 = nI (10 + d) := z
  by_cases e : i = j
  · rw [if_pos e] at z'; exact hd d h14 z'
  · rw [if_neg e] at z'; exact ok.2.2.2.2 i hi d h14 z'⟩
theorem sh_m1 : ¬ ∃ k, k < 5 ∧ (-1 : Int32) = nI k := by
  rintro ⟨k, hk, e⟩
  exact nI_nm1 (by omega) e.symm
theorem sh_d {d : Nat} (hd : d < 14) : ¬ ∃ k, k < 5 ∧ nI (10 + d) = nI k := by
  rintro ⟨k, hk, e⟩
  have := (nI_eqc (by omega) (by omega)).mp e
  omega
/-- show -/
theorem b_showJ (q : CI h D A) (ok : AOk A) {j : Nat} (hj : j < 8) {p2 : Int32} (hp' : p2 = -1 ∨ ∃ d, d < hD (zH A) ∧ p2 = nI d) : BSt h D w A (f_X6_show_J30 h 16 (nI j) p2) (fun g => f_X7_show_J32 g 64 (nI j) p2) := by
  have h14 := ok.H.1
  have hp : p2 = -1 ∨ ∃ d, d < 14 ∧ p2 = nI d := hp'.imp id (fun ⟨d, z1, z2⟩ => ⟨d, by omega, z2⟩)
  obtain ⟨a, ha⟩ : ∃ a : Int32, a = if p2 = -1 then -1 else 10 + p2 := ⟨_, rfl⟩
  have hk : SHk (a, 0, (zS A j).2.2) := by
    rcases hp with e | ⟨d, hd, e⟩
    · rw [if_pos e] at ha
      exact Or.inl ⟨ha, rfl⟩
    · rw [if_neg (by rw [e]; exact nI_nm1 (by omega)), e] at ha
      exact Or.inr (Or.inr ⟨d, hd, ha.trans (nI_add 10 d), rfl⟩)
  have hnr : ¬ ∃ k, k < 5 ∧ a = nI k := by
    rcases hp with e | ⟨d, hd, e⟩
    · rw [if_pos e] at ha
      rw [ha]; exact sh_m1
    · rw [if_neg (by rw [e]; exact nI_nm1 (by omega)), e, show (10 : Int32) + nI d = nI (10 + d) from nI_add 10 d] at ha
      rw [ha]; exact sh_d hd
  have hdd : ∀ d, d < 14 → a = nI (10 + d) → d < hD (zH A) := by
    intro d hd z
    rcases hp' with e | ⟨d', hd', e⟩
    · rw [if_pos e] at ha
      exact absurd (z.symm.trans ha) (nI_nm1 (by omega))
    · rw [if_neg (by rw [e]; exact nI_nm1 (by omega)), e, show (10 : Int32) + nI d' = nI (10 + d') from nI_add 10 d'] at ha
      have := (nI_eqc (by omega) (by omega)).mp (z.symm.trans ha)
      omega
  obtain ⟨h1, h2, f, e1, e2, g0, g1, g2, g3, fr⟩ := c_put2 (q.s1 hj) a 0
  obtain ⟨c1, c2⟩ := q.shelf (s := (a, 0, (zS A j).2.2)) hj ⟨g0, g1, g2, f, g3, fun z => absurd z hnr⟩ (Fr.mono fr (fun _ _ z => z) (fun _ z => z.elim))
  refine ⟨1, setS A j (a, 0, (zS A j).2.2), ⟨h2, ?_, c1, c2⟩, fun g qg => ?_, setS_ok ok hk hdd⟩
  · by_cases e : p2 = -1
    · rw [if_pos e] at ha
      rw [ha] at e1
      simp only [f_X6_show_J30, eq_true e, if_true, q.g4, Option.bind_some, q.ldS hj, (q.s1 hj).ob, f_X4_clear, e1, e2]
    · rw [if_neg e] at ha
      rw [ha] at e1
      simp only [f_X6_show_J30, eq_false e, if_false, q.g4, Option.bind_some, q.ldS hj, (q.s1 hj).ob, f_X4_takeDoor, e1, e2]
  · obtain ⟨f0, f1, f2, f5, gg, ⟨a0, a1, a2, a5, ao, al, gv⟩, s⟩ := qg.2.2.1
    have r0 : x_gR g 64 7 0 = some 65 := qg.g (k := 0) (by omega)
    obtain ⟨k1, e3, b0, u1⟩ := w_st a0 hj (by decide) (if p2 = -1 then 0 else 2)
    have a5' := u1.2 _ _ (fun z => by omega) a5
    obtain ⟨k2, e4, b5, u2⟩ := w_st a5' hj (by decide) p2
    have u : Fr (fun _ _ => False) (fun y => y = 65 ∨ y = 78) g k2 := Fr.trans (Fr.mono u1 (fun _ _ z => z) (fun _ z => Or.inl z)) (Fr.mono u2 (fun _ _ z => z) (fun _ z => Or.inr z))
    have r5 : x_gR k1 64 7 5 = some 78 := g_R (u1.1 _ _ _ _ id (qg.1 5 (by omega)))
    obtain ⟨fo, ao1, ao2⟩ := ao
    obtain ⟨gv, gv1⟩ := gv
    obtain ⟨d1, d2⟩ := qg.shelf (j := j) (s := (a, 0, (zS A j).2.2)) (h' := k2) ⟨upd f0 j (if p2 = -1 then 0 else 2), f1, f2, upd f5 j p2, gg, ⟨u2.2 _ _ (fun z => by omega) b0, u.2 _ _ (fun z => by omega) a1, u.2 _ _ (fun z => by omega) a2, b5, ⟨fo, u.2 _ _ (fun z => by omega) ao1, ao2⟩, fun i hi => u.2 _ _ (fun z => by omega) (al i hi), gv, u.2 _ _ (fun z => by omega) gv1⟩, fun i hi => by
      dsimp only
      by_cases e : i = j
      · rw [if_pos e, e]
        refine ⟨fun z => ?_, fun k hk z => absurd ⟨k, hk, z⟩ hnr, fun d hd z => ?_⟩
        · rw [pk_us]
          rcases hp with e | ⟨d, hd, e⟩
          · rw [if_pos e]
          · rw [if_neg (by rw [e]; exact nI_nm1 (by omega)), e, show (10 : Int32) + nI d = nI (10 + d) from nI_add 10 d] at ha
            exact absurd ((show a = -1 from z).symm.trans ha).symm (nI_nm1 (by omega))
        · rw [pk_us, pk_us]
          rcases hp with e | ⟨d', hd', e⟩
          · rw [if_pos e] at ha
            exact absurd ((show a = nI (10 + d) from z).symm.trans ha) (nI_nm1 (by omega))
          · have ne : ¬ p2 = -1 := by rw [e]; exact nI_nm1 (by omega)
            rw [if_neg ne, e, show (10 : Int32) + nI d' = nI (10 + d') from nI_add 10 d'] at ha
            have := (nI_eqc (by omega) (by omega)).mp ((show a = nI (10 + d) from z).symm.trans ha)
            exact ⟨by rw [if_neg ne], by rw [e, show d' = d by omega]⟩
      · rw [if_neg e]
        obtain ⟨s0, s1, s2⟩ := s i hi
        exact ⟨fun z => by rw [pk_un e]; exact s0 z, fun k hk z => by rw [pk_un e]; exact s1 k hk z, fun d hd z => by rw [pk_un e, pk_un e]; exact s2 d hd z⟩⟩ (Fr.mono u (fun _ _ z => z) (fun _ z => by omega))
    refine ⟨k2, ?_, d1, d2⟩
    have e5 : (if p2 = -1 then some (0 : Int32) else some 2) = some (if p2 = -1 then 0 else 2) := by split <;> rfl
    simp only [f_X7_show_J32, r0, Option.bind_some, e5, e3, r5, e4]
theorem b_show (q : CI h D A) (ok : AOk A) (p1 p2 : Int32) : BSt h D w A (f_X6_show h 16 p1 p2) (fun g => f_X7_show g 64 p1 p2) := by
  have h14 := ok.H.1
  by_cases c : sIs 8 p1 = true
  · obtain ⟨j, hj, rfl⟩ := (sIs_iff (by decide) p1).mp c
    by_cases e : p2 = -1
    · obtain ⟨r, A', x, y, z⟩ := b_showJ (w := w) q ok hj (Or.inl e)
      refine ⟨r, A', ?_, fun g qg => ?_, z⟩
      · rw [show f_X6_show h 16 (nI j) p2 = f_X6_show_J30 h 16 (nI j) p2 by simp only [f_X6_show, c_is8, c, i1, Option.bind_some, eq_true e, if_true]]
        exact x
      · have := y g qg
        dsimp only
        rw [show f_X7_show g 64 (nI j) p2 = f_X7_show_J32 g 64 (nI j) p2 by simp only [f_X7_show, m_is8, c, i1, Option.bind_some, eq_true e, if_true]]
        exact this
    · refine b_door' q ok (p1 := p2) (fun c2 => ⟨?_, fun g qg => ?_⟩) (fun d hd e2 c2 => ?_)
      · simp only [f_X6_show, refC, c_is8, c, i1, i0, Option.bind_some, eq_false e, if_false, q.g0, q.H.ob, h_hasDoor q.H, c2]
      · simp only [f_X7_show, refM7, m_is8, c, i1, i0, Option.bind_some, eq_false e, if_false, qg.ob, m_isDoor qg.H ok.H, c2]
      · obtain ⟨r, A', x, y, z⟩ := b_showJ (w := w) q ok hj (p2 := p2) (Or.inr ⟨d, hd, e2⟩)
        refine ⟨r, A', ?_, fun g qg => ?_, z⟩
        · rw [show f_X6_show h 16 (nI j) p2 = f_X6_show_J30 h 16 (nI j) p2 by simp only [f_X6_show, c_is8, c, i1, Option.bind_some, eq_false e, if_false, q.g0, q.H.ob, h_hasDoor q.H, c2]]
          exact x
        · have := y g qg
          dsimp only
          rw [show f_X7_show g 64 (nI j) p2 = f_X7_show_J32 g 64 (nI j) p2 by simp only [f_X7_show, m_is8, c, i1, Option.bind_some, eq_false e, if_false, qg.ob, m_isDoor qg.H ok.H, c2]]
          exact this
  · refine b_ref2 q ok ?_ (fun g qg => ?_)
    · simp only [f_X6_show, refC, c_is8, sIs_no c, i0, Option.bind_some]
    · simp only [f_X7_show, refM7, m_is8, sIs_no c, i0, Option.bind_some]
end Bop
