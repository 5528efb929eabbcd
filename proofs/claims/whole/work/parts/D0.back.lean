/-! image and back. -/
def bSh (d : Nat) (s : SH) : SH := if s.1 < 10 ∨ sIs d (s.1 - 10) = true then s else (-1, 0, s.2.2)
def bSt (A : AS) (i : Nat) : AS := (zH A, zK A, (fun j => if j < i then bSh (hD (zH A)) (zS A j) else zS A j), zR A, zT A)
theorem d_sub : ∀ d, d < 14 → nI (10 + d) - 10 = nI d := by decide +kernel
theorem d_n10 : ∀ d, d < 14 → ¬ nI (10 + d) < 10 := by decide +kernel
theorem k_10 : ∀ k, k < 5 → nI k < 10 := by decide +kernel
section Mk
variable {h h' g g' : xH} {w w' : Nat → Nat} {A : AS} {D : DS} {F : Nat → Nat → Prop} {P : Nat → Prop} {n : Nat}
theorem bSt_0 : bSt A 0 = A := by
  unfold bSt
  rw [show (fun j => if j < 0 then bSh (hD (zH A)) (zS A j) else zS A j) = zS A from funext fun j => if_neg (Nat.not_lt_zero _)]
  rfl
theorem bSt_S (i : Nat) : bSt A (i + 1) = setS (bSt A i) i (bSh (hD (zH A)) (zS A i)) := by
  unfold bSt setS
  show (zH A, zK A, (fun j => if j < i + 1 then bSh (hD (zH A)) (zS A j) else zS A j), zR A, zT A) = (zH A, zK A, (fun j => if j = i then bSh (hD (zH A)) (zS A i) else if j < i then bSh (hD (zH A)) (zS A j) else zS A j), zR A, zT A)
  rw [show (fun j => if j < i + 1 then bSh (hD (zH A)) (zS A j) else zS A j) = (fun j => if j = i then bSh (hD (zH A)) (zS A i) else if j < i then bSh (hD (zH A)) (zS A j) else zS A j) from funext fun j => by
    by_cases e : j = i
    · rw [if_pos e, e, if_pos (Nat.lt_succ_self _)]
    · rw [if_neg e]
      by_cases e2 : j < i
      · rw [if_pos e2, if_pos (by omega)]
      · rw [if_neg e2, if_neg (by omega)]]
theorem bSt_K {i : Nat} (e : bSh (hD (zH A)) (zS A i) = zS A i) : bSt A (i + 1) = bSt A i := by
  unfold bSt
  rw [show (fun j => if j < i + 1 then bSh (hD (zH A)) (zS A j) else zS A j) = (fun j => if j < i then bSh (hD (zH A)) (zS A j) else zS A j) from funext fun j => by
    by_cases e2 : j < i
    · rw [if_pos e2, if_pos (by omega)]
    · rw [if_neg e2]
      by_cases e3 : j = i
      · rw [if_pos (by omega), e3, e]
      · rw [if_neg (by omega)]]
theorem bSt_i (i : Nat) : zS (bSt A i) i = zS A i := if_neg (Nat.lt_irrefl _)
theorem c_back (q : CI h D A) (hS : ∀ j, j < 8 → SHk (zS A j)) (hn : 20 ≤ n) : ∃ h', f_X6_back_L27 16 n 0 h = some h' ∧ CI h' D (bSt A 8) ∧ FrC D h h' := by
  have := lp0 (L := fun k (s : xH) i => f_X6_back_L27 16 k (nI i) s) (I := fun i s => CI s D (bSt A i) ∧ FrC D h s) (R := fun s => CI s D (bSt A 8) ∧ FrC D h s) (D := 8) (n := n) (s := h) (by omega) ⟨by rw [bSt_0]; exact q, Fr.rfl⟩
    (fun k s hs => by
      refine ⟨s, ?_, hs⟩
      show f_X6_back_L27 16 (k + 1) (nI 8) s = _
      rw [f_X6_back_L27, if_pos (show (8 : Int32) ≤ nI 8 by decide)])
    (fun k s i hi hs => by
      right
      obtain ⟨s1, s2⟩ := hs
      have lt : ¬ (8 : Int32) ≤ nI i := nI_ge (b := 8) hi (by decide)
      have c := s1.s1 hi
      have g0 := c.g0
      rw [bSt_i] at c g0
      rcases hS i hi with ⟨a1, a2⟩ | ⟨k5, z, a1, a2, a3, a4⟩ | ⟨d, a1, a2, a3⟩
      · rw [a1] at g0
        refine ⟨s, ?_, ?_, s2⟩
        · simp only [f_X6_back_L27, if_neg lt, s1.g4, s1.ldS hi, c.ob, f_X4_holdsDoor, g0, Option.bind_some, if_pos (show (-1 : Int32) < 10 by decide), if_true, nI_1]
        · rw [bSt_K]; exact s1
          unfold bSh; rw [if_pos (Or.inl (by rw [a1]; decide))]
      · rw [a3] at g0
        refine ⟨s, ?_, ?_, s2⟩
        · simp only [f_X6_back_L27, if_neg lt, s1.g4, s1.ldS hi, c.ob, f_X4_holdsDoor, g0, Option.bind_some, if_pos (k_10 k5 a1), if_true, nI_1]
        · rw [bSt_K]; exact s1
          unfold bSh; rw [if_pos (Or.inl (by rw [a3]; exact k_10 k5 a1))]
      · rw [a2] at g0
        by_cases cd : sIs (hD (zH A)) (nI d) = true
        · refine ⟨s, ?_, ?_, s2⟩
          · simp only [f_X6_back_L27, if_neg lt, s1.g4, s1.g0, s1.ldS hi, c.ob, f_X4_holdsDoor, f_X4_heldDoor, g0, Option.bind_some, if_neg (d_n10 d a1), eq_false (show ¬ (1 : Int32) = 0 by decide), if_false, d_sub d a1, s1.H.ob, h_hasDoor s1.H]
            rw [show hD (zH (bSt A i)) = hD (zH A) from rfl, cd, i1, nI_1]
          · rw [bSt_K]; exact s1
            unfold bSh; rw [if_pos (Or.inr (by rw [a2, d_sub d a1]; exact cd))]
        · obtain ⟨h1, h2, f, e1, e2, p0, p1, p2, p3, fr⟩ := c_put2 c (-1) 0
          obtain ⟨c1, c2⟩ := s1.shelf (s := (-1, 0, (zS A i).2.2)) hi ⟨p0, p1, p2, f, p3, fun z => absurd z sh_m1⟩ (Fr.mono fr (fun _ _ z => z) (fun _ z => z.elim))
          refine ⟨h2, ?_, ?_, s2.trans c2⟩
          · simp only [f_X6_back_L27, if_neg lt, s1.g4, s1.g0, s1.ldS hi, c.ob, f_X4_holdsDoor, f_X4_heldDoor, g0, Option.bind_some, if_neg (d_n10 d a1), eq_false (show ¬ (1 : Int32) = 0 by decide), if_false, d_sub d a1, s1.H.ob, h_hasDoor s1.H]
            rw [show hD (zH (bSt A i)) = hD (zH A) from rfl, sIs_no cd, i0]
            simp only [f_X4_clear, e1, e2, Option.bind_some, nI_1]
          · rw [bSt_S]
            rw [show bSh (hD (zH A)) (zS A i) = (-1, 0, (zS A i).2.2) from if_neg (by rintro (z | z)
                                                                                      · rw [a2] at z; exact d_n10 d a1 z
                                                                                      · rw [a2, d_sub d a1] at z; exact cd z)]
            exact c1)
  obtain ⟨s, e, r⟩ := this
  exact ⟨s, e, r⟩
theorem m_back (q : MIn g w A) (hS : ∀ j, j < 8 → SHk (zS A j)) (h14 : hD (zH A) ≤ 14) (hn : 20 ≤ n) : ∃ g', f_X7_back_L24 64 n 0 g = some g' ∧ MIn g' w (bSt A 8) ∧ FrR w g g' := by
  have := lp0 (L := fun k (s : xH) i => f_X7_back_L24 64 k (nI i) s) (I := fun i s => MIn s w (bSt A i) ∧ FrR w g s) (R := fun s => MIn s w (bSt A 8) ∧ FrR w g s) (D := 8) (n := n) (s := g) (by omega) ⟨by rw [bSt_0]; exact q, Fr.rfl⟩
    (fun k s hs => by
      refine ⟨s, ?_, hs⟩
      show f_X7_back_L24 64 (k + 1) (nI 8) s = _
      rw [f_X7_back_L24, if_pos (show (8 : Int32) ≤ nI 8 by decide)])
    (fun k s i hi hs => by
      right
      obtain ⟨s1, s2⟩ := hs
      have lt : ¬ (8 : Int32) ≤ nI i := nI_ge (b := 8) hi (by decide)
      obtain ⟨f0, f1, f2, f5, gg, ⟨a0, b1, b2, a5, ⟨fo, ao1, ao2⟩, al, gv, gv1⟩, sh⟩ := s1.2.2.1
      have r0 : x_gR s 64 7 0 = some 65 := s1.g (k := 0) (by omega)
      have r5 : x_gR s 64 7 5 = some 78 := s1.g (k := 5) (by omega)
      have hi0 := sh i hi
      rw [bSt_i] at hi0
      obtain ⟨t0, t1, t2⟩ := hi0
      have l0 := At.ld a0 hi (by decide)
      have l5 := At.ld a5 hi (by decide)
      rcases hS i hi with ⟨a1, a2⟩ | ⟨k5, z, a1, a2, a3, a4⟩ | ⟨d, a1, a2, a3⟩
      · rw [t0 a1] at l0
        refine ⟨s, ?_, ?_, s2⟩
        · simp only [f_X7_back_L24, if_neg lt, r0, l0, Option.bind_some, eq_false (show ¬ (0 : Int32) = 2 by decide), if_false, nI_1]
        · rw [bSt_K]; exact s1
          unfold bSh; rw [if_pos (Or.inl (by rw [a1]; decide))]
      · rw [(t1 k5 a1 a3).1] at l0
        refine ⟨s, ?_, ?_, s2⟩
        · simp only [f_X7_back_L24, if_neg lt, r0, l0, Option.bind_some, eq_false (show ¬ (1 : Int32) = 2 by decide), if_false, nI_1]
        · rw [bSt_K]; exact s1
          unfold bSh; rw [if_pos (Or.inl (by rw [a3]; exact k_10 k5 a1))]
      · rw [(t2 d a1 a2).1] at l0
        rw [(t2 d a1 a2).2] at l5
        have hDi : x_gI s 64 7 9 = some (nI (hD (zH A))) := s1.H.D
        by_cases cd : d < hD (zH A)
        · refine ⟨s, ?_, ?_, s2⟩
          · simp only [f_X7_back_L24, if_neg lt, r0, l0, r5, l5, hDi, Option.bind_some, if_true, if_pos (nI_lt cd (show hD (zH A) < 2 ^ 31 by omega)), nI_1]
          · rw [bSt_K]; exact s1
            unfold bSh; rw [if_pos (Or.inr (by rw [a2, d_sub d a1]; exact (sIs_iff (by omega) _).mpr ⟨d, cd, rfl⟩))]
        · obtain ⟨k1, e3, b0, u⟩ := w_st a0 hi (by decide) 0
          obtain ⟨d1, d2⟩ := s1.shelf (j := i) (s := (-1, 0, (zS A i).2.2)) (h' := k1) ⟨upd f0 i 0, f1, f2, f5, gg, ⟨b0, u.2 _ _ (fun z => by omega) b1, u.2 _ _ (fun z => by omega) b2, u.2 _ _ (fun z => by omega) a5, ⟨fo, u.2 _ _ (fun z => by omega) ao1, ao2⟩, fun i hi => u.2 _ _ (fun z => by omega) (al i hi), gv, u.2 _ _ (fun z => by omega) gv1⟩, fun x hx => by
            dsimp only
            by_cases e : x = i
            · rw [if_pos e, e]
              exact ⟨fun _ => pk_us, fun k hk z => absurd ⟨k, hk, z⟩ sh_m1, fun d hd z => absurd (show (-1 : Int32) = nI (10 + d) from z).symm (nI_nm1 (by omega))⟩
            · rw [if_neg e]
              obtain ⟨s0, s1, s2⟩ := sh x hx
              exact ⟨fun z => by rw [pk_un e]; exact s0 z, fun k hk z => by rw [pk_un e]; exact s1 k hk z, fun d hd z => by rw [pk_un e]; exact s2 d hd z⟩⟩ (Fr.mono u (fun _ _ z => z) (fun _ z => by omega))
          refine ⟨k1, ?_, ?_, s2.trans d2⟩
          · simp only [f_X7_back_L24, if_neg lt, r0, l0, r5, l5, hDi, Option.bind_some, if_true, if_neg (nI_nlt (show hD (zH A) ≤ d by omega) (show d < 2 ^ 31 by omega)), e3, nI_1]
          · rw [bSt_S]
            rw [show bSh (hD (zH A)) (zS A i) = (-1, 0, (zS A i).2.2) from if_neg (by rintro (z | z)
                                                                                      · rw [a2] at z; exact d_n10 d a1 z
                                                                                      · rw [a2, d_sub d a1] at z
                                                                                        obtain ⟨j, hj, e⟩ := (sIs_iff (by omega) _).mp z
                                                                                        have := (nI_eqc (by omega) (by omega)).mp e
                                                                                        omega)]
            exact d1)
  obtain ⟨s, e, r⟩ := this
  exact ⟨s, e, r⟩
/-- the kept house of the class -/
theorem CI.keep {H : HS} (q : CI h D A) (qk : HAt h' 27 H) (e3 : x_get h' 16 6 3 = some (.int 1)) (f : Fr (fun a k => (27 ≤ a ∧ a < 32) ∨ (a = 16 ∧ k = 3)) (fun a => 27 ≤ a ∧ a < 32) h h') : CI h' D (setK A H) ∧ FrC D h h' := by
  have dn := q.dn
  unfold fixd at dn
  obtain ⟨q0, q1, ⟨T, q2⟩, q3, q4, q5, q6, q7, q8, q9⟩ := q
  refine ⟨⟨fun k hk => ?_, q1.fr f (fun _ z => by omega) (fun _ _ _ z => by omega), ⟨T, q2.fr f (fun _ z => by omega) (fun _ _ _ z => by omega)⟩, ⟨H, qk, fun x e => by cases e; rfl⟩, q4.fr f (fun _ _ _ _ z => by omega) (fun _ _ z => by omega), q5.fr f (fun _ z => by omega) (fun z => by omega), q6.fr f (fun _ => ⟨fun z => by omega, fun z => by omega⟩) (fun _ _ z => by omega) (fun z => by omega) (fun z => by omega) (fun z => by omega), q7.fr f (fun _ z => by omega) (fun z => by omega), f.2 _ _ (fun z => by omega) q8, q9⟩, Fr.mono f (fun a _ z => Or.inl (by omega)) (fun a z => Or.inl (by omega))⟩
  by_cases e : k = 3
  · rw [e]; exact e3
  · have := f.1 _ _ _ _ (fun z => by omega) (q0 k hk)
    rw [this]
    rcases (show k = 0 ∨ k = 1 ∨ k = 2 ∨ k = 4 ∨ k = 5 ∨ k = 6 ∨ k = 7 ∨ k = 8 by omega) with rfl | rfl | rfl | rfl | rfl | rfl | rfl | rfl <;> rfl
/-- image -/
theorem b_image (q : CI h D A) (ok : AOk A) (hn : 20 ≤ n) : BMt h D A (f_X6_image n h 16) (fun g => f_X7_image n g 64) := by
  obtain ⟨K0, qK0, -⟩ := q.2.2.2.1
  obtain ⟨h1, e1, a1, f1⟩ := h_become (n := n) (b := 27) (o := 17) ok.1 (Or.inr (by omega)) (by omega) qK0 q.H
  have g3 := f1.1 _ _ _ _ (fun z => by omega) (q.1 3 (by decide))
  obtain ⟨h2, e2, p2, f2⟩ := w_put g3 (.int 1)
  obtain ⟨c2, d2⟩ := q.keep (a1.fr f2 (fun k z => by omega) (fun _ _ _ z => z)) p2 (Fr.trans (Fr.mono f1 (fun a _ z => Or.inl z) (fun a z => z)) (Fr.mono f2 (fun a k z => Or.inr z) (fun a z => z.elim)))
  refine ⟨1, setK A (zH A), ⟨h2, ?_, c2, d2⟩, fun g w nz qg => ?_, ok.1, fun K e => by cases e; exact ok.1, ok.2.2.1, ok.2.2.2.1, ok.2.2.2.2⟩
  · simp only [f_X6_image, q.g2, q.g0, qK0.ob, e1, e2, Option.bind_some]
  · have fin : ∀ {g1 : xH} {w1 : Nat → Nat} {A1 : AS} {o : Nat} {T : HS}, MIn g1 w1 A1 → zH A1 = zH A → x_get g1 64 7 18 = some (.ref o) → MH g1 o T → (∀ a, cellM o a → w1 a = 1) → ∃ g2, ((x_gR g1 64 7 18).bind fun a8 => (x_ob g1 a8 7).bind fun u9 => (f_X7_takeFrom n g1 a8 64).bind fun q10 => some ((((1 : Int32), q10) : Int32 × xH), 0, 0)) = some ((1, g2), 0, 0) ∧ MIn g2 w1 (setK A1 (zH A)) ∧ FrR w1 g1 g2 := fun {g1 w1 A1 o T} m1 eH e18 qT qc => by
      have o1 := m1.big (by decide) (qc o (Or.inl rfl))
      have qH := m1.H
      rw [eH] at qH
      obtain ⟨g2, e2, m2, f2⟩ := m_takeFrom (n := n) hn (Or.inr (by omega)) ok.1.1 ok.1.2.1 qT qH
      obtain ⟨t1, t2⟩ := m1.kept e18 m2 qc f2
      exact ⟨g2, by simp only [g_R e18, qT.ob, e2, Option.bind_some], t1, t2⟩
    have qk := qg.2.2.2.2.2.1
    cases K : zK A with
    | some T =>
      rw [K] at qk
      obtain ⟨o, e18, qT, qc⟩ := qk
      obtain ⟨g2, e2, t1, t2⟩ := fin qg rfl e18 qT qc
      refine ⟨g2, w, 0, 0, ?_, MX.of t1 t2⟩
      show f_X7_image n g 64 = _
      unfold f_X7_image
      simp only [g_Y e18, Option.bind_some, show (true = false) = False from eq_false (by decide), if_false]
      exact e2
    | none =>
      rw [K] at qk
      obtain ⟨e18, en⟩ := qk
      have f0 : Fr (fun a k => a = 64 ∧ k = 18) (fun _ => False) g (g ++ new7 (g.length + 16)) := fr_app
      have e18' : x_get (g ++ new7 (g.length + 16)) 64 7 18 = some .null := (fr_app (F := fun _ _ => False) (P := fun _ => False)).1 _ _ _ _ (fun z => z) e18
      obtain ⟨g1, p1, p2, p3⟩ := w_put e18' (.ref (g.length + 16))
      have lo := qg.lo
      have f2 : Fr (fun a k => a = 64 ∧ k = 18) (fun _ => False) g g1 := f0.trans p3
      have f1 : Fr (fun a k => a = 64 ∧ (k = 18 ∨ k = 19 ∨ k = 27 ∨ k = 28 ∨ k = 34 ∨ k = 35)) (fun _ => False) g g1 := Fr.mono f2 (fun a k z => ⟨z.1, Or.inl z.2⟩) (fun _ z => z)
      have mh1 : MH g1 (g.length + 16) H00 := new_MH.fr p3 (fun k _ _ z => by omega) (fun _ _ _ z => z)
      obtain ⟨b0, b1, b2, b3, b4⟩ := qg.b5 f1
      have c1 : ∀ a, cellM (g.length + 16) a → col w (g.length + 16) (g.length + 16 + 36) 1 a = 1 := fun a z => by
        unfold cellM at z
        exact col_in (by omega) (by omega)
      have up : ∀ {i : Nat} (a : Nat), i ≠ 0 → w a = i → col w (g.length + 16) (g.length + 16 + 36) 1 a = i := fun a hi e => by
        rw [col_up nz (by rw [e]; exact hi)]; exact e
      have m1 : MIn g1 (col w (g.length + 16) (g.length + 16 + 36) 1) (setK A H00) := ⟨b0, b1, b2, b3, b4, ⟨_, p2, mh1, c1⟩, (qg.2.2.2.2.2.2.1.fr f2 (fun z => by omega) (fun a k e z => by have := qg.big (by decide) e; omega) (fun _ _ z => z)).rc (fun a _ e => up a (by decide) e) (col_ne (by decide)), (qg.2.2.2.2.2.2.2.1.fr f2 (fun k h1 h2 z => by omega) ⟨fun z => z, fun z => z⟩ (fun _ _ z => z)).rc (fun a _ e => up a (by decide) e) (col_ne (by decide)), (qg.2.2.2.2.2.2.2.2.1.fr f2 (fun k h1 h2 z => by omega) (fun _ _ z => z)).rc (fun a _ e => up a (by decide) e) (col_ne (by decide)), fun a ha => col_lo qg.col lo ha⟩
      obtain ⟨g2, e2, t1, t2⟩ := fin m1 rfl p2 mh1 c1
      refine ⟨g2, _, kC 1, kS 1, ?_, (MX.mk qg nz (by decide) (by decide) en (by omega) m1 f1).st t1 t2⟩
      show f_X7_image n g 64 = _
      unfold f_X7_image
      have ei := x7_init (h := g)
      unfold nul7 at ei
      simp only [g_N e18, Option.bind_some, if_true, ei, p1, xad]
      rw [e2]
      rfl
/-- back -/
theorem b_back (q : CI h D A) (ok : AOk A) (hn : 20 ≤ n) : BSt h D w A (f_X6_back n h 16) (fun g => f_X7_back n g 64) := by
  cases K : zK A with
  | none =>
    refine b_ref5 q ok ?_ (fun g qg => ?_)
    · have g3 := q.g3
      rw [K] at g3
      simp only [f_X6_back, g3, Option.bind_some, refC]
      rfl
    · have qk := qg.2.2.2.2.2.1
      rw [K] at qk
      show f_X7_back n g 64 = _
      simp only [f_X7_back, g_N qk.1, Option.bind_some, if_true, refM7]
  | some T =>
    have okT := ok.2.1 T K
    obtain ⟨K0, qK0, eK⟩ := q.2.2.2.1
    rw [eK T K] at qK0
    obtain ⟨h1, e1, a1, f1⟩ := h_become (n := n) (b := 17) (o := 27) okT (Or.inl (by omega)) (by omega) q.H qK0
    obtain ⟨c1, d1⟩ := q.now a1 f1
    obtain ⟨h2, e2, c2, d2⟩ := c_back (n := n) c1 ok.2.2.1 hn
    refine ⟨1, bSt (setH A T) 8, ⟨h2, ?_, c2, Fr.trans d1 d2⟩, fun g qg => ?_, okT, ok.2.1, fun j hj => ?_, ok.2.2.2.1, fun j hj d hd e => ?_⟩
    · have g3 := q.g3
      rw [K] at g3
      have g3' : x_gI h 16 6 3 = some (bI true) := g3
      simp only [f_X6_back, g3', Option.bind_some, i1, q.g0, q.g2, q.H.ob, e1, e2]
    · have qk := qg.2.2.2.2.2.1
      rw [K] at qk
      obtain ⟨o, e18, qT, qc⟩ := qk
      have o1 := qg.big (by decide) (qc o (Or.inl rfl))
      obtain ⟨g1, y1, m1, f3⟩ := m_takeFrom (n := n) hn (Or.inl (by omega)) okT.1 okT.2.1 qg.H qT
      obtain ⟨t1, t2⟩ := qg.now m1 f3
      obtain ⟨g2, y2, t3, t4⟩ := m_back (n := n) t1 ok.2.2.1 okT.1 hn
      refine ⟨g2, ?_, t3, Fr.trans t2 t4⟩
      show f_X7_back n g 64 = _
      simp only [f_X7_back, g_Y e18, Option.bind_some, show (true = false) = False from eq_false (by decide), if_false, g_R e18, qg.ob, y1, y2]
    · show SHk (if j < 8 then bSh (hD T) (zS A j) else zS A j)
      rw [if_pos hj]
      unfold bSh
      split
      · exact ok.2.2.1 j hj
      · exact Or.inl ⟨rfl, rfl⟩
    · have e' : (if j < 8 then bSh (hD T) (zS A j) else zS A j).1 = nI (10 + d) := e
      rw [if_pos hj] at e'
      show d < hD T
      unfold bSh at e'
      split at e'
      · rename_i z
        rw [e'] at z
        rcases z with z | z
        · exact absurd z (d_n10 d hd)
        · rw [d_sub d hd] at z
          have h14 := okT.1
          obtain ⟨j', hj', z'⟩ := (sIs_iff (by omega) _).mp z
          have := (nI_eqc (by omega) (by omega)).mp z'
          omega
      · exact absurd (show (-1 : Int32) = nI (10 + d) from e').symm (nI_nm1 (by omega))
end Mk
