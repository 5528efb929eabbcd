/-! The reference's findComing, fewest, all. -/
def SX0 (h : xH) (m af ab : Nat) (G : GP) (em : Nat) (fe fF fB : Nat → Int32) : Prop := x_get h m 7 27 = some (.ref af) ∧ x_get h m 7 28 = some (.ref ab) ∧ x_get h m 7 29 = some (.ref (m + 34)) ∧ x_get h m 7 30 = some (.int (nI (gm G))) ∧ x_get h m 7 31 = some (.ref (m + 35)) ∧ x_get h m 7 32 = some (.int (nI em)) ∧
  (∃ fg, At h (m + 34) 4 fg ∧ ∀ j, j < gm G → fg j = nI (gg G j)) ∧ At h (m + 35) 512 fe ∧ At h af 20480 fF ∧ At h ab 20480 fB
def z00 (G : GP) : Nat := enc (adv (Qr (gg G) (gr G)) (gm G) 0) (gx G) (gr G)
def Fin (G : GP) (A : AT) : Prop := Snd G A ∧ ∃ n, LeA (gN G) n A ∧ (∀ k, k ≤ n → WC G k A ∧ OC G k A) ∧ A (z00 G) = some (0, 14)
theorem Fin.all {G : GP} {A : AT} (ok : GOk G) (h : Fin G A) {n f t x r : Nat} (hR : R G n f t x r) : ∃ n' f', A (enc t x r) = some (n', f') ∧ n' ≤ n ∧ (n' = n → f' ≤ f) := by
  obtain ⟨hs, N, hL, hC, h0⟩ := h
  refine R_ind (P := fun n f t x r => ∃ n' f', A (enc t x r) = some (n', f') ∧ n' ≤ n ∧ (n' = n → f' ≤ f)) ?_ ?_ ?_ hR
  · exact ⟨0, 14, h0, Nat.le_refl _, fun _ => Nat.le_refl _⟩
  · rintro n f t x r r' hR ⟨n', f', e, h1, h2⟩ w
    have i := R_in ok hR
    have hx : x < 512 := Nat.lt_of_lt_of_le i.2.1 (pow9 ok)
    have hz := enc_lt (G := G) i.1 hx i.2.2.1
    have dz := enc_dec (t := t) hx i.2.2.1
    obtain ⟨a, b, e2, b1, b2⟩ := (hC n' (hL _ _ _ hz e)).1 _ f' r' hz e (by rw [dz.2.1, dz.2.2]; exact w)
    rw [dz.1, dz.2.1] at e2
    exact ⟨a, b, e2, by omega, fun z => by have := b2 (by omega); have := h2 (by omega); omega⟩
  · rintro n f t x r d s hR ⟨n', f', e, h1, h2⟩ w
    have i := R_in ok hR
    have hx : x < 512 := Nat.lt_of_lt_of_le i.2.1 (pow9 ok)
    have hz := enc_lt (G := G) i.1 hx i.2.2.1
    have dz := enc_dec (t := t) hx i.2.2.1
    obtain ⟨a, b, e2, b1, b2⟩ := (hC n' (hL _ _ _ hz e)).2 _ f' d s hz e (by rw [dz.2.1, dz.2.2]; exact w)
    rw [dz.1, dz.2.1, dz.2.2] at e2
    refine ⟨a, b, e2, by omega, fun z => ?_⟩
    have g1 := b2 (by omega)
    have e3 : n' = n := by omega
    subst e3
    have g2 := h2 rfl
    unfold fst1 at g1 ⊢
    split at g1
    · rename_i hh; rw [if_pos hh]; exact g1
    · rename_i hh; rw [if_neg hh]; omega
section SX
variable {h h' : xH} {m af ab em N n : Nat} {G : GP} {fe fF fB : Nat → Int32} {A : AT} {H : HS}
theorem sx_40 (q : SX0 h m af ab G em fe fF fB) (ok : GOk G) (sp : sep m af ab) {v1 v2 v3 : Int32} (hN : 30000 ≤ N) : ∃ h', f_X7_findComing_L40 m v1 v2 v3 N 0 h = some h' ∧ SX h' m af ab G em fe (fun _ => none) ∧ Fr (fun _ _ => False) (fun a => a = af ∨ a = ab) h h' := by
  have hgN := gN_le ok
  have := lp0 (L := fun k (s : xH) z => f_X7_findComing_L40 m v1 v2 v3 k (nI z) s)
    (I := fun z s => ∃ fF fB, SX0 s m af ab G em fe fF fB ∧ (∀ z', z' < z → fF z' = -1) ∧ Fr (fun _ _ => False) (fun a => a = af ∨ a = ab) h s)
    (R := fun s => SX s m af ab G em fe (fun _ => none) ∧ Fr (fun _ _ => False) (fun a => a = af ∨ a = ab) h s) (D := gN G) (n := N) (s := h) (by omega) ⟨fF, fB, q, fun z hz => absurd hz (Nat.not_lt_zero _), Fr.rfl⟩
    (fun k s hs => by
      obtain ⟨fF, fB, ⟨q1, q2, q3, q4, q5, q6, q7, q9, qa, qb⟩, c2, c3⟩ := hs
      refine ⟨s, ?_, ⟨q1, q2, q3, q4, q5, q6, q7, q9, fF, fB, qa, qb, fun z hz => c2 z hz⟩, c3⟩
      show f_X7_findComing_L40 m v1 v2 v3 (k + 1) (nI (gN G)) s = _
      rw [f_X7_findComing_L40, g_I q4, Option.bind_some, show ((nI (gm G) + 1) * 512) * 8 = nI (gN G) by show ((nI (gm G) + nI 1) * nI 512) * nI 8 = _; rw [nI_add, pk_mul, pk_mul]; rfl, if_pos (nI_le (Nat.le_refl _) (by omega))])
    (fun k s z hz hs => by
      right
      obtain ⟨fF, fB, ⟨q1, q2, q3, q4, q5, q6, ⟨fg, q7, q8⟩, q9, qa, qb⟩, c2, c3⟩ := hs
      obtain ⟨h1, e1, a1, f1⟩ := w_st qa (show z < 20480 by omega) (by decide) (-1)
      have qb1 : At h1 ab 20480 fB := f1.2 _ _ (fun z => sp.1 z.symm) qb
      obtain ⟨h2, e2, a2, f2⟩ := w_st qb1 (show z < 20480 by omega) (by decide) 14
      have fr : Fr (fun _ _ => False) (fun a => a = af ∨ a = ab) s h2 := Fr.trans (Fr.mono f1 (fun _ _ z => z) (fun _ z => Or.inl z)) (Fr.mono f2 (fun _ _ z => z) (fun _ z => Or.inr z))
      refine ⟨h2, ?_, upd fF z (-1), upd fB z 14, ⟨fr.1 _ _ _ _ id q1, fr.1 _ _ _ _ id q2, fr.1 _ _ _ _ id q3, fr.1 _ _ _ _ id q4, fr.1 _ _ _ _ id q5, fr.1 _ _ _ _ id q6, ⟨fg, fr.2 _ _ (fun z => by have := sp.2.1; have := sp.2.2; omega) q7, q8⟩, fr.2 _ _ (fun z => by have := sp.2.1; have := sp.2.2; omega) q9, f2.2 _ _ sp.1 a1, a2⟩, ?_, Fr.trans c3 fr⟩
      · show f_X7_findComing_L40 m v1 v2 v3 (k + 1) (nI z) s = _
        rw [f_X7_findComing_L40, g_I q4, Option.bind_some, show ((nI (gm G) + 1) * 512) * 8 = nI (gN G) by show ((nI (gm G) + nI 1) * nI 512) * nI 8 = _; rw [nI_add, pk_mul, pk_mul]; rfl, if_neg (nI_ge hz (by omega)), g_R q1, Option.bind_some, e1, Option.bind_some, g_R (f1.1 _ _ _ _ id q2), Option.bind_some, e2, Option.bind_some, Option.bind_some, nI_1]
      · intro z' hz'
        by_cases ez : z' = z
        · subst ez; exact pk_us
        · rw [pk_un ez]; exact c2 z' (by omega))
  obtain ⟨s, e, r⟩ := this
  exact ⟨s, e, r⟩
theorem sEn_0 (ok : HOk H) : sEn H 0 = false := by
  cases e : sEn H 0
  · rfl
  · have := sEn_le e
    rw [sW_0 H ok.1] at this
    have := (HOk.L H ok).2.1
    omega
theorem SX.em' (q : SX h m af ab G em fe A) (x : Nat) : ∃ h', x_put h m 7 32 (.int (nI x)) = some h' ∧ SX h' m af ab G x fe A ∧ Fr (fun a k => a = m ∧ k = 32) (fun _ => False) h h' := by
  obtain ⟨q1, q2, q3, q4, q5, q6, ⟨fg, q7, q8⟩, q9, fF, fB, qa, qb, qc⟩ := q
  obtain ⟨h1, e1, g, f⟩ := w_put q6 (.int (nI x))
  exact ⟨h1, e1, ⟨f.1 _ _ _ _ (fun z => by omega) q1, f.1 _ _ _ _ (fun z => by omega) q2, f.1 _ _ _ _ (fun z => by omega) q3, f.1 _ _ _ _ (fun z => by omega) q4, f.1 _ _ _ _ (fun z => by omega) q5, g, ⟨fg, f.2 _ _ id q7, q8⟩, f.2 _ _ id q9, fF, fB, f.2 _ _ id qa, f.2 _ _ id qb, qc⟩, f⟩
theorem SX.stE (q : SX h m af ab G em fe A) (sp : sep m af ab) {j : Nat} (hj : j < 512) (x : Int32) : ∃ h', x_st h (m + 35) (nI j) x = some h' ∧ SX h' m af ab G em (upd fe j x) A ∧ Fr (fun _ _ => False) (fun a => a = m + 35) h h' := by
  obtain ⟨q1, q2, q3, q4, q5, q6, ⟨fg, q7, q8⟩, q9, fF, fB, qa, qb, qc⟩ := q
  obtain ⟨h1, e1, g, f⟩ := w_st q9 hj (by decide) x
  exact ⟨h1, e1, ⟨f.1 _ _ _ _ id q1, f.1 _ _ _ _ id q2, f.1 _ _ _ _ id q3, f.1 _ _ _ _ id q4, f.1 _ _ _ _ id q5, f.1 _ _ _ _ id q6, ⟨fg, f.2 _ _ (fun z => by omega) q7, q8⟩, g, fF, fB, f.2 _ _ (fun z => by have := sp.2.1; omega) qa, f.2 _ _ (fun z => by have := sp.2.2; omega) qb, qc⟩, f⟩
theorem FrS.of {F : Nat → Nat → Prop} {P : Nat → Prop} (f : Fr F P h h') (hF : ∀ a k, F a k → a = m ∧ (k = 11 ∨ (27 ≤ k ∧ k < 33))) (hP : ∀ a, P a → a = af ∨ a = ab ∨ a = m + 32 ∨ a = m + 34 ∨ a = m + 35) : FrS m af ab h h' := Fr.mono f hF hP
theorem sx_89 (q : SX h m af ab G 0 fe A) (ok : GOk G) (sp : sep m af ab) (qh : MH h m (gH G)) {v1 v2 v3 : Int32} (hN : 30000 ≤ N) : ∃ h' em' fe', f_X7_findComing_L89 N m v1 v2 v3 N 1 h = some h' ∧ SX h' m af ab G em' fe' A ∧ MH h' m (gH G) ∧ EnOk G em' fe' ∧ FrS m af ab h h' := by
  have p9 := pow9 ok
  have h9 := ok.2.1
  have pp : 1 ≤ 2 ^ hD (gH G) := Nat.one_le_two_pow
  have := lp0 (L := fun k (s : xH) z => f_X7_findComing_L89 N m v1 v2 v3 k (nI (z + 1)) s)
    (I := fun z s => ∃ em fe, SX s m af ab G em fe A ∧ MH s m (gH G) ∧ em ≤ z ∧ (∀ k, k < em → ∃ u, fe k = nI u ∧ u < z + 1 ∧ sEn (gH G) (nI u) = true) ∧ (∀ u, u < z + 1 → sEn (gH G) (nI u) = true → ∃ k, k < em ∧ fe k = nI u) ∧ FrS m af ab h s)
    (R := fun s => ∃ em fe, SX s m af ab G em fe A ∧ MH s m (gH G) ∧ EnOk G em fe ∧ FrS m af ab h s) (D := 2 ^ hD (gH G) - 1) (n := N) (s := h) (by omega)
    ⟨0, fe, q, qh, Nat.le_refl _, fun k hk => absurd hk (Nat.not_lt_zero _), (fun u hu e => by rw [show u = 0 by omega, show nI 0 = 0 from rfl, sEn_0 ok.1] at e; cases e), FrS.refl⟩
    (fun k s hs => by
      obtain ⟨em, fe, c1, c2, c3, c4, c5, c6⟩ := hs
      refine ⟨s, ?_, em, fe, c1, c2, ⟨by omega, fun k hk => ?_, fun u hu e => c5 u (by omega) e⟩, c6⟩
      · show f_X7_findComing_L89 N m v1 v2 v3 (k + 1) (nI (2 ^ hD (gH G) - 1 + 1)) s = _
        rw [f_X7_findComing_L89, c2.D, Option.bind_some, bit_nI _ (by omega), if_pos (nI_le (by omega) (by omega))]
      · obtain ⟨u, e1, e2, e3⟩ := c4 k hk
        exact ⟨u, e1, by omega, e3⟩)
    (fun k s z hz hs => by
      right
      obtain ⟨em, fe, c1, c2, c3, c4, c5, c6⟩ := hs
      have st : f_X7_findComing_L89 N m v1 v2 v3 (k + 1) (nI (z + 1)) s = if bI (sEn (gH G) (nI (z + 1))) = 0 then f_X7_findComing_L89 N m v1 v2 v3 k (nI (z + 1 + 1)) s else (x_put s m 7 32 (.int (nI (em + 1)))).bind fun h27 => (x_st h27 (m + 35) (nI em) (nI (z + 1))).bind fun h28 => f_X7_findComing_L89 N m v1 v2 v3 k (nI (z + 1 + 1)) h28 := by
        rw [f_X7_findComing_L89, c2.D, Option.bind_some, bit_nI _ (by omega), if_neg (nI_ge (by omega) (by omega)), c1.ob, Option.bind_some, m_isEnough c2 ok.1 (by omega), Option.bind_some, c1.en, Option.bind_some, c1.em_, Option.bind_some, Option.bind_some, nI_1, nI_1]
        rfl
      cases hc : sEn (gH G) (nI (z + 1))
      · rw [hc, if_pos (show bI false = 0 from rfl)] at st
        refine ⟨s, st, em, fe, c1, c2, by omega, fun k hk => ?_, fun u hu e => ?_, c6⟩
        · obtain ⟨u, e1, e2, e3⟩ := c4 k hk
          exact ⟨u, e1, by omega, e3⟩
        · by_cases eu : u = z + 1
          · rw [eu, hc] at e; cases e
          · exact c5 u (by omega) e
      · rw [hc, if_neg (show ¬ bI true = 0 by decide)] at st
        obtain ⟨h27, p1, p2, p3⟩ := c1.em' (em + 1)
        obtain ⟨h28, t1, t2, t3⟩ := p2.stE sp (show em < 512 by omega) (nI (z + 1))
        have m1 : MH h27 m (gH G) := c2.fr p3 (fun k h1 h2 z => by omega) (fun _ _ _ z => z)
        have m2 : MH h28 m (gH G) := m1.fr t3 (fun k h1 h2 z => z) (fun a _ _ z => by omega)
        refine ⟨h28, ?_, em + 1, upd fe em (nI (z + 1)), t2, m2, by omega, fun k hk => ?_, fun u hu e => ?_, c6.trans (FrS.trans (FrS.of p3 (fun a k z => ⟨z.1, Or.inr (by omega)⟩) (fun _ z => z.elim)) (FrS.of t3 (fun a k z => z.elim) (fun _ z => Or.inr (Or.inr (Or.inr (Or.inr z))))))⟩
        · show f_X7_findComing_L89 N m v1 v2 v3 (k + 1) (nI (z + 1)) s = _
          rw [st, p1, Option.bind_some, t1, Option.bind_some]
        · by_cases ek : k = em
          · subst ek; exact ⟨z + 1, pk_us, by omega, hc⟩
          · obtain ⟨u, e1, e2, e3⟩ := c4 k (by omega)
            exact ⟨u, by rw [pk_un ek]; exact e1, by omega, e3⟩
        · by_cases eu : u = z + 1
          · subst eu; exact ⟨em, by omega, pk_us⟩
          · obtain ⟨j, j1, j2⟩ := c5 u (by omega) e
            exact ⟨j, by omega, by rw [pk_un (by omega)]; exact j2⟩)
  obtain ⟨s, e, em', fe', r⟩ := this
  exact ⟨s, em', fe', e, r⟩
/-- level after level -/
theorem sx_156 (q : SX h m af ab G em fe A) (ok : GOk G) (sp : sep m af ab) (hg : ∀ j, j < gm G → gg G j < 2 ^ 31) (hE : EnOk G em fe) {x0 r0 : Nat} {v2 v3 : Int32} (hs : Snd G A) (hL : LeA (gN G) 0 A) (hW : WC G 0 A) (h0 : A (z00 G) = some (0, 14)) (hx0 : x0 < 2 ^ hD (gH G)) (hr0 : r0 < 8) (qh : MH h m (gX G x0 r0)) (hN : 700000 ≤ N) :
    ∃ h', f_X7_findComing_L156 N m (nI (gp G)) v2 v3 N 0 h = some h' ∧ ∃ A' x r, SX h' m af ab G em fe A' ∧ x < 2 ^ hD (gH G) ∧ r < 8 ∧ MH h' m (gX G x r) ∧ Fin G A' ∧ FrS m af ab h h' := by
  have hgN := gN_le ok
  have hmu : mu (gN G) A ≤ gN G * 16 := mu_le (fun z p hz e => (q.bnd (f := p.2) (n := p.1) hz e).2)
  exact lpM (L := fun k (s : Int32 × xH) => f_X7_findComing_L156 N m (nI (gp G)) v2 v3 k s.1 s.2)
    (I := fun c s => ∃ n A' x r, s.1 = nI n ∧ SX s.2 m af ab G em fe A' ∧ x < 2 ^ hD (gH G) ∧ r < 8 ∧ MH s.2 m (gX G x r) ∧ Snd G A' ∧ LeA (gN G) n A' ∧ (∀ k, k ≤ n → WC G k A') ∧ (∀ k, k < n → OC G k A') ∧ A' (z00 G) = some (0, 14) ∧ FrS m af ab h s.2 ∧ c = mu (gN G) A' ∧ n + mu (gN G) A' ≤ 400000)
    (R := fun s => ∃ A' x r, SX s m af ab G em fe A' ∧ x < 2 ^ hD (gH G) ∧ r < 8 ∧ MH s m (gX G x r) ∧ Fin G A' ∧ FrS m af ab h s)
    (fun k c s hs => by
      obtain ⟨n, A', x, r, c1, c2, c3, c4, c5, c6, c7, c8, c9, c10, c11, c12, c13⟩ := hs
      obtain ⟨h1, fl, e1, A1, x1, r1, d1, d2, d3, d4, d5, d6, d7⟩ := sx_opens (N := N) (n := n) c2 ok sp hg hE (by omega) c6 c7 c3 c4 c5 (by omega)
      cases fl with
      | false =>
        left
        obtain ⟨-, eA, -⟩ := d5.2.2.2.1 rfl
        subst eA
        refine ⟨h1, ?_, A1, x1, r1, d1, d2, d3, d4, ⟨c6, n, c7, fun k hk => ⟨c8 k hk, ?_⟩, c10⟩, c11.trans d7⟩
        · show f_X7_findComing_L156 N m (nI (gp G)) v2 v3 (k + 1) s.1 s.2 = _
          rw [f_X7_findComing_L156, c2.ob, Option.bind_some, c1, e1, Option.bind_some, if_pos (show bI false = 0 from rfl)]
        · by_cases e : k = n
          · subst e; exact d6
          · exact c9 k (by omega)
      | true =>
        right
        have hlt : mu (gN G) A1 < mu (gN G) A' := by
          rcases d5.2.2.2.2 rfl with z | z
          · cases z
          · exact z
        obtain ⟨h2, e2, A2, x2, f1, f2, f3, f4, f5, f6, f7, f8⟩ := sx_walks (N := N) (n := n + 1) d1 ok sp hg (by omega) d5.2.1 (c7.ext d5.1 (by omega)) d2 d3 d4 hN
        refine ⟨(nI (n + 1), h2), mu (gN G) A2, by omega, ?_, n + 1, A2, x2, r1, rfl, f1, f2, d3, f3, f5, ?_, ?_, ?_, ?_, c11.trans (d7.trans f8), rfl, by omega⟩
        · show f_X7_findComing_L156 N m (nI (gp G)) v2 v3 (k + 1) s.1 s.2 = _
          rw [f_X7_findComing_L156, c2.ob, Option.bind_some, c1, e1, Option.bind_some, if_neg (show ¬ bI true = 0 by decide), Option.bind_some, nI_1, d1.ob, Option.bind_some, e2, Option.bind_some]
        · exact (c7.ext d5.1 (by omega)).ext f4 (Nat.le_refl _)
        · intro k hk
          by_cases e : k = n + 1
          · subst e; exact f7
          · exact ((c8 k (by omega)).ext d5.1 (by omega)).ext f4 (by omega)
        · intro k hk
          by_cases e : k = n
          · subst e; exact d6.ext f4 (by omega)
          · exact ((c9 k (by omega)).ext d5.1 (by omega)).ext f4 (by omega)
        · exact f4.keep (d5.1.keep c10 (by omega)) (by omega))
    N (mu (gN G) A) (0, h) (by omega) ⟨0, A, x0, r0, rfl, q, hx0, hr0, qh, hs, hL, (fun k hk => by rw [show k = 0 by omega]; exact hW), (fun k hk => absurd hk (Nat.not_lt_zero _)), h0, FrS.refl, rfl, by omega⟩
theorem gX_self (hO0 : hO (gH G) = nI (gx G)) (hR0 : hR (gH G) (gp G) = nI (gr G)) : gX G (gx G) (gr G) = gH G := by
  have : upd (hR (gH G)) (gp G) (nI (gr G)) = hR (gH G) := by
    funext j
    by_cases e : j = gp G
    · subst e; rw [pk_us, hR0]
    · rw [pk_un e]
  show (hD (gH G), hP (gH G), nI (gx G), hL (gH G), hW (gH G), hS (gH G), hN (gH G), hK (gH G), hA (gH G), hB (gH G), upd (hR (gH G)) (gp G) (nI (gr G))) = _
  rw [this, ← hO0]
/-- findComing, its rows being there -/
theorem sx_find (q0 : SX0 h m af ab G em fe fF fB) (ok : GOk G) (sp : sep m af ab) (hg : ∀ j, j < gm G → gg G j < 2 ^ 31) (qh : MH h m (gH G)) (hO0 : hO (gH G) = nI (gx G)) (hR0 : hR (gH G) (gp G) = nI (gr G)) (hN : 700000 ≤ N) :
    ∃ h', ((f_X7_findComing_L40 m (nI (gp G)) (nI (gr G)) (nI (gx G)) N (0 : Int32) h).bind fun q19 =>
      (x_put q19 m 7 32 (.int (0 : Int32))).bind fun h20 =>
      (f_X7_findComing_L89 N m (nI (gp G)) (nI (gr G)) (nI (gx G)) N (1 : Int32) h20).bind fun q32 =>
      (x_ob q32 m 7).bind fun u33 =>
      (f_X7_stateOf N q32 m (0 : Int32) (nI (gx G)) (nI (gr G))).bind fun q34 =>
      (x_ob q32 m 7).bind fun u35 =>
      (f_X7_comes q32 m q34 (0 : Int32) (14 : Int32)).bind fun q36 =>
      (x_ob q36.2 m 7).bind fun u37 =>
      (f_X7_walksOn N q36.2 m (0 : Int32)).bind fun q38 =>
      (f_X7_findComing_L156 N m (nI (gp G)) (nI (gr G)) (nI (gx G)) N (0 : Int32) q38).bind fun q45 =>
      (x_gR q45 m 7 13).bind fun a46 =>
      (x_st q45 a46 (nI (gp G)) (nI (gr G))).bind fun h47 =>
      (x_put h47 m 7 11 (.int (nI (gx G)))).bind fun h48 =>
      some ((h48, 0, 0) : xH × Nat × Nat)) = some (h', 0, 0) ∧ ∃ A em' fe', SX h' m af ab G em' fe' A ∧ MH h' m (gH G) ∧ Fin G A ∧ FrS m af ab h h' := by
  obtain ⟨h1, e1, q1, f1⟩ := sx_40 (N := N) (v1 := nI (gp G)) (v2 := nI (gr G)) (v3 := nI (gx G)) q0 ok sp (by omega)
  obtain ⟨h2, e2, q2, f2⟩ := q1.em' 0
  have m1 : MH h1 m (gH G) := qh.fr f1 (fun _ _ _ z => z) (fun a _ _ z => by have := sp.2.1; have := sp.2.2; omega)
  have m2 : MH h2 m (gH G) := m1.fr f2 (fun k _ _ z => by omega) (fun _ _ _ z => z)
  obtain ⟨h3, em3, fe3, e3, q3, m3, hE, f3⟩ := sx_89 (N := N) (v1 := nI (gp G)) (v2 := nI (gr G)) (v3 := nI (gx G)) q2 ok sp m2 (by omega)
  have hx5 : gx G < 512 := Nat.lt_of_lt_of_le ok.2.2.2.2.1 (pow9 ok)
  have hr8 := ok.2.2.2.2.2
  have e4 : f_X7_stateOf N h3 m (nI 0) (nI (gx G)) (nI (gr G)) = some (nI (z00 G)) := sx_stateOf q3 ok hg (Nat.zero_le _) hr8 (by omega)
  have hz : z00 G < gN G := enc_lt (adv_le (Nat.zero_le _)) hx5 hr8
  have dz := enc_dec (t := adv (Qr (gg G) (gr G)) (gm G) 0) hx5 hr8
  obtain ⟨h4, e5, q4, f4⟩ := sx_comes (n := 0) (f := 14) q3 ok sp hz (by decide) (by decide)
  have eA : cmA (fun _ => none) (z00 G) 0 14 = fun j => if j = z00 G then some (0, 14) else none := if_pos rfl
  rw [eA] at q4
  have snd : Snd G (fun j => if j = z00 G then some (0, 14) else none) := by
    intro z n f hz2 e
    by_cases ez : z = z00 G
    · subst ez
      simp only [if_true] at e
      cases e
      unfold z00
      rw [dz.1, dz.2.1, dz.2.2]
      exact R_start
    · simp only [if_neg ez] at e
      cases e
  have le0 : LeA (gN G) 0 (fun j => if j = z00 G then some (0, 14) else none) := by
    intro z k f hz2 e
    by_cases ez : z = z00 G
    · subst ez; simp only [if_true] at e; cases e; exact Nat.le_refl _
    · simp only [if_neg ez] at e; cases e
  have m4 : MH h4 m (gX G (gx G) (gr G)) := by
    rw [gX_self hO0 hR0]
    exact m3.fr f4 (fun _ _ _ z => z) (fun a _ _ z => by have := sp.2.1; have := sp.2.2; omega)
  obtain ⟨h5, e6, A5, x5, q5, xl5, m5, x5e, s5, mu5, w5, f5⟩ := sx_walks (N := N) (n := 0) q4 ok sp hg (by decide) snd le0 ok.2.2.2.2.1 hr8 m4 hN
  obtain ⟨f', ef', lf'⟩ := x5e.some_le (z := z00 G) (k := 0) (f := 14) (by simp)
  have h00 : A5 (z00 G) = some (0, 14) := by
    obtain ⟨kk, hk⟩ := s5 (z00 G) 0 f' hz ef'
    have : ∀ n f t x r, R G n f t x r → n = 0 → f = 14 := by
      intro n f t x r hR
      refine R_ind (P := fun n f t x r => n = 0 → f = 14) (fun _ => rfl) (fun n f t x r r' _ h _ => h) (fun n f t x r d s _ _ _ h => by omega) hR
    rw [this _ _ _ _ _ ⟨kk, hk⟩ rfl] at ef'
    exact ef'
  obtain ⟨h6, e7, A6, x6, r6, q6, xl6, rl6, m6, fin, f6⟩ := sx_156 (N := N) (v2 := nI (gr G)) (v3 := nI (gx G)) q5 ok sp hg hE s5 (le0.ext x5e (Nat.le_refl _)) w5 h00 xl5 hr8 m5 hN
  obtain ⟨h7, e8, m7, f7⟩ := m6.stR' ok.1.2.1 ok.2.2.1 (nI (gr G))
  rw [gX_R] at m7
  obtain ⟨h8, e9, m8, f8⟩ := m7.putO' (nI (gx G))
  rw [gX_O, gX_self hO0 hR0] at m8
  have q7 : SX h7 m af ab G em3 fe3 A6 := q6.fr f7 (fun k _ _ z => z) (fun z => by have := sp.2.1; omega) (fun z => by have := sp.2.2; omega) (fun z => by omega) (fun z => by omega)
  have q8 : SX h8 m af ab G em3 fe3 A6 := q7.fr f8 (fun k _ _ z => by omega) (fun z => z) (fun z => z) (fun z => z) (fun z => z)
  refine ⟨h8, ?_, A6, em3, fe3, q8, m8, fin, ?_⟩
  · rw [show (0 : Int32) = nI 0 from rfl] at *
    rw [e1, Option.bind_some, e2, Option.bind_some, e3, Option.bind_some, q3.ob, Option.bind_some, e4, Option.bind_some, Option.bind_some, show (14 : Int32) = nI 14 from rfl, e5, Option.bind_some, q4.ob, Option.bind_some, e6, Option.bind_some, e7, Option.bind_some, m6.rr, Option.bind_some, e8, Option.bind_some, e9, Option.bind_some]
  · have a1 : FrS m af ab h h1 := FrS.of f1 (fun _ _ z => z.elim) (fun a z => by rcases z with z | z; exact Or.inl z; exact Or.inr (Or.inl z))
    have a2 : FrS m af ab h1 h2 := FrS.of f2 (fun _ _ z => ⟨z.1, Or.inr (by omega)⟩) (fun _ z => z.elim)
    have a4 : FrS m af ab h3 h4 := FrS.of f4 (fun _ _ z => z.elim) (fun a z => by rcases z with z | z; exact Or.inl z; exact Or.inr (Or.inl z))
    have a7 : FrS m af ab h6 h7 := FrS.of f7 (fun _ _ z => z.elim) (fun _ z => Or.inr (Or.inr (Or.inl z)))
    have a8 : FrS m af ab h7 h8 := FrS.of f8 (fun _ _ z => ⟨z.1, Or.inl z.2⟩) (fun _ z => z.elim)
    exact a1.trans (a2.trans (f3.trans (a4.trans (f5.trans (f6.trans (a7.trans a8))))))
/-- the fewest, the least first door of them -/
theorem sx_fewest (q : SX h m af ab G em fe A) (ok : GOk G) (hf : Fin G A) {v : Int32} (g33 : x_get h m 7 33 = some (.int v)) (hN : 30000 ≤ N) : ∃ h' b, f_X7_fewest N h m = some (b, h') ∧ SX h' m af ab G em fe A ∧ Fr (fun a k => a = m ∧ k = 33) (fun _ => False) h h' ∧ ((b = -1 ∧ NoBest G ∧ ∃ y, x_get h' m 7 33 = some (.int y)) ∨ ∃ n f, b = nI n ∧ n < 2 ^ 30 ∧ Best G n f ∧ x_get h' m 7 33 = some (.int (nI f))) := by
  have hgN := gN_le ok
  have h4 := ok.2.2.2.1
  obtain ⟨h1, e1, g1, f1⟩ := w_put g33 (.int 14)
  have q1 : SX h1 m af ab G em fe A := q.fr f1 (fun k _ _ z => by omega) (fun z => z) (fun z => z) (fun z => z) (fun z => z)
  have lo : gm G * 512 * 8 + 4096 = gN G := by unfold gN; omega
  have := lp0 (L := fun k (s : Int32 × xH) z => f_X7_fewest_L20 m k s.1 (nI (gm G * 512 * 8 + z)) s.2)
    (I := fun z s => SX s.2 m af ab G em fe A ∧ Fr (fun a k => a = m ∧ k = 33) (fun _ => False) h s.2 ∧ ((s.1 = -1 ∧ (∀ j, j < z → A (gm G * 512 * 8 + j) = none) ∧ ∃ y, x_get s.2 m 7 33 = some (.int y)) ∨ ∃ n f, s.1 = nI n ∧ n < 2 ^ 30 ∧ f ≤ 14 ∧ x_get s.2 m 7 33 = some (.int (nI f)) ∧ (∃ j, j < z ∧ A (gm G * 512 * 8 + j) = some (n, f)) ∧ ∀ j n' f', j < z → A (gm G * 512 * 8 + j) = some (n', f') → n ≤ n' ∧ (n' = n → f ≤ f')))
    (R := fun s => SX s.2 m af ab G em fe A ∧ Fr (fun a k => a = m ∧ k = 33) (fun _ => False) h s.2 ∧ ((s.1 = -1 ∧ (∀ j, j < 4096 → A (gm G * 512 * 8 + j) = none) ∧ ∃ y, x_get s.2 m 7 33 = some (.int y)) ∨ ∃ n f, s.1 = nI n ∧ n < 2 ^ 30 ∧ f ≤ 14 ∧ x_get s.2 m 7 33 = some (.int (nI f)) ∧ (∃ j, j < 4096 ∧ A (gm G * 512 * 8 + j) = some (n, f)) ∧ ∀ j n' f', j < 4096 → A (gm G * 512 * 8 + j) = some (n', f') → n ≤ n' ∧ (n' = n → f ≤ f'))) (D := 4096) (n := N) (s := (-1, h1)) (by omega)
    ⟨q1, f1, Or.inl ⟨rfl, fun j hj => absurd hj (Nat.not_lt_zero _), 14, g1⟩⟩
    (fun k s hs => by
      refine ⟨s, ?_, hs⟩
      obtain ⟨c1, -⟩ := hs
      obtain ⟨y, a1, a2⟩ := gN_I c1
      show f_X7_fewest_L20 m (k + 1) s.1 (nI (gm G * 512 * 8 + 4096)) s.2 = _
      rw [f_X7_fewest_L20, a1, Option.bind_some, a2, if_pos (nI_le (by omega) (by omega))])
    (fun k s z hz hs => by
      right
      obtain ⟨c1, c2, c3⟩ := hs
      obtain ⟨y, a1, a2⟩ := gN_I c1
      have hzl : gm G * 512 * 8 + z < gN G := by omega
      have pre : ∀ {X Y : Option (Int32 × xH)}, (if nI (gN G) ≤ nI (gm G * 512 * 8 + z) then X else Y) = Y := fun {X Y} => if_neg (nI_ge hzl (by omega))
      have keep : ∀ (b : Int32), f_X7_fewest_L20 m (k + 1) s.1 (nI (gm G * 512 * 8 + z)) s.2 = f_X7_fewest_L20 m k b (nI (gm G * 512 * 8 + (z + 1))) s.2 → b = s.1 → ((s.1 = -1 ∧ A (gm G * 512 * 8 + z) = none) ∨ (∃ n f, s.1 = nI n ∧ x_get s.2 m 7 33 = some (.int (nI f)) ∧ n < 2 ^ 30 ∧ f ≤ 14 ∧ ∀ n' f', A (gm G * 512 * 8 + z) = some (n', f') → n ≤ n' ∧ (n' = n → f ≤ f'))) → ∃ s' : Int32 × xH, f_X7_fewest_L20 m (k + 1) s.1 (nI (gm G * 512 * 8 + z)) s.2 = f_X7_fewest_L20 m k s'.1 (nI (gm G * 512 * 8 + (z + 1))) s'.2 ∧ SX s'.2 m af ab G em fe A ∧ Fr (fun a k => a = m ∧ k = 33) (fun _ => False) h s'.2 ∧ ((s'.1 = -1 ∧ (∀ j, j < z + 1 → A (gm G * 512 * 8 + j) = none) ∧ ∃ y, x_get s'.2 m 7 33 = some (.int y)) ∨ ∃ n f, s'.1 = nI n ∧ n < 2 ^ 30 ∧ f ≤ 14 ∧ x_get s'.2 m 7 33 = some (.int (nI f)) ∧ (∃ j, j < z + 1 ∧ A (gm G * 512 * 8 + j) = some (n, f)) ∧ ∀ j n' f', j < z + 1 → A (gm G * 512 * 8 + j) = some (n', f') → n ≤ n' ∧ (n' = n → f ≤ f')) := by
        intro b hb eb hcase
        refine ⟨(b, s.2), hb, c1, c2, ?_⟩
        subst eb
        rcases c3 with ⟨b1, b2, b3⟩ | ⟨n, f, b1, b2, b3, b4, ⟨j0, b5, b6⟩, b7⟩
        · left
          refine ⟨b1, fun j hj => ?_, b3⟩
          by_cases ej : j = z
          · subst ej
            rcases hcase with hc | ⟨n, f, hc, -, hl, -⟩
            · exact hc.2
            · rw [b1] at hc; exact absurd hc.symm (nI_nm1 hl)
          · exact b2 j (by omega)
        · right
          refine ⟨n, f, b1, b2, b3, b4, ⟨j0, by omega, b6⟩, fun j n' f' hj e => ?_⟩
          by_cases ej : j = z
          · subst ej
            rcases hcase with hc | ⟨n2, f2, hc, hg33, hl, hf2, hx⟩
            · rw [b1] at hc; exact absurd hc.1 (nI_nm1 b2)
            · have en : n2 = n := by rw [b1] at hc; exact ((nI_eq (by omega) (by omega)).mp hc).symm
              have ef : f2 = f := by
                rw [b4] at hg33
                have : nI f = nI f2 := by injection hg33 with w; injection w
                exact ((nI_eq (by omega) (by omega)).mp this).symm
              subst en ef
              exact hx n' f' e
          · exact b7 j n' f' (by omega) e
      have take : ∀ (n f : Nat), A (gm G * 512 * 8 + z) = some (n, f) → (∃ y, x_get s.2 m 7 33 = some (.int y)) → (∀ h12, x_put s.2 m 7 33 (.int (nI f)) = some h12 → f_X7_fewest_L20 m (k + 1) s.1 (nI (gm G * 512 * 8 + z)) s.2 = f_X7_fewest_L20 m k (nI n) (nI (gm G * 512 * 8 + (z + 1))) h12) → (∀ j n' f', j < z → A (gm G * 512 * 8 + j) = some (n', f') → n ≤ n' ∧ (n' = n → f ≤ f')) → ∃ s' : Int32 × xH, f_X7_fewest_L20 m (k + 1) s.1 (nI (gm G * 512 * 8 + z)) s.2 = f_X7_fewest_L20 m k s'.1 (nI (gm G * 512 * 8 + (z + 1))) s'.2 ∧ SX s'.2 m af ab G em fe A ∧ Fr (fun a k => a = m ∧ k = 33) (fun _ => False) h s'.2 ∧ ((s'.1 = -1 ∧ (∀ j, j < z + 1 → A (gm G * 512 * 8 + j) = none) ∧ ∃ y, x_get s'.2 m 7 33 = some (.int y)) ∨ ∃ n f, s'.1 = nI n ∧ n < 2 ^ 30 ∧ f ≤ 14 ∧ x_get s'.2 m 7 33 = some (.int (nI f)) ∧ (∃ j, j < z + 1 ∧ A (gm G * 512 * 8 + j) = some (n, f)) ∧ ∀ j n' f', j < z + 1 → A (gm G * 512 * 8 + j) = some (n', f') → n ≤ n' ∧ (n' = n → f ≤ f')) := by
        intro n f e ⟨y, gy⟩ hst hmin
        obtain ⟨h12, p1, p2, p3⟩ := w_put gy (.int (nI f))
        have bd := c1.bnd hzl e
        refine ⟨(nI n, h12), hst h12 p1, c1.fr p3 (fun k _ _ z => by omega) (fun z => z) (fun z => z) (fun z => z) (fun z => z), c2.trans p3, Or.inr ⟨n, f, rfl, bd.1, bd.2, p2, ⟨z, by omega, e⟩, fun j n' f' hj e' => ?_⟩⟩
        by_cases ej : j = z
        · subst ej; rw [e] at e'; cases e'; exact ⟨Nat.le_refl _, fun _ => Nat.le_refl _⟩
        · exact hmin j n' f' (by omega) e'
      have s33 : ∃ y, x_get s.2 m 7 33 = some (.int y) := by
        rcases c3 with ⟨-, -, b3⟩ | ⟨n, f, -, -, -, b4, -⟩
        · exact b3
        · exact ⟨_, b4⟩
      cases e : A (gm G * 512 * 8 + z) with
      | none =>
        refine keep s.1 ?_ rfl ?_
        · rw [f_X7_fewest_L20, a1, Option.bind_some, a2, pre, c1.far, Option.bind_some, c1.ldF ok hzl, e, Option.bind_some, if_pos rfl, Option.bind_some, nI_1]
          rfl
        · rcases c3 with ⟨b1, -, -⟩ | ⟨n, f, b1, b2, b3, b4, -, -⟩
          · exact Or.inl ⟨b1, e⟩
          · exact Or.inr ⟨n, f, b1, b4, b2, b3, fun n' f' e' => by rw [e] at e'; cases e'⟩
      | some p =>
        obtain ⟨n, f⟩ := p
        have bd := c1.bnd hzl e
        have lB := c1.ldB ok hzl e
        have lF : x_ld s.2 af (nI (gm G * 512 * 8 + z)) = some (nI n) := by rw [c1.ldF ok hzl, e]
        have st : f_X7_fewest_L20 m (k + 1) s.1 (nI (gm G * 512 * 8 + z)) s.2 = if s.1 = -1 then (x_put s.2 m 7 33 (.int (nI f))).bind fun h12 => f_X7_fewest_L20 m k (nI n) (nI (gm G * 512 * 8 + (z + 1))) h12 else if nI n < s.1 then (x_put s.2 m 7 33 (.int (nI f))).bind fun h12 => f_X7_fewest_L20 m k (nI n) (nI (gm G * 512 * 8 + (z + 1))) h12 else if nI n = s.1 then (x_gI s.2 m 7 33).bind fun x26 => if x26 ≤ nI f then f_X7_fewest_L20 m k s.1 (nI (gm G * 512 * 8 + (z + 1))) s.2 else (x_put s.2 m 7 33 (.int (nI f))).bind fun h12 => f_X7_fewest_L20 m k (nI n) (nI (gm G * 512 * 8 + (z + 1))) h12 else f_X7_fewest_L20 m k s.1 (nI (gm G * 512 * 8 + (z + 1))) s.2 := by
          rw [f_X7_fewest_L20, a1, Option.bind_some, a2, pre]
          simp only [c1.far, Option.bind_some, lF, c1.by_, lB, nI_1]
          rw [if_neg (nI_nm1 bd.1)]
          rfl
        rcases c3 with ⟨b1, b2, b3⟩ | ⟨n0, f0, b1, b2, b3, b4, ⟨j0, b5, b6⟩, b7⟩
        · refine take n f e s33 (fun h12 p => ?_) (fun j n' f' hj e' => by rw [b2 j hj] at e'; cases e')
          rw [st, if_pos b1, p, Option.bind_some]
        · rw [if_neg (by rw [b1]; exact nI_nm1 b2)] at st
          by_cases l1 : n < n0
          · refine take n f e s33 (fun h12 p => ?_) (fun j n' f' hj e' => by have := b7 j n' f' hj e'; omega)
            rw [st, if_pos (by rw [b1]; exact nI_lt l1 (by omega)), p, Option.bind_some]
          · rw [if_neg (by rw [b1]; exact nI_nlt (by omega) (by omega))] at st
            by_cases l2 : n = n0
            · rw [if_pos (by rw [b1, l2]), g_I b4, Option.bind_some] at st
              by_cases l3 : f0 ≤ f
              · rw [if_pos (nI_le l3 (by omega))] at st
                exact keep s.1 st rfl (Or.inr ⟨n0, f0, b1, b4, b2, b3, fun n' f' e' => by rw [e] at e'; cases e'; exact ⟨by omega, fun _ => l3⟩⟩)
              · rw [if_neg (nI_ge (by omega) (by omega))] at st
                refine take n f e s33 (fun h12 p => ?_) (fun j n' f' hj e' => by have := b7 j n' f' hj e'; exact ⟨by omega, fun w => by have := this.2 (by omega); omega⟩)
                rw [st, p, Option.bind_some]
            · rw [if_neg (by rw [b1]; exact fun w => l2 ((nI_eq (by omega) (by omega)).mp w))] at st
              exact keep s.1 st rfl (Or.inr ⟨n0, f0, b1, b4, b2, b3, fun n' f' e' => by rw [e] at e'; cases e'; exact ⟨by omega, fun w => absurd w l2⟩⟩))
  obtain ⟨s, es, c1, c2, c3⟩ := this
  refine ⟨s.2, s.1, ?_, c1, c2, ?_⟩
  · unfold f_X7_fewest
    rw [show (14 : Int32) = nI 14 from rfl] at *
    rw [e1, Option.bind_some, q1.gm_, Option.bind_some, Option.bind_some, show nI (gm G) * 512 * 8 = nI (gm G * 512 * 8 + 0) by show nI (gm G) * nI 512 * nI 8 = _; rw [pk_mul, pk_mul]; rfl, show f_X7_fewest_L20 m N (-1) (nI (gm G * 512 * 8 + 0)) h1 = some s from es]
    rfl
  · have key : ∀ n f x r, R G n f (gm G) x r → ∃ j n' f', j < 4096 ∧ A (gm G * 512 * 8 + j) = some (n', f') ∧ n' ≤ n ∧ (n' = n → f' ≤ f) := by
      intro n f x r hR
      have i := R_in ok hR
      have hx : x < 512 := Nat.lt_of_lt_of_le i.2.1 (pow9 ok)
      obtain ⟨n', f', a, b, c⟩ := hf.all ok hR
      exact ⟨x * 8 + r, n', f', by have := i.2.2.1; omega, by rw [show gm G * 512 * 8 + (x * 8 + r) = enc (gm G) x r by unfold enc; omega]; exact a, b, c⟩
    rcases c3 with ⟨b1, b2, b3⟩ | ⟨n, f, b1, b2, b3, b4, ⟨j0, b5, b6⟩, b7⟩
    · left
      refine ⟨b1, ?_, b3⟩
      intro n f x r hR
      obtain ⟨j, n', f', a1, a2, -⟩ := key n f x r hR
      rw [b2 j a1] at a2
      cases a2
    · right
      refine ⟨n, f, b1, b2, ⟨⟨(gm G * 512 * 8 + j0) / 8 % 512, (gm G * 512 * 8 + j0) % 8, ?_⟩, ?_⟩, b4⟩
      · have := hf.1 _ n f (show gm G * 512 * 8 + j0 < gN G by omega) b6
        rw [show (gm G * 512 * 8 + j0) / 8 / 512 = gm G by omega] at this
        exact this
      · intro n' f' x r hR
        obtain ⟨j, n2, f2, a1, a2, a3, a4⟩ := key n' f' x r hR
        have := b7 j n2 f2 a1 a2
        exact ⟨by omega, fun w => by have w1 := this.2 (by omega); have w2 := a4 (by omega); omega⟩
end SX
