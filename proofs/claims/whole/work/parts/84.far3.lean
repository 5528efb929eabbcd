/-! The reference's search: opening on; all of findComing. -/
/-- what is in the row of sets that are enough -/
def EnOk (G : GP) (em : Nat) (fe : Nat → Int32) : Prop := em ≤ 512 ∧ (∀ k, k < em → ∃ s, fe k = nI s ∧ s < 2 ^ hD (gH G) ∧ sEn (gH G) (nI s) = true) ∧ ∀ s, s < 2 ^ hD (gH G) → sEn (gH G) (nI s) = true → ∃ k, k < em ∧ fe k = nI s
section SX
variable {h h' : xH} {m af ab em N n : Nat} {G : GP} {fe : Nat → Int32} {A : AT} {H : HS}
/-- opening door d from z with the sets of the row -/
theorem sx_79 (q : SX h m af ab G em fe A) (ok : GOk G) (sp : sep m af ab) (hg : ∀ j, j < gm G → gg G j < 2 ^ 31) (hE : EnOk G em fe) {z f d : Nat} {f0 : Bool} (hz : z < gN G) (hn : n + 1 < 2 ^ 30) (e : A z = some (n, f)) (hs : Snd G A) (qh : MH h m (gX G (z / 8 % 512) (z % 8))) (hd : d < hD (gH G)) (hN : 1000 ≤ N) :
    ∃ s' : Int32 × xH, f_X7_opensOn_L79 N m (nI (gp G)) (nI n) (nI z) (gS G (z / 8 % 512) (z % 8)) (nI d) N (bI f0) 0 h = some s' ∧ ∃ A' fl, s'.1 = bI fl ∧ SX s'.2 m af ab G em fe A' ∧ MH s'.2 m (gX G (z / 8 % 512) (z % 8)) ∧ Wg G (n + 1) A A' f0 fl True ∧ (∀ s, opn G (z / 8 % 512) (z % 8) d s → cov A' (enc (adv (Qr (gg G) (z % 8)) (gm G) (z / 8 / 512)) (opx (z / 8 % 512) s d) (z % 8)) (n + 1) (fst1 n d f)) ∧ FrS m af ab h s'.2 := by
  have hRz := hs z n f hz e
  have i := R_in ok hRz
  have ok' := gX_ok ok i.2.1 i.2.2.1
  have h9 := ok.2.1
  have hz2 := Nat.lt_of_lt_of_le hz (gN_le ok)
  have bf := (q.bnd hz e).2
  have bf1 : fst1 n d f ≤ 14 := by unfold fst1; split <;> omega
  have hd' : d < hD (gX G (z / 8 % 512) (z % 8)) := hd
  have e8 : x_idiv (nI z) 8 = some (nI (z / 8)) := x_idiv_n (d := 8) (by omega) (by decide) (by decide)
  have e512 : x_idiv (nI (z / 8)) 512 = some (nI (z / 8 / 512)) := x_idiv_n (d := 512) (by omega) (by decide) (by decide)
  have := lp0 (L := fun k (s : Int32 × xH) j => f_X7_opensOn_L79 N m (nI (gp G)) (nI n) (nI z) (gS G (z / 8 % 512) (z % 8)) (nI d) k s.1 (nI j) s.2)
    (I := fun j s => ∃ A' fl, s.1 = bI fl ∧ SX s.2 m af ab G em fe A' ∧ MH s.2 m (gX G (z / 8 % 512) (z % 8)) ∧ Wg G (n + 1) A A' f0 fl True ∧ A' z = some (n, f) ∧ (∀ j' s, j' < j → fe j' = nI s → opn G (z / 8 % 512) (z % 8) d s → cov A' (enc (adv (Qr (gg G) (z % 8)) (gm G) (z / 8 / 512)) (opx (z / 8 % 512) s d) (z % 8)) (n + 1) (fst1 n d f)) ∧ FrS m af ab h s.2)
    (R := fun s => ∃ A' fl, s.1 = bI fl ∧ SX s.2 m af ab G em fe A' ∧ MH s.2 m (gX G (z / 8 % 512) (z % 8)) ∧ Wg G (n + 1) A A' f0 fl True ∧ (∀ s, opn G (z / 8 % 512) (z % 8) d s → cov A' (enc (adv (Qr (gg G) (z % 8)) (gm G) (z / 8 / 512)) (opx (z / 8 % 512) s d) (z % 8)) (n + 1) (fst1 n d f)) ∧ FrS m af ab h s.2) (D := em) (n := N) (s := (bI f0, h)) (by have := hE.1; omega)
    ⟨A, f0, rfl, q, qh, Wg.refl hs trivial, e, fun j' s hj => absurd hj (Nat.not_lt_zero _), FrS.refl⟩
    (fun k s hs => by
      obtain ⟨A', fl, c1, c2, c3, c4, c5, c6, c7⟩ := hs
      refine ⟨s, ?_, A', fl, c1, c2, c3, c4, ?_, c7⟩
      · show f_X7_opensOn_L79 N m (nI (gp G)) (nI n) (nI z) (gS G (z / 8 % 512) (z % 8)) (nI d) (k + 1) s.1 (nI em) s.2 = _
        rw [f_X7_opensOn_L79, c2.em_, Option.bind_some, if_pos (nI_le (Nat.le_refl _) (by have := hE.1; omega))]
      · intro s ho
        obtain ⟨j, hj, ej⟩ := hE.2.2 s ho.2.1 ho.2.2.2.2.1
        exact c6 j s hj ej ho)
    (fun k s j hj hs => by
      obtain ⟨A', fl, c1, c2, c3, c4, c5, c6, c7⟩ := hs
      have em5 := hE.1
      obtain ⟨u, eu, u1, u2⟩ := hE.2.1 j hj
      have eR : x_ld s.2 (m + 32) (nI (gp G)) = some (nI (z % 8)) := by
        rw [c3.ldR ok' (show gp G < hP (gX G (z / 8 % 512) (z % 8)) from ok.2.2.1)]
        exact congrArg some pk_us
      have eO : x_gI s.2 m 7 11 = some (nI (z / 8 % 512)) := c3.O
      have eE : x_ld s.2 (m + 35) (nI j) = some (nI u) := by rw [c2.2.2.2.2.2.2.2.1.ld (by omega) (by decide), eu]
      have st : f_X7_opensOn_L79 N m (nI (gp G)) (nI n) (nI z) (gS G (z / 8 % 512) (z % 8)) (nI d) (k + 1) s.1 (nI j) s.2 = if bI (!bt (nI (z / 8 % 512)) d && sOpens (gH G) d (nI (z % 8))) = 0 then some (bI fl, s.2) else if nI u &&& (gS G (z / 8 % 512) (z % 8) ^^^ (-1)) = 0 then (f_X7_comes s.2 m (nI (enc (adv (Qr (gg G) (z % 8)) (gm G) (z / 8 / 512)) (opx (z / 8 % 512) u d) (z % 8))) (nI (n + 1)) (nI (fst1 n d f))).bind fun q31 => f_X7_opensOn_L79 N m (nI (gp G)) (nI n) (nI z) (gS G (z / 8 % 512) (z % 8)) (nI d) k (bI fl ||| q31.1) (nI (j + 1)) q31.2 else f_X7_opensOn_L79 N m (nI (gp G)) (nI n) (nI z) (gS G (z / 8 % 512) (z % 8)) (nI d) k (bI fl) (nI (j + 1)) s.2 := by
        have eS : f_X7_stateOf N s.2 m (nI (z / 8 / 512)) ((nI (z / 8 % 512) &&& (nI u ^^^ (-1))) ||| i_shl 1 (nI d)) (nI (z % 8)) = some (nI (enc (adv (Qr (gg G) (z % 8)) (gm G) (z / 8 / 512)) (opx (z / 8 % 512) u d) (z % 8))) := by
          rw [show (nI (z / 8 % 512) &&& (nI u ^^^ (-1))) ||| i_shl 1 (nI d) = nI (opx (z / 8 % 512) u d) from (opx_I _ _ _).symm]
          exact sx_stateOf c2 ok hg i.1 i.2.2.1 (by omega)
        rw [f_X7_opensOn_L79, c2.em_, Option.bind_some, if_neg (nI_ge hj (by omega)), c3.rr, Option.bind_some, eR, Option.bind_some, c2.ob, Option.bind_some, m_canOpen c3 ok' hd', Option.bind_some, c2.en, Option.bind_some, eE, Option.bind_some, eO]
        simp only [Option.bind_some]
        rw [eE]
        simp only [Option.bind_some]
        rw [e8]
        simp only [Option.bind_some]
        rw [e512]
        simp only [Option.bind_some]
        rw [eR]
        simp only [Option.bind_some]
        rw [eS]
        simp only [Option.bind_some, c2.by_, c2.ldB ok hz c5, nI_1, c1]
        by_cases h0 : n = 0
        · have f1 : fst1 n d f = d := if_pos h0
          rw [f1, if_pos (show nI n = 0 by rw [h0]; rfl)]
          rfl
        · have f1 : fst1 n d f = f := if_neg h0
          rw [f1, if_neg (show ¬ nI n = 0 from nI_ne0 (by omega) (by omega))]
          rfl
      by_cases hc : (!bt (nI (z / 8 % 512)) d && sOpens (gH G) d (nI (z % 8))) = true
      · right
        rw [hc, if_neg (show ¬ bI true = 0 by decide)] at st
        simp only [Bool.and_eq_true, Bool.not_eq_true'] at hc
        by_cases hin : nI u &&& (gS G (z / 8 % 512) (z % 8) ^^^ (-1)) = 0
        · rw [if_pos hin] at st
          have ho : opn G (z / 8 % 512) (z % 8) d u := ⟨hd, u1, hc.1, hc.2, u2, hin⟩
          have hR2 := R_open hRz ho
          have i2 := R_in ok hR2
          have hx5 : opx (z / 8 % 512) u d < 512 := Nat.lt_of_lt_of_le i2.2.1 (pow9 ok)
          have dz := enc_dec (t := adv (Qr (gg G) (z % 8)) (gm G) (z / 8 / 512)) hx5 i.2.2.1
          have hlt := enc_lt (G := G) i2.1 hx5 i.2.2.1
          obtain ⟨h2, e2, q2, f2⟩ := sx_comes c2 ok sp hlt hn bf1
          have cw := c4.step hlt bf1 (by rw [dz.1, dz.2.1, dz.2.2]; exact hR2)
          have ex := cm_ext A' (enc (adv (Qr (gg G) (z % 8)) (gm G) (z / 8 / 512)) (opx (z / 8 % 512) u d) (z % 8)) (n + 1) (fst1 n d f)
          refine ⟨(bI (fl || bet A' (enc (adv (Qr (gg G) (z % 8)) (gm G) (z / 8 / 512)) (opx (z / 8 % 512) u d) (z % 8)) (n + 1) (fst1 n d f)), h2), ?_, _, _, rfl, q2, ?_, cw.mono (fun _ _ => trivial), ex.keep c5 (by omega), ?_, ?_⟩
          · show f_X7_opensOn_L79 N m (nI (gp G)) (nI n) (nI z) (gS G (z / 8 % 512) (z % 8)) (nI d) (k + 1) s.1 (nI j) s.2 = _
            rw [st, e2, Option.bind_some, bI_or]
          · exact c3.fr f2 (fun _ _ _ z => z) (fun a h1 h2 z => by have := sp.2.1; have := sp.2.2; omega)
          · intro j' s hj' es ho'
            by_cases ej : j' = j
            · subst ej
              rw [eu] at es
              have : s = u := ((nI_eq (x31 ok u1) (x31 ok ho'.2.1)).mp es).symm
              subst this
              exact cov_cm _ _ _ _
            · exact cov_ext ex (c6 j' s (by omega) es ho')
          · exact c7.trans (Fr.mono f2 (fun _ _ z => z.elim) (fun a z => by rcases z with z | z; exact Or.inl z; exact Or.inr (Or.inl z)))
        · rw [if_neg hin] at st
          refine ⟨(bI fl, s.2), ?_, A', fl, rfl, c2, c3, c4, c5, ?_, c7⟩
          · show f_X7_opensOn_L79 N m (nI (gp G)) (nI n) (nI z) (gS G (z / 8 % 512) (z % 8)) (nI d) (k + 1) s.1 (nI j) s.2 = _
            rw [st]
          · intro j' s hj' es ho'
            by_cases ej : j' = j
            · subst ej
              rw [eu] at es
              rw [es] at hin
              exact absurd ho'.2.2.2.2.2 hin
            · exact c6 j' s (by omega) es ho'
      · left
        have hcf : (!bt (nI (z / 8 % 512)) d && sOpens (gH G) d (nI (z % 8))) = false := by simpa using hc
        rw [hcf, if_pos (show bI false = 0 from rfl)] at st
        refine ⟨(bI fl, s.2), ?_, A', fl, rfl, c2, c3, c4, ?_, c7⟩
        · show f_X7_opensOn_L79 N m (nI (gp G)) (nI n) (nI z) (gS G (z / 8 % 512) (z % 8)) (nI d) (k + 1) s.1 (nI j) s.2 = _
          rw [st]
        · intro s ho'
          exact absurd (by rw [ho'.2.2.1, ho'.2.2.2.1]; rfl) hc)
  obtain ⟨s', e1, A', fl, r⟩ := this
  exact ⟨s', e1, A', fl, r⟩
/-- all doors from z -/
theorem sx_67 (q : SX h m af ab G em fe A) (ok : GOk G) (sp : sep m af ab) (hg : ∀ j, j < gm G → gg G j < 2 ^ 31) (hE : EnOk G em fe) {z f : Nat} {f0 : Bool} (hz : z < gN G) (hn : n + 1 < 2 ^ 30) (e : A z = some (n, f)) (hs : Snd G A) (qh : MH h m (gX G (z / 8 % 512) (z % 8))) (hN : 1000 ≤ N) :
    ∃ s' : Int32 × xH, f_X7_opensOn_L67 N m (nI (gp G)) (nI n) (nI z) (gS G (z / 8 % 512) (z % 8)) N (bI f0) 0 h = some s' ∧ ∃ A' fl, s'.1 = bI fl ∧ SX s'.2 m af ab G em fe A' ∧ MH s'.2 m (gX G (z / 8 % 512) (z % 8)) ∧ Wg G (n + 1) A A' f0 fl True ∧ (∀ d s, opn G (z / 8 % 512) (z % 8) d s → cov A' (enc (adv (Qr (gg G) (z % 8)) (gm G) (z / 8 / 512)) (opx (z / 8 % 512) s d) (z % 8)) (n + 1) (fst1 n d f)) ∧ FrS m af ab h s'.2 := by
  have h9 := ok.2.1
  have := lp0 (L := fun k (s : Int32 × xH) d => f_X7_opensOn_L67 N m (nI (gp G)) (nI n) (nI z) (gS G (z / 8 % 512) (z % 8)) k s.1 (nI d) s.2)
    (I := fun d s => ∃ A' fl, s.1 = bI fl ∧ SX s.2 m af ab G em fe A' ∧ MH s.2 m (gX G (z / 8 % 512) (z % 8)) ∧ Wg G (n + 1) A A' f0 fl True ∧ A' z = some (n, f) ∧ (∀ d' s, d' < d → opn G (z / 8 % 512) (z % 8) d' s → cov A' (enc (adv (Qr (gg G) (z % 8)) (gm G) (z / 8 / 512)) (opx (z / 8 % 512) s d') (z % 8)) (n + 1) (fst1 n d' f)) ∧ FrS m af ab h s.2)
    (R := fun s => ∃ A' fl, s.1 = bI fl ∧ SX s.2 m af ab G em fe A' ∧ MH s.2 m (gX G (z / 8 % 512) (z % 8)) ∧ Wg G (n + 1) A A' f0 fl True ∧ (∀ d s, opn G (z / 8 % 512) (z % 8) d s → cov A' (enc (adv (Qr (gg G) (z % 8)) (gm G) (z / 8 / 512)) (opx (z / 8 % 512) s d) (z % 8)) (n + 1) (fst1 n d f)) ∧ FrS m af ab h s.2) (D := hD (gH G)) (n := N) (s := (bI f0, h)) (by omega)
    ⟨A, f0, rfl, q, qh, Wg.refl hs trivial, e, fun j' s hj => absurd hj (Nat.not_lt_zero _), FrS.refl⟩
    (fun k s hs => by
      obtain ⟨A', fl, c1, c2, c3, c4, c5, c6, c7⟩ := hs
      refine ⟨s, ?_, A', fl, c1, c2, c3, c4, fun d s ho => c6 d s ho.1 ho, c7⟩
      show f_X7_opensOn_L67 N m (nI (gp G)) (nI n) (nI z) (gS G (z / 8 % 512) (z % 8)) (k + 1) s.1 (nI (hD (gH G))) s.2 = _
      rw [f_X7_opensOn_L67, show x_gI s.2 m 7 9 = some (nI (hD (gH G))) from c3.D, Option.bind_some, if_pos (nI_le (Nat.le_refl _) (by omega))])
    (fun k s d hd hs => by
      right
      obtain ⟨A', fl, c1, c2, c3, c4, c5, c6, c7⟩ := hs
      obtain ⟨s', e3, A2, fl2, d1, d2, d3, d4, d5, d6⟩ := sx_79 (N := N) (f0 := fl) c2 ok sp hg hE hz hn c5 c4.2.1 c3 hd hN
      refine ⟨s', ?_, A2, fl2, d1, d2, d3, (c4.trans d4).mono (fun _ _ => trivial), d4.1.keep c5 (by omega), ?_, c7.trans d6⟩
      · show f_X7_opensOn_L67 N m (nI (gp G)) (nI n) (nI z) (gS G (z / 8 % 512) (z % 8)) (k + 1) s.1 (nI d) s.2 = _
        rw [f_X7_opensOn_L67, show x_gI s.2 m 7 9 = some (nI (hD (gH G))) from c3.D, Option.bind_some, if_neg (nI_ge hd (by omega)), c1, e3, Option.bind_some, Option.bind_some, nI_1]
      · intro d' s hd' ho
        by_cases ed : d' = d
        · subst ed; exact d5 s ho
        · exact cov_ext d4.1 (c6 d' s (by omega) ho))
  obtain ⟨s', e1, A', fl, r⟩ := this
  exact ⟨s', e1, A', fl, r⟩
/-- opening on: all states of n openings -/
theorem sx_opens (q : SX h m af ab G em fe A) (ok : GOk G) (sp : sep m af ab) (hg : ∀ j, j < gm G → gg G j < 2 ^ 31) (hE : EnOk G em fe) {x0 r0 : Nat} (hn : n + 1 < 2 ^ 30) (hs : Snd G A) (hL : LeA (gN G) n A) (hx0 : x0 < 2 ^ hD (gH G)) (hr0 : r0 < 8) (qh : MH h m (gX G x0 r0)) (hN : 30000 ≤ N) :
    ∃ h' fl, f_X7_opensOn N h m (nI (gp G)) (nI n) = some (bI fl, h') ∧ ∃ A' x r, SX h' m af ab G em fe A' ∧ x < 2 ^ hD (gH G) ∧ r < 8 ∧ MH h' m (gX G x r) ∧ Wg G (n + 1) A A' false fl True ∧ OC G n A' ∧ FrS m af ab h h' := by
  have hgN := gN_le ok
  have := lp0 (L := fun k (s : Int32 × xH) z => f_X7_opensOn_L5 N m (nI (gp G)) (nI n) k s.1 (nI z) s.2)
    (I := fun z s => ∃ A' fl x r, s.1 = bI fl ∧ SX s.2 m af ab G em fe A' ∧ x < 2 ^ hD (gH G) ∧ r < 8 ∧ MH s.2 m (gX G x r) ∧ Wg G (n + 1) A A' false fl True ∧ (∀ z' f d u, z' < z → A' z' = some (n, f) → opn G (z' / 8 % 512) (z' % 8) d u → cov A' (enc (adv (Qr (gg G) (z' % 8)) (gm G) (z' / 8 / 512)) (opx (z' / 8 % 512) u d) (z' % 8)) (n + 1) (fst1 n d f)) ∧ FrS m af ab h s.2)
    (R := fun s => ∃ A' fl x r, s.1 = bI fl ∧ SX s.2 m af ab G em fe A' ∧ x < 2 ^ hD (gH G) ∧ r < 8 ∧ MH s.2 m (gX G x r) ∧ Wg G (n + 1) A A' false fl True ∧ (∀ z' f d u, z' < gN G → A' z' = some (n, f) → opn G (z' / 8 % 512) (z' % 8) d u → cov A' (enc (adv (Qr (gg G) (z' % 8)) (gm G) (z' / 8 / 512)) (opx (z' / 8 % 512) u d) (z' % 8)) (n + 1) (fst1 n d f)) ∧ FrS m af ab h s.2) (D := gN G) (n := N) (s := (bI false, h)) (by omega)
    ⟨A, false, x0, r0, rfl, q, hx0, hr0, qh, Wg.refl hs trivial, fun z f d u hz => absurd hz (Nat.not_lt_zero _), FrS.refl⟩
    (fun k s hs => by
      refine ⟨s, ?_, hs⟩
      obtain ⟨A', fl, x, r, c1, c2, -⟩ := hs
      obtain ⟨y, e1, e2⟩ := gN_I c2
      show f_X7_opensOn_L5 N m (nI (gp G)) (nI n) (k + 1) s.1 (nI (gN G)) s.2 = _
      rw [f_X7_opensOn_L5, e1, Option.bind_some, e2, if_pos (nI_le (Nat.le_refl _) (by omega))])
    (fun k s z hz hs => by
      right
      obtain ⟨A', fl, x, r, c1, c2, c3, c4, c5, c6, c7, c8⟩ := hs
      obtain ⟨y, e1, e2⟩ := gN_I c2
      have e8 : x_idiv (nI z) 8 = some (nI (z / 8)) := x_idiv_n (d := 8) (by omega) (by decide) (by decide)
      have r8 : x_irem (nI z) 8 = some (nI (z % 8)) := x_irem_n (d := 8) (by omega) (by decide) (by decide)
      have r512 : x_irem (nI (z / 8)) 512 = some (nI (z / 8 % 512)) := x_irem_n (d := 512) (by omega) (by decide) (by decide)
      have st : f_X7_opensOn_L5 N m (nI (gp G)) (nI n) (k + 1) s.1 (nI z) s.2 = if (match A' z with | none => (-1 : Int32) | some p => nI p.1) = nI n then (x_st s.2 (m + 32) (nI (gp G)) (nI (z % 8))).bind fun h6 => (x_put h6 m 7 11 (.int (nI (z / 8 % 512)))).bind fun h9 => (x_ob h9 m 7).bind fun _ => (f_X7_shuttable N h9 m).bind fun q11 => (f_X7_opensOn_L67 N m (nI (gp G)) (nI n) (nI z) q11 N (bI fl) 0 h9).bind fun q48 => f_X7_opensOn_L5 N m (nI (gp G)) (nI n) k q48.1 (nI (z + 1)) q48.2 else f_X7_opensOn_L5 N m (nI (gp G)) (nI n) k (bI fl) (nI (z + 1)) s.2 := by
        rw [f_X7_opensOn_L5, e1, Option.bind_some, e2, if_neg (nI_ge hz (by omega)), c2.far, Option.bind_some, c2.ldF ok hz, Option.bind_some, c5.rr, Option.bind_some, r8, Option.bind_some, e8]
        simp only [Option.bind_some]
        rw [r512]
        simp only [Option.bind_some, nI_1, c1]
        rfl
      have skip : (match A' z with | none => (-1 : Int32) | some p => nI p.1) ≠ nI n → (∀ f, A' z ≠ some (n, f)) → ∃ s' : Int32 × xH, f_X7_opensOn_L5 N m (nI (gp G)) (nI n) (k + 1) s.1 (nI z) s.2 = f_X7_opensOn_L5 N m (nI (gp G)) (nI n) k s'.1 (nI (z + 1)) s'.2 ∧ ∃ A' fl x r, s'.1 = bI fl ∧ SX s'.2 m af ab G em fe A' ∧ x < 2 ^ hD (gH G) ∧ r < 8 ∧ MH s'.2 m (gX G x r) ∧ Wg G (n + 1) A A' false fl True ∧ (∀ z' f d u, z' < z + 1 → A' z' = some (n, f) → opn G (z' / 8 % 512) (z' % 8) d u → cov A' (enc (adv (Qr (gg G) (z' % 8)) (gm G) (z' / 8 / 512)) (opx (z' / 8 % 512) u d) (z' % 8)) (n + 1) (fst1 n d f)) ∧ FrS m af ab h s'.2 := by
        intro h1 h2
        refine ⟨(bI fl, s.2), ?_, A', fl, x, r, rfl, c2, c3, c4, c5, c6, ?_, c8⟩
        · rw [st, if_neg h1]
        · intro z' f d u hz' e ho
          by_cases ez : z' = z
          · subst ez; exact absurd e (h2 f)
          · exact c7 z' f d u (by omega) e ho
      cases e : A' z with
      | none =>
        rw [e] at skip
        exact skip (fun w => nI_nm1 (by omega) w.symm) (fun f w => by cases w)
      | some p =>
        obtain ⟨j, f⟩ := p
        have bd := c2.bnd hz e
        by_cases hj : j = n
        · subst hj
          have i := R_in ok (c6.2.1 z _ _ hz e)
          obtain ⟨h6, p1, p2, p3⟩ := c5.stR' ok.1.2.1 ok.2.2.1 (nI (z % 8))
          rw [gX_R] at p2
          obtain ⟨h9, t1, t2, t3⟩ := p2.putO' (nI (z / 8 % 512))
          rw [gX_O] at t2
          have c26 : SX h6 m af ab G em fe A' := c2.fr p3 (fun k h1 h2 z => z) (fun z => by have := sp.2.1; omega) (fun z => by have := sp.2.2; omega) (fun z => by omega) (fun z => by omega)
          have c27 : SX h9 m af ab G em fe A' := c26.fr t3 (fun k h1 h2 z => by omega) (fun z => z) (fun z => z) (fun z => z) (fun z => z)
          have ok' := gX_ok ok i.2.1 i.2.2.1
          obtain ⟨s', e3, A2, fl2, d1, d2, d3, d4, d5, d6⟩ := sx_67 (N := N) (f0 := fl) c27 ok sp hg hE hz hn e c6.2.1 t2 (by omega)
          refine ⟨s', ?_, A2, fl2, z / 8 % 512, z % 8, d1, d2, i.2.1, i.2.2.1, d3, (c6.trans d4).mono (fun _ _ => trivial), ?_, c8.trans (FrS.trans (Fr.mono p3 (fun a k z => z.elim) (fun _ z => Or.inr (Or.inr (Or.inl z)))) (FrS.trans (Fr.mono t3 (fun a k z => ⟨z.1, Or.inl z.2⟩) (fun _ z => z.elim)) d6))⟩
          · show f_X7_opensOn_L5 N m (nI (gp G)) (nI j) (k + 1) s.1 (nI z) s.2 = _
            have eS : f_X7_shuttable N h9 m = some (gS G (z / 8 % 512) (z % 8)) := m_shuttable t2 ok' (by omega)
            rw [st, e, if_pos rfl, p1, Option.bind_some, t1, Option.bind_some, c27.ob, Option.bind_some, eS, Option.bind_some, e3, Option.bind_some]
          · intro z' f' d u hz' e' ho
            have e'' := d4.1.back e' (by omega)
            by_cases ez : z' = z
            · subst ez
              rw [e] at e''
              cases e''
              exact d5 d u ho
            · exact cov_ext d4.1 (c7 z' f' d u (by omega) e'' ho)
        · rw [e] at skip
          exact skip (fun w => hj ((nI_eq (by omega) (by omega)).mp w)) (fun f w => by cases w; exact hj rfl))
  obtain ⟨s', e1, A', fl, x, r, c1, c2, c3, c4, c5, c6, c7, c8⟩ := this
  refine ⟨s'.2, fl, ?_, A', x, r, c2, c3, c4, c5, c6, ?_, c8⟩
  · unfold f_X7_opensOn
    rw [show f_X7_opensOn_L5 N m (nI (gp G)) (nI n) N 0 0 h = some s' from e1, Option.bind_some, c1, x_bool_bI]
    rfl
  · intro z f d u hz e ho
    obtain ⟨n', f', g1, g2⟩ := c7 z f d u hz e ho
    refine ⟨n', f', g1, ?_, g2⟩
    have hR2 := R_open (c6.2.1 z n f hz e) ho
    have i2 := R_in ok hR2
    have hLe : LeA (gN G) (n + 1) A' := hL.ext c6.1 (by omega)
    exact hLe _ n' f' (enc_lt i2.1 (Nat.lt_of_lt_of_le i2.2.1 (pow9 ok)) i2.2.2.1) g1
end SX
