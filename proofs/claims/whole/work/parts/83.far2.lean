/-! The reference's search: walking on, opening on. -/
theorem lpM {σ β : Type} {L : Nat → σ → Option β} {I : Nat → σ → Prop} {R : β → Prop} (h : ∀ k c s, I c s → (∃ b, L (k + 1) s = some b ∧ R b) ∨ ∃ s' c', c' < c ∧ L (k + 1) s = L k s' ∧ I c' s') : ∀ (k c : Nat) (s : σ), c < k → I c s → ∃ b, L k s = some b ∧ R b
  | 0, _, _, hk, _ => absurd hk (Nat.not_lt_zero _)
  | k + 1, c, s, hk, hs => by
    rcases h k c s hs with r | ⟨s', c', hc, e, hs'⟩
    · exact r
    · rw [e]
      exact lpM h k c' s' (by omega) hs'
def cov (A : AT) (z n f : Nat) : Prop := ∃ n' f', A z = some (n', f') ∧ (n' = n → f' ≤ f)
theorem cov_cm (A : AT) (z n f : Nat) : cov (cmA A z n f) z n f := by
  unfold cmA
  by_cases hb : bet A z n f = true
  · rw [if_pos hb]
    exact ⟨n, f, if_pos rfl, fun _ => Nat.le_refl _⟩
  · rw [if_neg hb]
    unfold bet at hb
    cases e : A z with
    | none => rw [e] at hb; exact absurd rfl hb
    | some q =>
      rw [e] at hb
      refine ⟨q.1, q.2, e, fun h => ?_⟩
      simp only [Bool.and_eq_true, decide_eq_true_eq, not_and] at hb
      have := hb h
      omega
theorem cov_ext {A B : AT} {z n f k : Nat} (e : Ext k A B) (h : cov A z n f) : cov B z n f := by
  obtain ⟨n', f', e1, e2⟩ := h
  obtain ⟨f2, h1, h2⟩ := e.some_le e1
  exact ⟨n', f2, h1, fun x => Nat.le_trans h2 (e2 x)⟩
theorem cov_no {A : AT} {z n f : Nat} (hb : bet A z n f = false) : cov A z n f := by
  have := cov_cm A z n f
  rw [cm_no hb] at this
  exact this
def WC (G : GP) (k : Nat) (A : AT) : Prop := ∀ z f r', z < gN G → A z = some (k, f) → wk (gH G) (z / 8 % 512) (z % 8) r' → ∃ n' f', A (enc (adv (Qr (gg G) r') (gm G) (z / 8 / 512)) (z / 8 % 512) r') = some (n', f') ∧ n' ≤ k ∧ (n' = k → f' ≤ f)
def OC (G : GP) (k : Nat) (A : AT) : Prop := ∀ z f d s, z < gN G → A z = some (k, f) → opn G (z / 8 % 512) (z % 8) d s → ∃ n' f', A (enc (adv (Qr (gg G) (z % 8)) (gm G) (z / 8 / 512)) (opx (z / 8 % 512) s d) (z % 8)) = some (n', f') ∧ n' ≤ k + 1 ∧ (n' = k + 1 → f' ≤ fst1 k d f)
theorem WC.ext {G : GP} {k n : Nat} {A B : AT} (h : WC G k A) (e : Ext n A B) (hk : k < n) : WC G k B := by
  intro z f r' hz hA w
  obtain ⟨n', f', h1, h2, h3⟩ := h z f r' hz (e.back hA (by omega)) w
  exact ⟨n', f', e.keep h1 (by omega), h2, h3⟩
theorem OC.ext {G : GP} {k n : Nat} {A B : AT} (h : OC G k A) (e : Ext n A B) (hk : k < n) : OC G k B := by
  intro z f d s hz hA w
  obtain ⟨n', f', h1, h2, h3⟩ := h z f d s hz (e.back hA (by omega)) w
  obtain ⟨f2, g1, g2⟩ := e.some_le h1
  exact ⟨n', f2, g1, h2, fun x => Nat.le_trans g2 (h3 x)⟩
theorem LeA.ext {N k n : Nat} {A B : AT} (h : LeA N k A) (e : Ext n A B) (hk : k ≤ n) : LeA N n B := by
  intro z j f hz hB
  rcases e z with x | ⟨f1, x, -⟩
  · rw [x] at hB; exact Nat.le_trans (h z j f hz hB) hk
  · rw [x] at hB; cases hB; exact Nat.le_refl _
section SX
variable {h h' : xH} {m af ab em N n : Nat} {G : GP} {fe : Nat → Int32} {A : AT} {H : HS}
theorem MH.putO' (q : MH h m H) (x : Int32) : ∃ h', x_put h m 7 11 (.int x) = some h' ∧ MH h' m (sO H x) ∧ Fr (fun a k => a = m ∧ k = 11) (fun _ => False) h h' := by
  obtain ⟨h1, e1, q1, -⟩ := q.putO x
  obtain ⟨h2, e2, -, f2⟩ := w_put (q.1 11 (by decide) (by decide)) (.int x)
  rw [e1] at e2
  cases e2
  exact ⟨h1, e1, q1, f2⟩
theorem MH.stR' {p : Nat} (q : MH h m H) (h4 : hP H ≤ 4) (hp : p < hP H) (x : Int32) : ∃ h', x_st h (m + 32) (nI p) x = some h' ∧ MH h' m (sRm H p x) ∧ Fr (fun _ _ => False) (fun a => a = m + 32) h h' := by
  obtain ⟨h1, e1, q1, -⟩ := q.stR h4 hp x
  obtain ⟨-, -, fd, fr, -, a2, -⟩ := q
  obtain ⟨h2, e2, -, f2⟩ := w_st a2 (show p < 4 by omega) (by decide) x
  rw [e1] at e2
  cases e2
  exact ⟨h1, e1, q1, f2⟩
theorem upd_upd (f : Nat → Int32) (k : Nat) (x y : Int32) : upd (upd f k x) k y = upd f k y := by
  funext j
  by_cases e : j = k
  · subst e; rw [pk_us, pk_us]
  · rw [pk_un e, pk_un e, pk_un e]
theorem gX_O (x y r : Nat) : sO (gX G x r) (nI y) = gX G y r := rfl
theorem gX_R (x r s : Nat) : sRm (gX G x r) (gp G) (nI s) = gX G x s := by
  show (hD (gH G), hP (gH G), nI x, hL (gH G), hW (gH G), hS (gH G), hN (gH G), hK (gH G), hA (gH G), hB (gH G), upd (upd (hR (gH G)) (gp G) (nI r)) (gp G) (nI s)) = _
  rw [upd_upd]
  rfl
theorem gN_I (q : SX h m af ab G em fe A) : ∃ x, x_gI h m 7 30 = some x ∧ ((x + 1) * 512) * 8 = nI (gN G) := by
  refine ⟨_, q.gm_, ?_⟩
  show ((nI (gm G) + nI 1) * nI 512) * nI 8 = _
  rw [nI_add, pk_mul, pk_mul]
  rfl
/-- one pass of walking -/
theorem sx_10 (q : SX h m af ab G em fe A) (ok : GOk G) (sp : sep m af ab) (hg : ∀ j, j < gm G → gg G j < 2 ^ 31) {x0 r0 : Nat} (hn : n < 2 ^ 30) (hs : Snd G A) (hx0 : x0 < 2 ^ hD (gH G)) (hr0 : r0 < 8) (qh : MH h m (gX G x0 r0)) (hN : 30000 ≤ N) :
    ∃ s' : Int32 × xH, f_X7_walksOn_L10 N m (nI n) N 0 0 h = some s' ∧ ∃ A' fl x, s'.1 = bI fl ∧ SX s'.2 m af ab G em fe A' ∧ x < 2 ^ hD (gH G) ∧ MH s'.2 m (gX G x r0) ∧ Wg G n A A' false fl (∀ z f, z < gN G → A z = some (n, f) → ∀ d, d < hD (gH G) → nbW G A z n f d) ∧ FrS m af ab h s'.2 := by
  have hgN := gN_le ok
  have := lp0 (L := fun k (s : Int32 × xH) z => f_X7_walksOn_L10 N m (nI n) k s.1 (nI z) s.2)
    (I := fun z s => ∃ A' fl x, s.1 = bI fl ∧ SX s.2 m af ab G em fe A' ∧ x < 2 ^ hD (gH G) ∧ MH s.2 m (gX G x r0) ∧ Wg G n A A' false fl (∀ z' f, z' < z → A z' = some (n, f) → ∀ d, d < hD (gH G) → nbW G A z' n f d) ∧ FrS m af ab h s.2)
    (R := fun s => ∃ A' fl x, s.1 = bI fl ∧ SX s.2 m af ab G em fe A' ∧ x < 2 ^ hD (gH G) ∧ MH s.2 m (gX G x r0) ∧ Wg G n A A' false fl (∀ z' f, z' < gN G → A z' = some (n, f) → ∀ d, d < hD (gH G) → nbW G A z' n f d) ∧ FrS m af ab h s.2) (D := gN G) (n := N) (s := (bI false, h)) (by omega)
    ⟨A, false, x0, rfl, q, hx0, qh, Wg.refl hs (fun z f hz => absurd hz (Nat.not_lt_zero _)), FrS.refl⟩
    (fun k s hs => by
      refine ⟨s, ?_, hs⟩
      obtain ⟨A', fl, x, c1, c2, -⟩ := hs
      obtain ⟨y, e1, e2⟩ := gN_I c2
      show f_X7_walksOn_L10 N m (nI n) (k + 1) s.1 (nI (gN G)) s.2 = _
      rw [f_X7_walksOn_L10, e1, Option.bind_some, e2, if_pos (nI_le (Nat.le_refl _) (by omega))])
    (fun k s z hz hs => by
      right
      obtain ⟨A', fl, x, c1, c2, c3, c4, c5, c6⟩ := hs
      obtain ⟨y, e1, e2⟩ := gN_I c2
      have st : f_X7_walksOn_L10 N m (nI n) (k + 1) s.1 (nI z) s.2 = if (match A' z with | none => (-1 : Int32) | some p => nI p.1) = nI n then (x_put s.2 m 7 11 (.int (nI (z / 8 % 512)))).bind fun h7 => (f_X7_walksOn_L58 N m (nI n) (nI z) (nI (z % 8)) N (bI fl) 0 h7).bind fun q27 => f_X7_walksOn_L10 N m (nI n) k q27.1 (nI (z + 1)) q27.2 else f_X7_walksOn_L10 N m (nI n) k (bI fl) (nI (z + 1)) s.2 := by
        have e8 : x_idiv (nI z) 8 = some (nI (z / 8)) := x_idiv_n (d := 8) (by omega) (by decide) (by decide)
        have r8 : x_irem (nI z) 8 = some (nI (z % 8)) := x_irem_n (d := 8) (by omega) (by decide) (by decide)
        have r512 : x_irem (nI (z / 8)) 512 = some (nI (z / 8 % 512)) := x_irem_n (d := 512) (by omega) (by decide) (by decide)
        rw [f_X7_walksOn_L10, e1, Option.bind_some, e2, if_neg (nI_ge hz (by omega)), c2.far, Option.bind_some, c2.ldF ok hz, Option.bind_some, r8, Option.bind_some, e8, Option.bind_some, r512, Option.bind_some, Option.bind_some, nI_1, c1]
        rfl
      have skip : (match A' z with | none => (-1 : Int32) | some p => nI p.1) ≠ nI n → (∀ f, A' z ≠ some (n, f)) → ∃ s' : Int32 × xH, f_X7_walksOn_L10 N m (nI n) (k + 1) s.1 (nI z) s.2 = f_X7_walksOn_L10 N m (nI n) k s'.1 (nI (z + 1)) s'.2 ∧ ∃ A' fl x, s'.1 = bI fl ∧ SX s'.2 m af ab G em fe A' ∧ x < 2 ^ hD (gH G) ∧ MH s'.2 m (gX G x r0) ∧ Wg G n A A' false fl (∀ z' f, z' < z + 1 → A z' = some (n, f) → ∀ d, d < hD (gH G) → nbW G A z' n f d) ∧ FrS m af ab h s'.2 := by
        intro h1 h2
        refine ⟨(bI fl, s.2), ?_, A', fl, x, rfl, c2, c3, c4, c5.mono ?_, c6⟩
        · rw [st, if_neg h1]
        · intro hA hC z' f hz' e
          by_cases ez : z' = z
          · subst ez; rw [← hA] at e; exact absurd e (h2 f)
          · exact hC z' f (by omega) e
      cases e : A' z with
      | none =>
        rw [e] at skip
        exact skip (fun w => nI_nm1 hn w.symm) (fun f w => by cases w)
      | some p =>
        obtain ⟨j, f⟩ := p
        have bd := c2.bnd hz e
        by_cases hj : j = n
        · subst hj
          obtain ⟨h7, p1, p2, p3⟩ := c4.putO' (nI (z / 8 % 512))
          rw [gX_O] at p2
          have c27 : SX h7 m af ab G em fe A' := c2.fr p3 (fun k h1 h2 z => by omega) (fun z => z) (fun z => z) (fun z => z) (fun z => z)
          obtain ⟨s', e3, A2, fl2, d1, d2, d3, d4, d5⟩ := sx_58 (N := N) (f0 := fl) c27 ok sp hg hz hn e c5.2.1 hr0 p2 (by omega)
          refine ⟨s', ?_, A2, fl2, z / 8 % 512, d1, d2, (R_in ok (c5.2.1 z _ _ hz e)).2.1, d3, ((c5.mono (fun a b => And.intro a b)).trans d4).mono ?_, c6.trans (FrS.trans (Fr.mono p3 (fun a k z => ⟨z.1, Or.inl z.2⟩) (fun _ z => z.elim)) d5)⟩
          · show f_X7_walksOn_L10 N m (nI j) (k + 1) s.1 (nI z) s.2 = _
            rw [st, e, if_pos rfl, p1, Option.bind_some, e3, Option.bind_some]
          · intro _ hC z' f' hz' e'
            by_cases ez : z' = z
            · subst ez
              have e2' := e
              rw [hC.1.1] at e2'
              rw [e2'] at e'
              cases e'
              have := hC.2
              rw [hC.1.1] at this
              exact this
            · exact hC.1.2 z' f' (by omega) e'
        · rw [e] at skip
          exact skip (fun w => hj ((nI_eq (by omega) (by omega)).mp w)) (fun f w => by cases w; exact hj rfl))
  obtain ⟨s', e1, A', fl, r⟩ := this
  exact ⟨s', e1, A', fl, r⟩
/-- walking on until nothing changes -/
theorem sx_walks (q : SX h m af ab G em fe A) (ok : GOk G) (sp : sep m af ab) (hg : ∀ j, j < gm G → gg G j < 2 ^ 31) {x0 r0 : Nat} (hn : n < 2 ^ 30) (hs : Snd G A) (hL : LeA (gN G) n A) (hx0 : x0 < 2 ^ hD (gH G)) (hr0 : r0 < 8) (qh : MH h m (gX G x0 r0)) (hN : 700000 ≤ N) :
    ∃ h', f_X7_walksOn N h m (nI n) = some h' ∧ ∃ A' x, SX h' m af ab G em fe A' ∧ x < 2 ^ hD (gH G) ∧ MH h' m (gX G x r0) ∧ Ext n A A' ∧ Snd G A' ∧ mu (gN G) A' ≤ mu (gN G) A ∧ WC G n A' ∧ FrS m af ab h h' := by
  have hgN := gN_le ok
  have hmu : mu (gN G) A ≤ gN G * 16 := mu_le (fun z p hz e => (q.bnd (f := p.2) (n := p.1) hz e).2)
  have := lpM (L := fun k (s : Int32 × xH) => f_X7_walksOn_L2 N m (nI n) k s.1 s.2)
    (I := fun c s => ∃ A' fl x, s.1 = bI fl ∧ SX s.2 m af ab G em fe A' ∧ x < 2 ^ hD (gH G) ∧ MH s.2 m (gX G x r0) ∧ Ext n A A' ∧ Snd G A' ∧ mu (gN G) A' ≤ mu (gN G) A ∧ (fl = false → WC G n A') ∧ FrS m af ab h s.2 ∧ c = 2 * mu (gN G) A' + (if fl then 1 else 0))
    (R := fun s => ∃ A' x, SX s m af ab G em fe A' ∧ x < 2 ^ hD (gH G) ∧ MH s m (gX G x r0) ∧ Ext n A A' ∧ Snd G A' ∧ mu (gN G) A' ≤ mu (gN G) A ∧ WC G n A' ∧ FrS m af ab h s)
    (fun k c s hs => by
      obtain ⟨A', fl, x, c1, c2, c3, c4, c5, c6, c7, c8, c9, c10⟩ := hs
      cases fl with
      | false =>
        left
        refine ⟨s.2, ?_, A', x, c2, c3, c4, c5, c6, c7, c8 rfl, c9⟩
        show f_X7_walksOn_L2 N m (nI n) (k + 1) s.1 s.2 = _
        rw [f_X7_walksOn_L2, c1, if_pos (show bI false = 0 from rfl)]
      | true =>
        right
        obtain ⟨s', e3, A2, fl2, x2, d1, d2, d3, d4, d5, d6⟩ := sx_10 (N := N) c2 ok sp hg hn c6 c3 hr0 c4 (by omega)
        refine ⟨s', 2 * mu (gN G) A2 + (if fl2 then 1 else 0), ?_, ?_, A2, fl2, x2, d1, d2, d3, d4, c5.trans d5.1, d5.2.1, by have := d5.2.2.1; omega, ?_, c9.trans d6, rfl⟩
        · rw [c10]
          have := d5.2.2.1
          cases fl2 with
          | false => simp; omega
          | true =>
            rcases d5.2.2.2.2 rfl with z | z
            · cases z
            · simp; omega
        · show f_X7_walksOn_L2 N m (nI n) (k + 1) s.1 s.2 = _
          rw [f_X7_walksOn_L2, c1, if_neg (show ¬ bI true = 0 by decide), e3, Option.bind_some]
        · intro ef z f r' hz hA w
          obtain ⟨-, eA, hC⟩ := d5.2.2.2.1 ef
          obtain ⟨d, hd, w1, w2, w3, w4, w5⟩ := w
          have hb := hC z f hz (by rw [← eA]; exact hA) d hd r' w4 w1 w2 w3 w5
          obtain ⟨n', f', g1, g2⟩ := cov_no hb
          rw [eA]
          refine ⟨n', f', g1, ?_, g2⟩
          have hLe : LeA (gN G) n A' := hL.ext c5 (Nat.le_refl _)
          exact hLe _ n' f' (enc_lt (adv_le (R_in ok (c6 z n f hz (by rw [← eA]; exact hA))).1) (by omega) w4) g1)
    N (2 * mu (gN G) A + 1) (1, h) (by omega) ⟨A, true, x0, rfl, q, hx0, qh, Ext.refl, hs, Nat.le_refl _, (fun z => by cases z), FrS.refl, rfl⟩
  obtain ⟨s', e1, r⟩ := this
  refine ⟨s', ?_, r⟩
  unfold f_X7_walksOn
  rw [show f_X7_walksOn_L2 N m (nI n) N 1 h = some s' from e1]
  rfl
end SX
