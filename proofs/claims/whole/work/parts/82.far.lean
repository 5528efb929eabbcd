/-! The reference's search: its table as a function, and what a coming does to it. -/
abbrev AT : Type := Nat → Option (Nat × Nat)
def enc (t x r : Nat) : Nat := (t * 512 + x) * 8 + r
theorem enc_dec {t x r : Nat} (hx : x < 512) (hr : r < 8) : enc t x r / 8 / 512 = t ∧ enc t x r / 8 % 512 = x ∧ enc t x r % 8 = r := by
  have m1 := mr (x := t * 512 + x) (c := r) (n := 8) hr
  have m2 := mr (x := t) (c := x) (n := 512) hx
  unfold enc
  rw [m1.1, m1.2]
  exact ⟨m2.1, m2.2, rfl⟩
theorem dec_enc (z : Nat) : enc (z / 8 / 512) (z / 8 % 512) (z % 8) = z := by unfold enc; omega
def gN (G : GP) : Nat := (gm G + 1) * 512 * 8
theorem enc_lt {G : GP} {t x r : Nat} (ht : t ≤ gm G) (hx : x < 512) (hr : r < 8) : enc t x r < gN G := mr_lt hr (mr_lt hx (by omega))
def bet (A : AT) (z n f : Nat) : Bool := match A z with
  | none => true
  | some q => decide (q.1 = n) && decide (f < q.2)
def cmA (A : AT) (z n f : Nat) : AT := if bet A z n f then (fun j => if j = z then some (n, f) else A j) else A
def Rep (N : Nat) (fF fB : Nat → Int32) (A : AT) : Prop := ∀ z, z < N → match A z with
  | none => fF z = -1
  | some q => fF z = nI q.1 ∧ fB z = nI q.2 ∧ q.1 < 2 ^ 30 ∧ q.2 ≤ 14
def muV (o : Option (Nat × Nat)) : Nat := match o with
  | none => 16
  | some q => q.2
def mu (N : Nat) (A : AT) : Nat := smB (fun z => muV (A z)) N
def Ext (n : Nat) (A A' : AT) : Prop := ∀ z, A' z = A z ∨ ∃ f, A' z = some (n, f) ∧ (A z = none ∨ ∃ f0, A z = some (n, f0) ∧ f ≤ f0)
def Snd (G : GP) (A : AT) : Prop := ∀ z n f, z < gN G → A z = some (n, f) → R G n f (z / 8 / 512) (z / 8 % 512) (z % 8)
def LeA (N n : Nat) (A : AT) : Prop := ∀ z k f, z < N → A z = some (k, f) → k ≤ n
theorem Ext.refl {n : Nat} {A : AT} : Ext n A A := fun z => Or.inl rfl
theorem Ext.trans {n : Nat} {A B C : AT} (h1 : Ext n A B) (h2 : Ext n B C) : Ext n A C := by
  intro z
  rcases h2 z with e | ⟨f, e, h⟩
  · rw [e]; exact h1 z
  · right
    refine ⟨f, e, ?_⟩
    rcases h1 z with e1 | ⟨f1, e1, h3⟩
    · rw [← e1]; exact h
    · rcases h3 with h3 | ⟨f0, h3, h4⟩
      · exact Or.inl h3
      · right
        refine ⟨f0, h3, ?_⟩
        rcases h with h | ⟨f2, h, h5⟩
        · rw [e1] at h; cases h
        · rw [e1] at h; cases h; omega
theorem Ext.keep {n k f : Nat} {A B : AT} (h : Ext n A B) {z : Nat} (e : A z = some (k, f)) (hk : k ≠ n) : B z = some (k, f) := by
  rcases h z with h | ⟨f1, -, h | ⟨f0, h, -⟩⟩
  · rw [h, e]
  · rw [e] at h; cases h
  · rw [e] at h; cases h; exact absurd rfl hk
theorem Ext.back {n k f : Nat} {A B : AT} (h : Ext n A B) {z : Nat} (e : B z = some (k, f)) (hk : k ≠ n) : A z = some (k, f) := by
  rcases h z with h | ⟨f1, h, -⟩
  · rw [← h, e]
  · rw [e] at h; cases h; exact absurd rfl hk
theorem Ext.some_le {n k f : Nat} {A B : AT} (h : Ext n A B) {z : Nat} (e : A z = some (k, f)) : ∃ f', B z = some (k, f') ∧ f' ≤ f := by
  rcases h z with h | ⟨f1, h1, h | ⟨f0, h, hl⟩⟩
  · exact ⟨f, by rw [h, e], Nat.le_refl _⟩
  · rw [e] at h; cases h
  · rw [e] at h; cases h; exact ⟨f1, h1, hl⟩
theorem cm_ext (A : AT) (z n f : Nat) : Ext n A (cmA A z n f) := by
  intro j
  unfold cmA
  by_cases hb : bet A z n f = true
  · rw [if_pos hb]
    by_cases e : j = z
    · right
      subst e
      refine ⟨f, if_pos rfl, ?_⟩
      unfold bet at hb
      cases h : A j with
      | none => exact Or.inl rfl
      | some q =>
        rw [h] at hb
        simp only [Bool.and_eq_true, decide_eq_true_eq] at hb
        right
        exact ⟨q.2, by rw [← hb.1], by omega⟩
    · left; exact if_neg e
  · rw [if_neg hb]; exact Or.inl rfl
theorem cm_snd {G : GP} {A : AT} {z n f : Nat} (h : Snd G A) (hr : R G n f (z / 8 / 512) (z / 8 % 512) (z % 8)) : Snd G (cmA A z n f) := by
  intro j k g hj e
  unfold cmA at e
  by_cases hb : bet A z n f = true
  · rw [if_pos hb] at e
    by_cases e1 : j = z
    · subst e1
      rw [if_pos rfl] at e
      cases e
      exact hr
    · rw [if_neg e1] at e
      exact h j k g hj e
  · rw [if_neg hb] at e
    exact h j k g hj e
theorem cm_mu {N : Nat} {A : AT} {z n f : Nat} (hz : z < N) (hf : f ≤ 14) (hb : bet A z n f = true) : mu N (cmA A z n f) < mu N A := by
  unfold cmA
  rw [if_pos hb]
  refine smB_lt N (fun j hj => ?_) z hz ?_
  · show muV (if j = z then _ else _) ≤ muV (A j)
    by_cases e : j = z
    · subst e
      rw [if_pos rfl]
      unfold bet at hb
      cases h : A j with
      | none => show f ≤ 16; omega
      | some q =>
        rw [h] at hb
        simp only [Bool.and_eq_true, decide_eq_true_eq] at hb
        show f ≤ q.2
        omega
    · rw [if_neg e]; exact Nat.le_refl _
  · show muV (if z = z then _ else _) < muV (A z)
    rw [if_pos rfl]
    unfold bet at hb
    cases h : A z with
    | none => show f < 16; omega
    | some q =>
      rw [h] at hb
      simp only [Bool.and_eq_true, decide_eq_true_eq] at hb
      show f < q.2
      omega
theorem cm_no {A : AT} {z n f : Nat} (hb : bet A z n f = false) : cmA A z n f = A := by
  unfold cmA
  rw [hb]
  rfl
theorem mu_le {N : Nat} {A : AT} (h : ∀ z q, z < N → A z = some q → q.2 ≤ 14) : mu N A ≤ N * 16 := by
  have : smB (fun z => muV (A z)) N ≤ smB (fun _ => 16) N := smB_mono N (fun j hj => by
    show muV (A j) ≤ 16
    cases e : A j with
    | none => show 16 ≤ 16; omega
    | some q => have := h j q hj e; show q.2 ≤ 16; omega)
  have h2 := smB_le (f := fun _ => 16) (m := 16) (fun _ => Nat.le_refl _) N
  unfold mu
  omega
def sep (m af ab : Nat) : Prop := af ≠ ab ∧ (af < m ∨ m + 36 ≤ af) ∧ (ab < m ∨ m + 36 ≤ ab)
/-- the reference's rows for the search -/
def SX (h : xH) (m af ab : Nat) (G : GP) (em : Nat) (fe : Nat → Int32) (A : AT) : Prop := x_get h m 7 27 = some (.ref af) ∧ x_get h m 7 28 = some (.ref ab) ∧ x_get h m 7 29 = some (.ref (m + 34)) ∧ x_get h m 7 30 = some (.int (nI (gm G))) ∧ x_get h m 7 31 = some (.ref (m + 35)) ∧ x_get h m 7 32 = some (.int (nI em)) ∧
  (∃ fg, At h (m + 34) 4 fg ∧ ∀ j, j < gm G → fg j = nI (gg G j)) ∧ At h (m + 35) 512 fe ∧ ∃ fF fB, At h af 20480 fF ∧ At h ab 20480 fB ∧ Rep (gN G) fF fB A
/-- what the search may change -/
def FrS (m af ab : Nat) (h h' : xH) : Prop := Fr (fun a k => a = m ∧ (k = 11 ∨ (27 ≤ k ∧ k < 33))) (fun a => a = af ∨ a = ab ∨ a = m + 32 ∨ a = m + 34 ∨ a = m + 35) h h'
/-- the house as the search has it in hand -/
def gX (G : GP) (x r : Nat) : HS := sRm (sO (gH G) (nI x)) (gp G) (nI r)
section SX
variable {h h' : xH} {m af ab em : Nat} {G : GP} {fe : Nat → Int32} {A : AT}
theorem gN_le (ok : GOk G) : gN G ≤ 20480 := by
  have := ok.2.2.2.1
  unfold gN
  omega
theorem FrS.trans {h1 h2 : xH} (a : FrS m af ab h h1) (b : FrS m af ab h1 h2) : FrS m af ab h h2 := Fr.trans a b
theorem FrS.refl : FrS m af ab h h := Fr.rfl
theorem gX_ok (ok : GOk G) {x r : Nat} (hx : x < 2 ^ hD (gH G)) (hr : r < 8) : HOk (gX G x r) := by
  obtain ⟨o1, o2, o3, o4, o5, o6, o7⟩ := ok.1
  refine ⟨o1, o2, o3, ?_, o5, o6, ?_⟩
  · intro q hq
    show ∃ k, k < 8 ∧ upd (hR (gH G)) (gp G) (nI r) q = nI k
    by_cases e : q = gp G
    · subst e; exact ⟨r, hr, pk_us⟩
    · rw [pk_un e]; exact o4 q hq
  · intro k h1 h2
    exact bt_hi hx (by have := ok.2.1; omega) h1
theorem SX.far (q : SX h m af ab G em fe A) : x_gR h m 7 27 = some af := g_R q.1
theorem SX.by_ (q : SX h m af ab G em fe A) : x_gR h m 7 28 = some ab := g_R q.2.1
theorem SX.go (q : SX h m af ab G em fe A) : x_gR h m 7 29 = some (m + 34) := g_R q.2.2.1
theorem SX.gm_ (q : SX h m af ab G em fe A) : x_gI h m 7 30 = some (nI (gm G)) := g_I q.2.2.2.1
theorem SX.en (q : SX h m af ab G em fe A) : x_gR h m 7 31 = some (m + 35) := g_R q.2.2.2.2.1
theorem SX.em_ (q : SX h m af ab G em fe A) : x_gI h m 7 32 = some (nI em) := g_I q.2.2.2.2.2.1
theorem SX.ob (q : SX h m af ab G em fe A) : x_ob h m 7 = some () := g_ob q.1
theorem SX.fr {F : Nat → Nat → Prop} {P : Nat → Prop} (q : SX h m af ab G em fe A) (f : Fr F P h h') (hF : ∀ k, 27 ≤ k → k < 33 → ¬ F m k) (h1 : ¬ P af) (h2 : ¬ P ab) (h3 : ¬ P (m + 34)) (h4 : ¬ P (m + 35)) : SX h' m af ab G em fe A := by
  obtain ⟨q1, q2, q3, q4, q5, q6, ⟨fg, q7, q8⟩, q9, fF, fB, qa, qb, qc⟩ := q
  exact ⟨f.1 _ _ _ _ (hF 27 (by decide) (by decide)) q1, f.1 _ _ _ _ (hF 28 (by decide) (by decide)) q2, f.1 _ _ _ _ (hF 29 (by decide) (by decide)) q3, f.1 _ _ _ _ (hF 30 (by decide) (by decide)) q4, f.1 _ _ _ _ (hF 31 (by decide) (by decide)) q5, f.1 _ _ _ _ (hF 32 (by decide) (by decide)) q6, ⟨fg, f.2 _ _ h3 q7, q8⟩, f.2 _ _ h4 q9, fF, fB, f.2 _ _ h1 qa, f.2 _ _ h2 qb, qc⟩
theorem SX.ldF (q : SX h m af ab G em fe A) (ok : GOk G) {z : Nat} (hz : z < gN G) : x_ld h af (nI z) = some (match A z with | none => -1 | some p => nI p.1) := by
  obtain ⟨-, -, -, -, -, -, -, -, fF, fB, qa, qb, qc⟩ := q
  rw [qa.ld (Nat.lt_of_lt_of_le hz (gN_le ok)) (by decide)]
  have := qc z hz
  cases e : A z with
  | none => rw [e] at this; exact congrArg some this
  | some p => rw [e] at this; exact congrArg some this.1
theorem SX.ldB (q : SX h m af ab G em fe A) (ok : GOk G) {z n f : Nat} (hz : z < gN G) (e : A z = some (n, f)) : x_ld h ab (nI z) = some (nI f) := by
  obtain ⟨-, -, -, -, -, -, -, -, fF, fB, qa, qb, qc⟩ := q
  rw [qb.ld (Nat.lt_of_lt_of_le hz (gN_le ok)) (by decide)]
  have := qc z hz
  rw [e] at this
  exact congrArg some this.2.1
theorem SX.bnd (q : SX h m af ab G em fe A) {z n f : Nat} (hz : z < gN G) (e : A z = some (n, f)) : n < 2 ^ 30 ∧ f ≤ 14 := by
  obtain ⟨-, -, -, -, -, -, -, -, fF, fB, qa, qb, qc⟩ := q
  have := qc z hz
  rw [e] at this
  exact this.2.2
theorem nI_nm1 {n : Nat} (h : n < 2 ^ 30) : ¬ nI n = -1 := by
  intro e
  have h1 : ¬ nI n < 0 := nI_pos (by omega)
  rw [e] at h1
  exact h1 (by decide)
theorem sx_stateOf (q : SX h m af ab G em fe A) (ok : GOk G) (hg : ∀ j, j < gm G → gg G j < 2 ^ 31) {n t x r : Nat} (ht : t ≤ gm G) (hr : r < 8) (hn : 20 ≤ n) : f_X7_stateOf n h m (nI t) (nI x) (nI r) = some (nI (enc (adv (Qr (gg G) r) (gm G) t) x r)) := by
  have h4 := ok.2.2.2.1
  obtain ⟨fg, g1, g2⟩ := q.2.2.2.2.2.2.1
  have L : ∀ (c k t : Nat), c < k → gm G < t + c → (t ≤ gm G + 1 ∨ t < 2 ^ 31) → t < 2 ^ 31 → f_X7_stateOf_L3 h m (nI x) (nI r) k (nI t) = some (nI (gadv (Qr (gg G) r) (gm G) c t)) := by
    intro c
    induction c with
    | zero =>
      intro k t hk hc _ ht
      obtain ⟨k', rfl⟩ : ∃ k', k = k' + 1 := ⟨k - 1, by omega⟩
      rw [f_X7_stateOf_L3, q.gm_, Option.bind_some, if_pos (nI_le (by omega) ht)]
      rfl
    | succ c ih =>
      intro k t hk hc _ ht
      obtain ⟨k', rfl⟩ : ∃ k', k = k' + 1 := ⟨k - 1, by omega⟩
      rw [f_X7_stateOf_L3, q.gm_, Option.bind_some]
      by_cases hl : t < gm G
      · rw [if_neg (nI_ge hl (by omega)), q.go, Option.bind_some, g1.ld (by omega) (by decide), Option.bind_some, g2 t hl]
        by_cases e : gg G t = r
        · rw [if_pos (by rw [e]), Option.bind_some, nI_1, ih k' (t + 1) (by omega) (by omega) (Or.inl (by omega)) (by omega)]
          show _ = some (nI (if t < gm G ∧ Qr (gg G) r t = true then _ else t))
          rw [if_pos ⟨hl, decide_eq_true e⟩]
        · rw [if_neg (fun z => e ((nI_eq (hg t hl) (by omega)).mp z))]
          show _ = some (nI (if t < gm G ∧ Qr (gg G) r t = true then _ else t))
          rw [if_neg (fun z => e (of_decide_eq_true z.2))]
      · rw [if_pos (nI_le (by omega) ht)]
        show _ = some (nI (if t < gm G ∧ Qr (gg G) r t = true then _ else t))
        rw [if_neg (fun z => hl z.1)]
  unfold f_X7_stateOf
  rw [L 5 n t (by omega) (by omega) (Or.inl (by omega)) (by omega), Option.bind_some]
  show some ((nI (adv (Qr (gg G) r) (gm G) t) * nI 512 + nI x) * nI 8 + nI r) = _
  rw [pk_mul, nI_add, pk_mul, nI_add]
  rfl
theorem sx_comes (q : SX h m af ab G em fe A) (ok : GOk G) (sp : sep m af ab) {z n f : Nat} (hz : z < gN G) (hn : n < 2 ^ 30) (hf : f ≤ 14) : ∃ h', f_X7_comes h m (nI z) (nI n) (nI f) = some (bI (bet A z n f), h') ∧ SX h' m af ab G em fe (cmA A z n f) ∧ Fr (fun _ _ => False) (fun a => a = af ∨ a = ab) h h' := by
  have hz2 := Nat.lt_of_lt_of_le hz (gN_le ok)
  have J : bet A z n f = true → ∃ h', f_X7_comes_J30 h m (nI z) (nI n) (nI f) = some (bI true, h') ∧ SX h' m af ab G em fe (cmA A z n f) ∧ Fr (fun _ _ => False) (fun a => a = af ∨ a = ab) h h' := by
    intro hb
    obtain ⟨q1, q2, q3, q4, q5, q6, ⟨fg, q7, q8⟩, q9, fF, fB, qa, qb, qc⟩ := id q
    obtain ⟨h1, e1, a1, f1⟩ := w_st qa hz2 (by decide) (nI n)
    have qb1 : At h1 ab 20480 fB := f1.2 _ _ (fun z => sp.1 z.symm) qb
    obtain ⟨h2, e2, a2, f2⟩ := w_st qb1 hz2 (by decide) (nI f)
    have fr : Fr (fun _ _ => False) (fun a => a = af ∨ a = ab) h h2 := Fr.trans (Fr.mono f1 (fun _ _ z => z) (fun _ z => Or.inl z)) (Fr.mono f2 (fun _ _ z => z) (fun _ z => Or.inr z))
    refine ⟨h2, ?_, ⟨fr.1 _ _ _ _ id q1, fr.1 _ _ _ _ id q2, fr.1 _ _ _ _ id q3, fr.1 _ _ _ _ id q4, fr.1 _ _ _ _ id q5, fr.1 _ _ _ _ id q6, ⟨fg, fr.2 _ _ (fun z => by have := sp.2.1; have := sp.2.2; omega) q7, q8⟩, fr.2 _ _ (fun z => by have := sp.2.1; have := sp.2.2; omega) q9, _, _, f2.2 _ _ sp.1 a1, a2, ?_⟩, fr⟩
    · unfold f_X7_comes_J30
      rw [q.far, Option.bind_some, e1, Option.bind_some, show x_gR h1 m 7 28 = some ab from g_R (f1.1 _ _ _ _ id q2), Option.bind_some, e2]
      rfl
    · intro j hj
      unfold cmA
      rw [if_pos hb]
      by_cases e : j = z
      · subst e
        rw [if_pos rfl]
        exact ⟨pk_us, pk_us, hn, hf⟩
      · rw [if_neg e, pk_un e, pk_un e]
        exact qc j hj
  unfold f_X7_comes
  rw [q.far, Option.bind_some, q.ldF ok hz, Option.bind_some]
  cases e : A z with
  | none =>
    have hb : bet A z n f = true := by unfold bet; rw [e]
    obtain ⟨h', e1, q1, f1⟩ := J hb
    refine ⟨h', ?_, q1, f1⟩
    rw [if_pos rfl, e1, hb]
  | some p =>
    obtain ⟨k, g⟩ := p
    have bd := q.bnd hz e
    have hbe : bet A z n f = (decide (k = n) && decide (f < g)) := by unfold bet; rw [e]
    show ∃ h', (if nI k = -1 then _ else _) = _ ∧ _
    rw [if_neg (nI_nm1 bd.1), Option.bind_some, q.ldF ok hz, e, Option.bind_some]
    show ∃ h', (if nI k = nI n then _ else _) = _ ∧ _
    by_cases hk : k = n
    · rw [if_pos (by rw [hk]), q.by_, Option.bind_some, q.ldB ok hz e, Option.bind_some]
      by_cases hg : f < g
      · have hb : bet A z n f = true := by rw [hbe, decide_eq_true hk, decide_eq_true hg]; rfl
        obtain ⟨h', e1, q1, f1⟩ := J hb
        refine ⟨h', ?_, q1, f1⟩
        rw [if_neg (nI_ge hg (by omega)), e1, hb]
      · have hb : bet A z n f = false := by rw [hbe, decide_eq_false hg, Bool.and_false]
        refine ⟨h, ?_, by rw [cm_no hb]; exact q, Fr.rfl⟩
        rw [if_pos (nI_le (by omega) (by omega)), hb]
        rfl
    · have hb : bet A z n f = false := by rw [hbe, decide_eq_false hk]; rfl
      refine ⟨h, ?_, by rw [cm_no hb]; exact q, Fr.rfl⟩
      rw [if_neg (fun w => hk ((nI_eq (by omega) (by omega)).mp w)), hb]
      rfl
theorem x_idiv_n {a d : Nat} (ha : a < 2 ^ 31) (h0 : 0 < d) (hd : d < 2 ^ 31) : x_idiv (nI a) (nI d) = some (nI (a / d)) := by
  unfold x_idiv
  rw [if_neg (nI_ne0 h0 hd), pk_div ha h0 hd]
theorem x_irem_n {a d : Nat} (ha : a < 2 ^ 31) (h0 : 0 < d) (hd : d < 2 ^ 31) : x_irem (nI a) (nI d) = some (nI (a % d)) := by
  unfold x_irem
  rw [if_neg (nI_ne0 h0 hd), i_rem_n ha h0 hd]
/-- what a loop that comes to states makes of the table -/
def Wg (G : GP) (n : Nat) (A A' : AT) (f0 fl : Bool) (C : Prop) : Prop := Ext n A A' ∧ Snd G A' ∧ mu (gN G) A' ≤ mu (gN G) A ∧ (fl = false → f0 = false ∧ A' = A ∧ C) ∧ (fl = true → f0 = true ∨ mu (gN G) A' < mu (gN G) A)
theorem bI_or (a b : Bool) : bI a ||| bI b = bI (a || b) := by cases a <;> cases b <;> decide
theorem Wg.step {n z f : Nat} {A A1 : AT} {f0 fl : Bool} {C : Prop} (w : Wg G n A A1 f0 fl C) (hz : z < gN G) (hf : f ≤ 14) (hr : R G n f (z / 8 / 512) (z / 8 % 512) (z % 8)) : Wg G n A (cmA A1 z n f) f0 (fl || bet A1 z n f) (C ∧ bet A z n f = false) := by
  obtain ⟨w1, w2, w3, w4, w5⟩ := w
  cases hb : bet A1 z n f
  · rw [cm_no hb, Bool.or_false]
    refine ⟨w1, w2, w3, fun e => ?_, w5⟩
    obtain ⟨a1, a2, a3⟩ := w4 e
    exact ⟨a1, a2, a3, by rw [← a2]; exact hb⟩
  · have := cm_mu (N := gN G) hz hf hb
    rw [Bool.or_true]
    exact ⟨w1.trans (cm_ext A1 z n f), cm_snd w2 hr, by omega, (fun e => by cases e), fun _ => Or.inr (by omega)⟩
theorem Wg.mono {n : Nat} {A A1 : AT} {f0 fl : Bool} {C C' : Prop} (w : Wg G n A A1 f0 fl C) (h : A1 = A → C → C') : Wg G n A A1 f0 fl C' := ⟨w.1, w.2.1, w.2.2.1, fun e => ⟨(w.2.2.2.1 e).1, (w.2.2.2.1 e).2.1, h (w.2.2.2.1 e).2.1 (w.2.2.2.1 e).2.2⟩, w.2.2.2.2⟩
theorem Wg.trans {n : Nat} {A A1 A2 : AT} {f0 f1 f2 : Bool} {C D : Prop} (w : Wg G n A A1 f0 f1 C) (v : Wg G n A1 A2 f1 f2 D) : Wg G n A A2 f0 f2 (C ∧ D) := by
  obtain ⟨w1, w2, w3, w4, w5⟩ := w
  obtain ⟨v1, v2, v3, v4, v5⟩ := v
  refine ⟨w1.trans v1, v2, by omega, fun e => ?_, fun e => ?_⟩
  · obtain ⟨a1, a2, a3⟩ := v4 e
    obtain ⟨b1, b2, b3⟩ := w4 a1
    exact ⟨b1, by rw [a2, b2], b3, a3⟩
  · rcases v5 e with a | a
    · rcases w5 a with b | b
      · exact Or.inl b
      · exact Or.inr (by omega)
    · exact Or.inr (by omega)
theorem Wg.refl {n : Nat} {A : AT} {f0 : Bool} (hs : Snd G A) {C : Prop} (hc : C) : Wg G n A A f0 f0 C := ⟨Ext.refl, hs, Nat.le_refl _, fun e => ⟨e, rfl, hc⟩, fun e => Or.inl e⟩
/-- no better from z by door d -/
def nbW (G : GP) (A : AT) (z n f d : Nat) : Prop := ∀ r', r' < 8 → bt (nI (z / 8 % 512)) d = true → ¬ hK (gH G) d = 1 → sAt (gH G) d (nI (z % 8)) = true → nI r' = sBey (gH G) d (nI (z % 8)) → bet A (enc (adv (Qr (gg G) r') (gm G) (z / 8 / 512)) (z / 8 % 512) r') n f = false
theorem sx_58 (q : SX h m af ab G em fe A) (ok : GOk G) (sp : sep m af ab) (hg : ∀ j, j < gm G → gg G j < 2 ^ 31) {z n f r0 N : Nat} {f0 : Bool} (hz : z < gN G) (hn : n < 2 ^ 30) (e : A z = some (n, f)) (hs : Snd G A) (hr0 : r0 < 8) (qh : MH h m (gX G (z / 8 % 512) r0)) (hN : 20 ≤ N) :
    ∃ s' : Int32 × xH, f_X7_walksOn_L58 N m (nI n) (nI z) (nI (z % 8)) N (bI f0) 0 h = some s' ∧ ∃ A' fl, s'.1 = bI fl ∧ SX s'.2 m af ab G em fe A' ∧ MH s'.2 m (gX G (z / 8 % 512) r0) ∧ Wg G n A A' f0 fl (∀ d, d < hD (gH G) → nbW G A z n f d) ∧ FrS m af ab h s'.2 := by
  have hRz := hs z n f hz e
  have i := R_in ok hRz
  have ok' := gX_ok ok i.2.1 hr0
  have h9 := ok.2.1
  have hz2 := Nat.lt_of_lt_of_le hz (gN_le ok)
  have bf := (q.bnd hz e).2
  have := lp0 (L := fun k (s : Int32 × xH) d => f_X7_walksOn_L58 N m (nI n) (nI z) (nI (z % 8)) k s.1 (nI d) s.2)
    (I := fun d s => ∃ A' fl, s.1 = bI fl ∧ SX s.2 m af ab G em fe A' ∧ MH s.2 m (gX G (z / 8 % 512) r0) ∧ Wg G n A A' f0 fl (∀ d', d' < d → nbW G A z n f d') ∧ A' z = some (n, f) ∧ FrS m af ab h s.2)
    (R := fun s => ∃ A' fl, s.1 = bI fl ∧ SX s.2 m af ab G em fe A' ∧ MH s.2 m (gX G (z / 8 % 512) r0) ∧ Wg G n A A' f0 fl (∀ d, d < hD (gH G) → nbW G A z n f d) ∧ FrS m af ab h s.2) (D := hD (gH G)) (n := N) (s := (bI f0, h)) (by omega)
    ⟨A, f0, rfl, q, qh, Wg.refl hs (fun d hd => absurd hd (Nat.not_lt_zero _)), e, FrS.refl⟩
    (fun k s hs => by
      obtain ⟨A', fl, c1, c2, c3, c4, c5, c6⟩ := hs
      refine ⟨s, ?_, A', fl, c1, c2, c3, c4, c6⟩
      show f_X7_walksOn_L58 N m (nI n) (nI z) (nI (z % 8)) (k + 1) s.1 (nI (hD (gH G))) s.2 = _
      rw [f_X7_walksOn_L58, show x_gI s.2 m 7 9 = some (nI (hD (gH G))) from c3.D, Option.bind_some, if_pos (nI_le (Nat.le_refl _) (by omega))])
    (fun k s d hd hs => by
      right
      obtain ⟨A', fl, c1, c2, c3, c4, c5, c6⟩ := hs
      have hd' : d < hD (gX G (z / 8 % 512) r0) := hd
      obtain ⟨-, ⟨a, la, ea⟩, ⟨b, lb, eb⟩, -⟩ := ok.1.2.2.1 d hd
      obtain ⟨r', hr', er⟩ : ∃ r', r' < 8 ∧ sBey (gH G) d (nI (z % 8)) = nI r' := by
        unfold sBey
        rw [ea, eb]
        split
        · exact ⟨b, lb, rfl⟩
        · exact ⟨a, la, rfl⟩
      have st : f_X7_walksOn_L58 N m (nI n) (nI z) (nI (z % 8)) (k + 1) s.1 (nI d) s.2 = if bI (bt (nI (z / 8 % 512)) d && !decide (hK (gH G) d = 1) && sAt (gH G) d (nI (z % 8))) = 0 then f_X7_walksOn_L58 N m (nI n) (nI z) (nI (z % 8)) k (bI fl) (nI (d + 1)) s.2 else (f_X7_comes s.2 m (nI (enc (adv (Qr (gg G) r') (gm G) (z / 8 / 512)) (z / 8 % 512) r')) (nI n) (nI f)).bind fun q22 => f_X7_walksOn_L58 N m (nI n) (nI z) (nI (z % 8)) k (bI fl ||| q22.1) (nI (d + 1)) q22.2 := by
        have e8 : x_idiv (nI z) 8 = some (nI (z / 8)) := x_idiv_n (d := 8) (by omega) (by decide) (by decide)
        have e512 : x_idiv (nI (z / 8)) 512 = some (nI (z / 8 / 512)) := x_idiv_n (d := 512) (by omega) (by decide) (by decide)
        have ebey : f_X7_beyond s.2 m (nI d) (nI (z % 8)) = some (nI r') := by rw [m_beyond c3 ok' hd', ← er]; rfl
        have eO : x_gI s.2 m 7 11 = some (nI (z / 8 % 512)) := c3.O
        have eD : x_gI s.2 m 7 9 = some (nI (hD (gH G))) := c3.D
        rw [f_X7_walksOn_L58, eD, Option.bind_some, if_neg (nI_ge hd (by omega)), c2.ob, Option.bind_some, m_mayWalk c3 ok' hd', Option.bind_some, Option.bind_some, nI_1, c1, e8, Option.bind_some, e512, Option.bind_some, eO, Option.bind_some, Option.bind_some, ebey, Option.bind_some, Option.bind_some, sx_stateOf c2 ok hg i.1 hr' (by omega), Option.bind_some, c2.by_, Option.bind_some, c2.ldB ok hz c5, Option.bind_some, Option.bind_some]
        rfl
      by_cases hw : (bt (nI (z / 8 % 512)) d && !decide (hK (gH G) d = 1) && sAt (gH G) d (nI (z % 8))) = true
      · rw [hw, if_neg (show ¬ bI true = 0 by decide)] at st
        simp only [Bool.and_eq_true, Bool.not_eq_true', decide_eq_false_iff_not] at hw
        have wkz : wk (gH G) (z / 8 % 512) (z % 8) r' := ⟨d, hd, hw.1.1, hw.1.2, hw.2, hr', er.symm⟩
        have hx5 : z / 8 % 512 < 512 := by omega
        have dz := enc_dec (t := adv (Qr (gg G) r') (gm G) (z / 8 / 512)) hx5 hr'
        have hlt := enc_lt (G := G) (adv_le (Q := Qr (gg G) r') i.1) hx5 hr'
        have hR2 := R_walk hRz wkz
        obtain ⟨h2, e2, q2, f2⟩ := sx_comes c2 ok sp hlt hn bf
        have hk : Fr (fun _ _ => False) (fun a => a = af ∨ a = ab) s.2 h2 := f2
        have cw := c4.step hlt bf (by rw [dz.1, dz.2.1, dz.2.2]; exact hR2)
        refine ⟨(bI (fl || bet A' (enc (adv (Qr (gg G) r') (gm G) (z / 8 / 512)) (z / 8 % 512) r') n f), h2), ?_, _, _, rfl, q2, ?_, cw.mono ?_, ?_, ?_⟩
        · show f_X7_walksOn_L58 N m (nI n) (nI z) (nI (z % 8)) (k + 1) s.1 (nI d) s.2 = _
          rw [st, e2, Option.bind_some, bI_or]
        · exact c3.fr hk (fun _ _ _ z => z) (fun a h1 h2 z => by have := sp.2.1; have := sp.2.2; omega)
        · intro hA hC d' hd1
          by_cases ed : d' = d
          · subst ed
            intro r2 hr2 _ _ _ e3
            rw [er] at e3
            have : r2 = r' := (nI_eq (by omega) (by omega)).mp e3
            subst this
            exact hC.2
          · exact hC.1 d' (by omega)
        · unfold cmA
          split
          · show (if z = _ then _ else _) = _
            split
            · rfl
            · exact c5
          · exact c5
        · exact c6.trans (Fr.mono hk (fun _ _ z => z.elim) (fun a z => by rcases z with z | z; exact Or.inl z; exact Or.inr (Or.inl z)))
      · have hwf : (bt (nI (z / 8 % 512)) d && !decide (hK (gH G) d = 1) && sAt (gH G) d (nI (z % 8))) = false := by simpa using hw
        rw [hwf, if_pos (show bI false = 0 from rfl)] at st
        refine ⟨(bI fl, s.2), ?_, A', fl, rfl, c2, c3, c4.mono ?_, c5, c6⟩
        · show f_X7_walksOn_L58 N m (nI n) (nI z) (nI (z % 8)) (k + 1) s.1 (nI d) s.2 = _
          rw [st]
        · intro _ hC d' hd1
          by_cases ed : d' = d
          · subst ed
            intro r2 _ a1 a2 a3 _
            exact absurd (by rw [a1, a3, decide_eq_false a2]; rfl) hw
          · exact hC d' (by omega))
  obtain ⟨s', e1, A', fl, r⟩ := this
  exact ⟨s', e1, A', fl, r⟩
end SX
