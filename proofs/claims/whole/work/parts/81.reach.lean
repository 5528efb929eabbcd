/-! What can be reached by how many openings: the meaning of both searches. -/
def gadv (Q : Nat → Bool) (gm : Nat) : Nat → Nat → Nat
  | 0, m => m
  | k + 1, m => if m < gm ∧ Q m = true then gadv Q gm k (m + 1) else m
theorem gadv_ge {Q : Nat → Bool} {gm : Nat} : ∀ k m, m ≤ gadv Q gm k m
  | 0, m => Nat.le_refl _
  | k + 1, m => by
    show m ≤ if _ then _ else _
    split
    · have := gadv_ge (Q := Q) (gm := gm) k (m + 1); omega
    · omega
theorem gadv_le {Q : Nat → Bool} {gm : Nat} : ∀ k m, m ≤ gm → gadv Q gm k m ≤ gm
  | 0, m, h => h
  | k + 1, m, h => by
    show (if _ then _ else _) ≤ gm
    split
    · exact gadv_le k (m + 1) (by omega)
    · exact h
theorem gadv_q {Q : Nat → Bool} {gm : Nat} : ∀ k m j, m ≤ j → j < gadv Q gm k m → Q j = true
  | 0, m, j, h1, h2 => by have : j < m := h2; omega
  | k + 1, m, j, h1, h2 => by
    change j < (if _ then _ else _) at h2
    split at h2
    · rename_i hc
      by_cases e : j = m
      · subst e; exact hc.2
      · exact gadv_q k (m + 1) j (by omega) h2
    · omega
theorem gadv_stop {Q : Nat → Bool} {gm : Nat} : ∀ k m, gm < m + k → gadv Q gm k m < gm → Q (gadv Q gm k m) = false
  | 0, m, h, h2 => by have : m < gm := h2; omega
  | k + 1, m, h, h2 => by
    by_cases hc : m < gm ∧ Q m = true
    · have e : gadv Q gm (k + 1) m = gadv Q gm k (m + 1) := if_pos hc
      rw [e] at h2 ⊢
      exact gadv_stop k (m + 1) (by omega) h2
    · have e : gadv Q gm (k + 1) m = m := if_neg hc
      rw [e] at h2 ⊢
      cases hq : Q m
      · rfl
      · exact absurd ⟨h2, hq⟩ hc
def adv (Q : Nat → Bool) (gm m : Nat) : Nat := gadv Q gm 5 m
theorem adv_ge {Q : Nat → Bool} {gm m : Nat} : m ≤ adv Q gm m := gadv_ge 5 m
theorem adv_le {Q : Nat → Bool} {gm m : Nat} (h : m ≤ gm) : adv Q gm m ≤ gm := gadv_le 5 m h
theorem adv_q {Q : Nat → Bool} {gm m j : Nat} (h1 : m ≤ j) (h2 : j < adv Q gm m) : Q j = true := gadv_q 5 m j h1 h2
theorem adv_stop {Q : Nat → Bool} {gm m : Nat} (h4 : gm ≤ 4) (h : adv Q gm m < gm) : Q (adv Q gm m) = false := gadv_stop 5 m (by omega) h
theorem adv_bound {Q : Nat → Bool} {gm m M : Nat} (hm : m ≤ M) (hM : M ≤ gm) (hQ : M < gm → Q M = false) : adv Q gm m ≤ M := by
  apply Classical.byContradiction
  intro hn
  have h1 := adv_q (Q := Q) (gm := gm) hm (by omega)
  have h2 := adv_le (Q := Q) (gm := gm) (m := m) (by omega)
  rw [hQ (by omega)] at h1
  cases h1
theorem adv_same {Q : Nat → Bool} {gm m : Nat} (h : m < gm → Q m = false) (hm : m ≤ gm) : adv Q gm m = m := Nat.le_antisymm (adv_bound (Nat.le_refl _) hm h) adv_ge
def Qr (gl : Nat → Nat) (r : Nat) (j : Nat) : Bool := decide (gl j = r)
def Qm (gl : Nat → Nat) (k : Int32) (j : Nat) : Bool := bt k (gl j)
/-- house, one, goals, how many, open ones at first, the room at first -/
abbrev GP : Type := HS × Nat × (Nat → Nat) × Nat × Nat × Nat
abbrev gH (G : GP) : HS := G.1
abbrev gp (G : GP) : Nat := G.2.1
abbrev gg (G : GP) : Nat → Nat := G.2.2.1
abbrev gm (G : GP) : Nat := G.2.2.2.1
abbrev gx (G : GP) : Nat := G.2.2.2.2.1
abbrev gr (G : GP) : Nat := G.2.2.2.2.2
def GOk (G : GP) : Prop := HOk (gH G) ∧ hD (gH G) ≤ 9 ∧ gp G < hP (gH G) ∧ gm G ≤ 4 ∧ gx G < 2 ^ hD (gH G) ∧ gr G < 8
def wk (H : HS) (x r r' : Nat) : Prop := ∃ d, d < hD H ∧ bt (nI x) d = true ∧ ¬ hK H d = 1 ∧ sAt H d (nI r) = true ∧ r' < 8 ∧ nI r' = sBey H d (nI r)
def gS (G : GP) (x r : Nat) : Int32 := sShutM (sRm (sO (gH G) (nI x)) (gp G) (nI r))
def opn (G : GP) (x r d s : Nat) : Prop := d < hD (gH G) ∧ s < 2 ^ hD (gH G) ∧ bt (nI x) d = false ∧ sOpens (gH G) d (nI r) = true ∧ sEn (gH G) (nI s) = true ∧ nI s &&& (gS G x r ^^^ (-1)) = 0
def opI (x s d : Nat) : Int32 := (nI x &&& (nI s ^^^ (-1))) ||| i_shl 1 (nI d)
def opx (x s d : Nat) : Nat := (opI x s d).toBitVec.toNat
def fst1 (n d f : Nat) : Nat := if n = 0 then d else f
def Rk (G : GP) : Nat → Nat → Nat → Nat → Nat → Nat → Prop
  | 0, n, f, t, x, r => n = 0 ∧ f = 14 ∧ t = adv (Qr (gg G) (gr G)) (gm G) 0 ∧ x = gx G ∧ r = gr G
  | k + 1, n, f, t, x, r => (∃ t0 r1, Rk G k n f t0 x r1 ∧ wk (gH G) x r1 r ∧ t = adv (Qr (gg G) r) (gm G) t0) ∨
      (∃ n0 f0 t0 x1 d s, Rk G k n0 f0 t0 x1 r ∧ opn G x1 r d s ∧ n = n0 + 1 ∧ f = fst1 n0 d f0 ∧ x = opx x1 s d ∧ t = adv (Qr (gg G) r) (gm G) t0)
def R (G : GP) (n f t x r : Nat) : Prop := ∃ k, Rk G k n f t x r
theorem nI_tn (x : Int32) : nI x.toBitVec.toNat = x := by
  apply Int32.toBitVec_inj.mp
  show BitVec.ofNat 32 x.toBitVec.toNat = x.toBitVec
  simp
theorem tn_lt {x : Int32} {D : Nat} (hD : D ≤ 31) (h : ∀ k, D ≤ k → k < 32 → bt x k = false) : x.toBitVec.toNat < 2 ^ D := by
  apply Nat.lt_pow_two_of_testBit
  intro i hi
  by_cases h32 : i < 32
  · have := h i hi h32
    unfold bt at this
    rw [← BitVec.testBit_toNat] at this
    exact this
  · apply Nat.testBit_lt_two_pow
    exact Nat.lt_of_lt_of_le x.toBitVec.isLt (Nat.pow_le_pow_right (by decide) (by omega))
theorem bt_hi {x D k : Nat} (hx : x < 2 ^ D) (hD : D ≤ 31) (hk : D ≤ k) : bt (nI x) k = false := by
  by_cases h : k < 32
  · rw [bt_nI (Nat.lt_of_lt_of_le hx (Nat.pow_le_pow_right (by decide) hD)) h]
    exact Nat.testBit_lt_two_pow (Nat.lt_of_lt_of_le hx (Nat.pow_le_pow_right (by decide) hk))
  · exact b_big (by omega)
theorem opI_bt {x s d k : Nat} (hd : d < 32) (hk : k < 32) : bt (opI x s d) k = ((bt (nI x) k && !bt (nI s) k) || decide (k = d)) := by
  unfold opI
  rw [b_or, b_and, b_not _ hk, b_bit hd hk]
section RS
variable {G : GP}
theorem opx_lt (ok : GOk G) {x s d : Nat} (hx : x < 2 ^ hD (gH G)) (hd : d < hD (gH G)) : opx x s d < 2 ^ hD (gH G) := by
  have := ok.2.1
  apply tn_lt (by omega)
  intro k h1 h2
  rw [opI_bt (by omega) h2, bt_hi hx (by omega) h1, decide_eq_false (by omega)]
  rfl
theorem opx_I (x s d : Nat) : nI (opx x s d) = opI x s d := nI_tn _
theorem pow9 (ok : GOk G) : 2 ^ hD (gH G) ≤ 512 := Nat.le_trans (Nat.pow_le_pow_right (by decide) ok.2.1) (by decide)
theorem x31 (ok : GOk G) {x : Nat} (hx : x < 2 ^ hD (gH G)) : x < 2 ^ 31 := by have := pow9 ok; omega
/-- a walk is over a door -/
theorem wk_conn (ok : HOk (gH G)) {x r r' : Nat} (hr : r < 8) (h : wk (gH G) x r r') : r' < 8 ∧ conn (gH G) (nI x) r r' := by
  obtain ⟨d, hd, ho, hk, ha, h8, e⟩ := h
  refine ⟨h8, ?_⟩
  obtain ⟨-, ⟨a, la, ea⟩, ⟨b, lb, eb⟩, -⟩ := ok.2.2.1 d hd
  have cd := conn_door ok hr hd ho ea eb la lb
  unfold sBey at e
  unfold sAt at ha
  rw [ea, eb] at e ha
  simp only [Bool.or_eq_true, decide_eq_true_eq] at ha
  by_cases c : nI r = nI a
  · rw [if_pos c] at e
    have e1 : r' = b := (nI_eq (by omega) (by omega)).mp e
    have e2 : r = a := (nI_eq (by omega) (by omega)).mp c
    subst e1 e2
    exact cd.mp (conn_refl hr)
  · rw [if_neg c] at e
    have e1 : r' = a := (nI_eq (by omega) (by omega)).mp e
    have e2 : r = b := by
      rcases ha with ha | ha
      · exact absurd ha.symm c
      · exact ((nI_eq (by omega) (by omega)).mp ha).symm
    subst e1 e2
    exact cd.mpr (conn_refl hr)
/-- and over an open door one walks both ways, or stays -/
theorem door_wk (ok : HOk (gH G)) {x d a b : Nat} (hd : d < hD (gH G)) (ho : bt (nI x) d = true) (ea : hA (gH G) d = nI a) (eb : hB (gH G) d = nI b) (la : a < 8) (lb : b < 8) : a = b ∨ (wk (gH G) x a b ∧ wk (gH G) x b a) := by
  by_cases hk : hK (gH G) d = 1
  · left
    have := (ok.2.2.1 d hd).2.2.2 hk
    rw [ea, eb] at this
    exact (nI_eq (by omega) (by omega)).mp this
  · right
    refine ⟨⟨d, hd, ho, hk, ?_, lb, ?_⟩, ⟨d, hd, ho, hk, ?_, la, ?_⟩⟩
    · unfold sAt; rw [ea]; simp
    · unfold sBey; rw [ea, eb, if_pos rfl]
    · unfold sAt; rw [eb]; simp
    · unfold sBey
      rw [ea, eb]
      by_cases c : nI b = nI a
      · rw [if_pos c, c]
      · rw [if_neg c]
theorem R_walk {n f t x r r' : Nat} (h : R G n f t x r) (w : wk (gH G) x r r') : R G n f (adv (Qr (gg G) r') (gm G) t) x r' := by
  obtain ⟨k, h⟩ := h
  exact ⟨k + 1, Or.inl ⟨t, r, h, w, rfl⟩⟩
theorem R_open {n f t x r d s : Nat} (h : R G n f t x r) (w : opn G x r d s) : R G (n + 1) (fst1 n d f) (adv (Qr (gg G) r) (gm G) t) (opx x s d) r := by
  obtain ⟨k, h⟩ := h
  exact ⟨k + 1, Or.inr ⟨n, f, t, x, d, s, h, w, rfl, rfl, rfl, rfl⟩⟩
theorem R_start : R G 0 14 (adv (Qr (gg G) (gr G)) (gm G) 0) (gx G) (gr G) := ⟨0, rfl, rfl, rfl, rfl, rfl⟩
/-- what holds at the start and goes over walks and openings holds of all that is reached -/
theorem R_ind {P : Nat → Nat → Nat → Nat → Nat → Prop} (h0 : P 0 14 (adv (Qr (gg G) (gr G)) (gm G) 0) (gx G) (gr G)) (hw : ∀ n f t x r r', R G n f t x r → P n f t x r → wk (gH G) x r r' → P n f (adv (Qr (gg G) r') (gm G) t) x r')
    (ho : ∀ n f t x r d s, R G n f t x r → P n f t x r → opn G x r d s → P (n + 1) (fst1 n d f) (adv (Qr (gg G) r) (gm G) t) (opx x s d) r) : ∀ {n f t x r}, R G n f t x r → P n f t x r := by
  have : ∀ k n f t x r, Rk G k n f t x r → P n f t x r := by
    intro k
    induction k with
    | zero =>
      rintro n f t x r ⟨rfl, rfl, rfl, rfl, rfl⟩
      exact h0
    | succ k ih =>
      rintro n f t x r (⟨t0, r1, h, w, rfl⟩ | ⟨n0, f0, t0, x1, d, s, h, w, rfl, rfl, rfl, rfl⟩)
      · exact hw _ _ _ _ _ _ ⟨k, h⟩ (ih _ _ _ _ _ h) w
      · exact ho _ _ _ _ _ _ _ ⟨k, h⟩ (ih _ _ _ _ _ h) w
  rintro n f t x r ⟨k, h⟩
  exact this k n f t x r h
theorem R_in (ok : GOk G) {n f t x r : Nat} (h : R G n f t x r) : t ≤ gm G ∧ x < 2 ^ hD (gH G) ∧ r < 8 ∧ (t < gm G → ¬ gg G t = r) := by
  refine R_ind (P := fun n f t x r => t ≤ gm G ∧ x < 2 ^ hD (gH G) ∧ r < 8 ∧ (t < gm G → ¬ gg G t = r)) ?_ ?_ ?_ h
  · refine ⟨adv_le (Nat.zero_le _), ok.2.2.2.2.1, ok.2.2.2.2.2, fun z => ?_⟩
    have := adv_stop ok.2.2.2.1 z
    exact of_decide_eq_false this
  · intro n f t x r r' _ hp w
    refine ⟨adv_le hp.1, hp.2.1, (wk_conn ok.1 hp.2.2.1 w).1, fun z => ?_⟩
    have := adv_stop ok.2.2.2.1 z
    exact of_decide_eq_false this
  · intro n f t x r d s _ hp w
    refine ⟨adv_le hp.1, opx_lt ok hp.2.1 w.1, hp.2.2.1, fun z => ?_⟩
    have := adv_stop ok.2.2.2.1 z
    exact of_decide_eq_false this
/-- all that is reached lies within what all doors join -/
theorem R_bound (ok : GOk G) {n f t x r : Nat} (h : R G n f t x r) : conn (gH G) (nI (2 ^ hD (gH G) - 1)) (gr G) r ∧ ∀ j, j < t → conn (gH G) (nI (2 ^ hD (gH G) - 1)) (gr G) (gg G j) := by
  have h9 := ok.2.1
  have hall : ∀ d, d < hD (gH G) → bt (nI (2 ^ hD (gH G) - 1)) d = true := by
    intro d hd
    have := pow9 ok
    rw [bt_nI (by omega) (by omega), Nat.testBit_two_pow_sub_one]
    exact decide_eq_true hd
  have hgo : ∀ t0 r j, (∀ j, j < t0 → conn (gH G) (nI (2 ^ hD (gH G) - 1)) (gr G) (gg G j)) → conn (gH G) (nI (2 ^ hD (gH G) - 1)) (gr G) r → j < adv (Qr (gg G) r) (gm G) t0 → conn (gH G) (nI (2 ^ hD (gH G) - 1)) (gr G) (gg G j) := by
    intro t0 r j h1 h2 hj
    by_cases c : j < t0
    · exact h1 j c
    · have := adv_q (Q := Qr (gg G) r) (by omega) hj
      rw [of_decide_eq_true this]
      exact h2
  refine R_ind (P := fun n f t x r => conn (gH G) (nI (2 ^ hD (gH G) - 1)) (gr G) r ∧ ∀ j, j < t → conn (gH G) (nI (2 ^ hD (gH G) - 1)) (gr G) (gg G j)) ?_ ?_ ?_ h
  · exact ⟨conn_refl ok.2.2.2.2.2, fun j hj => hgo 0 _ j (fun j hj => absurd hj (Nat.not_lt_zero _)) (conn_refl ok.2.2.2.2.2) hj⟩
  · intro n f t x r r' hR hp w
    have i := R_in ok hR
    have c1 := wk_conn ok.1 i.2.2.1 w
    have c2 : conn (gH G) (nI (2 ^ hD (gH G) - 1)) r r' := conn_mono ok.1 i.2.2.1 (fun d hd _ => hall d hd) c1.2
    have c3 := conn_trans ok.1 ok.2.2.2.2.2 i.2.2.1 hp.1 c2
    exact ⟨c3, fun j hj => hgo t _ j hp.2 c3 hj⟩
  · intro n f t x r d s hR hp w
    exact ⟨hp.1, fun j hj => hgo t _ j hp.2 hp.1 hj⟩
/-- one walks to any room that is joined, meeting goals on the way, but none beyond M -/
theorem R_go (ok : GOk G) {n f t x r a M : Nat} (h : R G n f t x r) (ht : t ≤ M) (hM : M ≤ gm G) (hQ : M < gm G → ¬ conn (gH G) (nI x) r (gg G M)) (hc : conn (gH G) (nI x) r a) : ∃ t', t ≤ t' ∧ t' ≤ M ∧ R G n f t' x a := by
  have hr := (R_in ok h).2.2.1
  refine (conn_ind ok.1 hr (fun a => conn (gH G) (nI x) r a ∧ ∃ t', t ≤ t' ∧ t' ≤ M ∧ R G n f t' x a) ⟨conn_refl hr, t, Nat.le_refl _, ht, h⟩ ?_ hc).2
  intro d hd ho a b ea eb la lb
  have cd := conn_door ok.1 hr hd ho ea eb la lb
  have st : ∀ {a b : Nat}, conn (gH G) (nI x) r b → wk (gH G) x a b → (∃ t', t ≤ t' ∧ t' ≤ M ∧ R G n f t' x a) → ∃ t', t ≤ t' ∧ t' ≤ M ∧ R G n f t' x b := by
    rintro a b cb w ⟨t', h1, h2, h3⟩
    refine ⟨_, Nat.le_trans h1 adv_ge, adv_bound h2 hM (fun z => ?_), R_walk h3 w⟩
    apply decide_eq_false
    intro e
    apply hQ z
    rw [e]
    exact cb
  rcases door_wk ok.1 hd ho ea eb la lb with rfl | ⟨w1, w2⟩
  · exact Iff.rfl
  · exact ⟨fun q => ⟨cd.mp q.1, st (cd.mp q.1) w1 q.2⟩, fun q => ⟨cd.mpr q.1, st (cd.mpr q.1) w2 q.2⟩⟩
/-- from where one arrives, all goals that lie in the part are met, and any room of it can be come to -/
theorem R_done (ok : GOk G) {n f x r : Nat} (hr : r < 8) : ∀ (c t a : Nat), R G n f t x a → conn (gH G) (nI x) r a → t + c = adv (Qm (gg G) (sReach (gH G) (nI x) (nI r))) (gm G) t → ∀ b, conn (gH G) (nI x) r b → R G n f (t + c) x b := by
  intro c
  induction c using Nat.strongRecOn with
  | _ c ih =>
    intro t a h hca e b hcb
    have i := R_in ok h
    have hM : t + c ≤ gm G := by rw [e]; exact adv_le i.1
    have hab : conn (gH G) (nI x) a b := conn_trans ok.1 i.2.2.1 hr (conn_symm ok.1 hr hca) hcb
    have hQ : t + c < gm G → ¬ conn (gH G) (nI x) a (gg G (t + c)) := by
      intro z hz
      rw [e] at z hz
      have := adv_stop ok.2.2.2.1 z
      have h2 : conn (gH G) (nI x) r (gg G (adv (Qm (gg G) (sReach (gH G) (nI x) (nI r))) (gm G) t)) := conn_trans ok.1 hr i.2.2.1 hca hz
      have h3 : false = true := this.symm.trans h2
      cases h3
    by_cases hc : c = 0
    · subst hc
      obtain ⟨t', t1, t2, t3⟩ := R_go ok h (Nat.le_refl _) hM hQ hab
      rw [show t + 0 = t' by omega]
      exact t3
    · have hq : Qm (gg G) (sReach (gH G) (nI x) (nI r)) t = true := adv_q (Nat.le_refl _) (by rw [← e]; omega)
      have hrt : conn (gH G) (nI x) r (gg G t) := hq
      have hat : conn (gH G) (nI x) a (gg G t) := conn_trans ok.1 i.2.2.1 hr (conn_symm ok.1 hr hca) hrt
      obtain ⟨t', t1, t2, t3⟩ := R_go ok h (by omega) hM hQ hat
      have i' := R_in ok t3
      have tne : t' ≠ t := by
        intro z
        subst z
        exact i'.2.2.2 (by omega) rfl
      have e' : t' + (t + c - t') = adv (Qm (gg G) (sReach (gH G) (nI x) (nI r))) (gm G) t' := by
        rw [show t' + (t + c - t') = t + c by omega]
        apply Nat.le_antisymm
        · apply Classical.byContradiction
          intro hn
          have s1 : adv (Qm (gg G) (sReach (gH G) (nI x) (nI r))) (gm G) t' < gm G := by omega
          have s2 := adv_stop ok.2.2.2.1 s1
          have s3 := adv_q (Q := Qm (gg G) (sReach (gH G) (nI x) (nI r))) (gm := gm G) (m := t) (j := adv (Qm (gg G) (sReach (gH G) (nI x) (nI r))) (gm G) t') (Nat.le_trans t1 adv_ge) (by rw [← e]; omega)
          rw [s2] at s3
          cases s3
        · exact adv_bound t2 hM (fun z => by rw [e]; exact adv_stop ok.2.2.2.1 (by rw [← e]; exact z))
      have := ih (t + c - t') (by omega) t' (gg G t) t3 hrt e' b hcb
      rw [show t' + (t + c - t') = t + c by omega] at this
      exact this
/-- fewest openings by which all goals are met, the least first door of such -/
def Best (G : GP) (n f : Nat) : Prop := (∃ x r, R G n f (gm G) x r) ∧ ∀ n' f' x r, R G n' f' (gm G) x r → n ≤ n' ∧ (n' = n → f ≤ f')
def NoBest (G : GP) : Prop := ∀ n f x r, ¬ R G n f (gm G) x r
theorem Best.uniq {n f n' f' : Nat} (h : Best G n f) (h' : Best G n' f') : n = n' ∧ f = f' := by
  obtain ⟨⟨x, r, a⟩, b⟩ := h
  obtain ⟨⟨x', r', a'⟩, b'⟩ := h'
  have c1 := b _ _ _ _ a'
  have c2 := b' _ _ _ _ a
  have e : n = n' := by omega
  subst e
  exact ⟨rfl, Nat.le_antisymm (c1.2 rfl) (c2.2 rfl)⟩
end RS
