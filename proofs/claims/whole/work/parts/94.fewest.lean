/-! The class's Search: fewestFor, roomsFor. -/
section BF
variable {G : GP} {hd k : Nat} {Q : QS}
theorem R_0 {n f t x r : Nat} (hR : R G n f t x r) : n = 0 → f = 14 := R_ind (P := fun n f _ _ _ => n = 0 → f = 14) (fun _ => rfl) (fun n f t x r r' _ h _ => h) (fun n f t x r d s _ _ _ h => by omega) hR
theorem best_of (ok : GOk G) (q : QP G hd k Q) (prc : ∀ i, i < hd → Prc G Q i) (h0 : Arr G Q 0 0 (gx G) (gr G) (adv (Qr (gg G) (gr G)) (gm G) 0)) (ho : qfd Q = true ∨ hd = qT Q) : (qfd Q = false ∧ NoBest G) ∨ (qfd Q = true ∧ ∃ f, Best G k f ∧ (0 < k → 0 < qff Q ∧ f = rep (nI (qff Q)))) := by
  have hp : ∀ i, i < qT Q → (qfd Q = true → qV Q i < k) → Prc G Q i := by
    intro i hi hv
    apply prc
    rcases ho with h | h
    · apply Classical.byContradiction
      intro hn
      have := (q.2.1 i hi).2.2 (by omega)
      have := hv h
      omega
    · omega
  have key : ∀ n f x r, R G n f (gm G) x r → qfd Q = true ∧ (k < n ∨ (n = k ∧ (k = 0 ∨ (qff Q).testBit f = true))) := by
    intro n f x r hR
    rcases q_all ok q hp h0 hR with h | ⟨j, j1, j2, j3, j4, -⟩
    · exact h
    · have := (q.2.1 j j1).1.1
      omega
  cases hfd : qfd Q with
  | false =>
    left
    refine ⟨rfl, fun n f x r hR => ?_⟩
    have := (key n f x r hR).1
    rw [hfd] at this
    cases this
  | true =>
    right
    refine ⟨rfl, ?_⟩
    obtain ⟨-, ⟨f0, x0, r0, hR0⟩, q3, q4⟩ := q.2.2.1 hfd
    by_cases hk : k = 0
    · refine ⟨14, ⟨⟨x0, r0, ?_⟩, fun n' f' x r hR => ?_⟩, fun z => by omega⟩
      · have := R_0 hR0 hk
        rw [this] at hR0
        exact hR0
      · have := (key n' f' x r hR).2
        refine ⟨by omega, fun e => ?_⟩
        have := R_0 hR (by omega)
        omega
    · have hff := q3 (by omega)
      have h5 := q.2.2.2.2.1
      obtain ⟨s1, s2, s3⟩ := rep_spec h5 (by omega)
      obtain ⟨x1, r1, hR1⟩ := q4 _ s2
      refine ⟨rep (nI (qff Q)), ⟨⟨x1, r1, hR1⟩, fun n' f' x r hR => ?_⟩, fun _ => ⟨by omega, rfl⟩⟩
      have := (key n' f' x r hR).2
      refine ⟨by omega, fun e => ?_⟩
      rcases this with z | ⟨_, z | z⟩
      · omega
      · omega
      · apply Classical.byContradiction
        intro hn
        rw [s3 f' (by omega)] at z
        cases z
end BF
/-! what the rows cost -/
def P1 (l : Nat) : Nat := smB (fun d => if 8 * 2 ^ d ≤ l then 8 * 2 ^ d else 0) 10
def sz2 (j : Nat) : Nat := (j % 4 + 1) * (8 * 2 ^ (j / 4))
def P2 (l : Nat) : Nat := smB (fun j => if sz2 j ≤ l then 2 * sz2 j else 0) 40
theorem smB_gain {f g : Nat → Nat} : ∀ i, (∀ j, j < i → f j ≤ g j) → ∀ j, j < i → ∀ c, f j + c ≤ g j → smB f i + c ≤ smB g i
  | 0, _, j, hj, _, _ => absurd hj (Nat.not_lt_zero _)
  | i + 1, h, j, hj, c, hc => by
    show smB f i + f i + c ≤ smB g i + g i
    have m := smB_mono (f := f) (g := g) i (fun k hk => h k (by omega))
    by_cases e : j = i
    · subst e; omega
    · have := smB_gain i (fun k hk => h k (by omega)) j (by omega) c hc
      have := h i (by omega)
      omega
theorem P1_gain {l D : Nat} (hD : D ≤ 9) (h : l < 8 * 2 ^ D) : P1 l + 8 * 2 ^ D ≤ P1 (8 * 2 ^ D) := by
  refine smB_gain 10 (fun j _ => ?_) D (by omega) _ ?_
  · by_cases c : 8 * 2 ^ j ≤ l
    · rw [if_pos c, if_pos (by omega)]; exact Nat.le_refl _
    · rw [if_neg c]; exact Nat.zero_le _
  · rw [if_neg (by omega), if_pos (Nat.le_refl _)]; omega
theorem P2_gain {l g D : Nat} (hg : 1 ≤ g) (hg4 : g ≤ 4) (hD : D ≤ 9) (h : l < g * (8 * 2 ^ D)) : P2 l + 2 * (g * (8 * 2 ^ D)) ≤ P2 (g * (8 * 2 ^ D)) := by
  have e : sz2 (4 * D + (g - 1)) = g * (8 * 2 ^ D) := by
    unfold sz2
    rw [show (4 * D + (g - 1)) % 4 + 1 = g by omega, show (4 * D + (g - 1)) / 4 = D by omega]
  refine smB_gain 40 (fun j _ => ?_) (4 * D + (g - 1)) (by omega) _ ?_
  · by_cases c : sz2 j ≤ l
    · rw [if_pos c, if_pos (by omega)]; exact Nat.le_refl _
    · rw [if_neg c]; exact Nat.zero_le _
  · rw [e, if_neg (by omega), if_pos (Nat.le_refl _)]; omega
theorem P1_max (l : Nat) : P1 l ≤ 8184 := by
  have : P1 l ≤ smB (fun d => 8 * 2 ^ d) 10 := smB_mono 10 (fun j _ => by split <;> omega)
  exact Nat.le_trans this (by decide)
theorem P2_max (l : Nat) : P2 l ≤ 163680 := by
  have : P2 l ≤ smB (fun j => 2 * sz2 j) 40 := smB_mono 40 (fun j _ => by split <;> omega)
  exact Nat.le_trans this (by decide)
theorem x_sz_n {N : Nat} (h : N ≤ 16384) : x_sz (nI N) = some N := by
  unfold x_sz
  rw [nI_clamp (by omega), if_neg]
  intro z
  rcases z with z | z
  · exact nI_pos (by omega) z
  · omega
/-- the class's Search between calls -/
def SG (h : xH) (sb ap as aq sl len st B : Nat) (v fg : Nat → Int32) : Prop := ∃ w fA fp fs fq, PAt h (sb + 2) ap len w fA fp ∧ PC0 st len fp ∧ w 11 = nI st ∧ SAt h sb as aq sl v fg fs fq ∧ v 5 = nI B ∧ (∀ s, s < sl → ∃ a, fs s = nI a ∧ a < B) ∧ sep3 sb ap as aq ∧ len < 2 ^ 20 ∧ sl < 2 ^ 20
section FW
variable {h : xH} {G : GP} {sb ap as aq sl len st B n hb : Nat} {w v fg fs fq fp : Nat → Int32} {fA : Nat → Nat → Int32}
theorem x_begin (ok : GOk G) (p : PAt h (sb + 2) ap len w fA fp) (w6 : w 6 = nI (hD (gH G))) (a : SAt h sb as aq sl v fg fs fq) (v1 : v 1 = nI (gm G)) (v5 : v 5 = nI B) (hs : ∀ s, s < sl → ∃ a, fs s = nI a ∧ a < B) (sp : sep3 sb ap as aq) (hsl : sl < 2 ^ 20) :
    ∃ h' as' aq' sl' B' v' fs' fq' c s, f_X3_begin h sb = some (h', c, s) ∧ PAt h' (sb + 2) ap len w fA fp ∧ SAt h' sb as' aq' sl' v' fg fs' fq' ∧ v' 1 = nI (gm G) ∧ v' 5 = nI B' ∧ v' 6 = 0 ∧ v' 7 = 0 ∧ v' 8 = 0 ∧ v' 9 = 0 ∧ v' 10 = 0 ∧ (∀ s, s < sl' → ∃ a, fs' s = nI a ∧ a < B') ∧ sep3 sb ap as' aq' ∧ gNS G ≤ sl' ∧ sl' < 2 ^ 20 ∧ B' ≤ max B 1 ∧ P2 sl + c ≤ P2 sl' ∧ P2 sl + s ≤ P2 sl' ∧ Fr (fun a _ => a = sb) (fun _ => False) h h' ∧
      ((as' = as ∧ aq' = aq) ∨ ((∀ x e, x_at h x = some (.inl e) → x < as') ∧ ∀ x e, x_at h x = some (.inl e) → x < aq')) := by
  have h9 := ok.2.1
  have h4 := ok.2.2.2.1
  have hnl := gNS_le ok
  have pp : 1 ≤ 2 ^ hD (gH G) := Nat.one_le_two_pow
  have hN1 : 1 ≤ gNS G := by unfold gNS; exact Nat.mul_pos (by omega) (by omega)
  have ex4 : x_max 1 (nI (gm G)) * i_shl 8 (nI (hD (gH G))) = nI (gNS G) := by
    rw [show (1 : Int32) = nI 1 from rfl, x_max_nI (by decide) (by omega), (sh8 _ h9).1, pk_mul]
    rfl
  have mid : ∃ h7 as' aq' sl' B' v' fs' fq' c s, (if nI (gNS G) ≤ nI sl then some ((h, 0, 0) : xH × Nat × Nat) else (x_sz (nI (gNS G))).bind fun n8 => x_add 1 n8 <| (x_put (h ++ [.inl (.int, n8, .inl (fun _ => 0))]) sb 3 3 (.ref (h.length + 16))).bind fun h11 => (x_sz (nI (gNS G))).bind fun n12 => x_add 1 n12 <| (x_put (h11 ++ [.inl (.int, n12, .inl (fun _ => 0))]) sb 3 4 (.ref (h11.length + 16))).bind fun h15 => (x_put h15 sb 3 5 (.int (1 : Int32))).bind fun h16 => some (h16, 0, 0)) = some (h7, c, s) ∧ PAt h7 (sb + 2) ap len w fA fp ∧ SAt h7 sb as' aq' sl' v' fg fs' fq' ∧ v' 1 = nI (gm G) ∧ v' 5 = nI B' ∧ (∀ s, s < sl' → ∃ a, fs' s = nI a ∧ a < B') ∧ sep3 sb ap as' aq' ∧ gNS G ≤ sl' ∧ sl' < 2 ^ 20 ∧ B' ≤ max B 1 ∧ P2 sl + c ≤ P2 sl' ∧ P2 sl + s ≤ P2 sl' ∧ Fr (fun a _ => a = sb) (fun _ => False) h h7 ∧ ((as' = as ∧ aq' = aq) ∨ ((∀ x e, x_at h x = some (.inl e) → x < as') ∧ ∀ x e, x_at h x = some (.inl e) → x < aq')) := by
    by_cases hc : gNS G ≤ sl
    · refine ⟨h, as, aq, sl, B, v, fs, fq, 0, 0, ?_, p, a, v1, v5, hs, sp, hc, hsl, by omega, Nat.le_refl _, Nat.le_refl _, Fr.rfl, Or.inl ⟨rfl, rfl⟩⟩
      rw [if_pos (nI_le hc (by omega))]
    · obtain ⟨a1, a2, a3, a4, a5, a6, a7, a8⟩ := a
      obtain ⟨sp1, sp2, sp3, sp4, sp5, sp6⟩ := sp
      have ga : Fr (fun _ _ => False) (fun _ => False) h (h ++ [.inl (.int, gNS G, .inl (fun _ => 0))]) := Fr.app
      obtain ⟨h11, e11, g11, f11⟩ := w_put (ga.1 _ _ _ _ id a3) (.ref (h.length + 16))
      have gb : Fr (fun _ _ => False) (fun _ => False) h11 (h11 ++ [.inl (.int, gNS G, .inl (fun _ => 0))]) := Fr.app
      obtain ⟨h15, e15, g15, f15⟩ := w_put (gb.1 _ _ _ _ id (f11.1 _ _ _ _ (fun z => by omega) (ga.1 _ _ _ _ id a4))) (.ref (h11.length + 16))
      have g5' : x_get h15 sb 3 5 = some (.int (v 5)) := f15.1 _ _ _ _ (fun z => by omega) (gb.1 _ _ _ _ id (f11.1 _ _ _ _ (fun z => by omega) (ga.1 _ _ _ _ id (a5 5 (Or.inr ⟨by decide, by decide⟩)))))
      obtain ⟨h16, e16, g16, f16⟩ := w_put g5' (.int (1 : Int32))
      have fr : Fr (fun a _ => a = sb) (fun _ => False) h h16 := Fr.trans (Fr.mono ga (fun _ _ z => z.elim) (fun _ z => z)) (Fr.trans (Fr.mono f11 (fun _ _ z => z.1) (fun _ z => z)) (Fr.trans (Fr.mono gb (fun _ _ z => z.elim) (fun _ z => z)) (Fr.trans (Fr.mono f15 (fun _ _ z => z.1) (fun _ z => z)) (Fr.mono f16 (fun _ _ z => z.1) (fun _ z => z)))))
      have keep : ∀ k x, k ≠ 3 → k ≠ 4 → k ≠ 5 → x_get h sb 3 k = some x → x_get h16 sb 3 k = some x := fun k x k3 k4 k5 g => f16.1 _ _ _ _ (fun z => k5 z.2) (f15.1 _ _ _ _ (fun z => k4 z.2) (gb.1 _ _ _ _ id (f11.1 _ _ _ _ (fun z => k3 z.2) (ga.1 _ _ _ _ id g))))
      have n1 : At h11 (h.length + 16) (gNS G) (fun _ => 0) := f11.2 _ _ id x_at_new
      have n1' : At h16 (h.length + 16) (gNS G) (fun _ => 0) := f16.2 _ _ id (f15.2 _ _ id (gb.2 _ _ id n1))
      have n2' : At h16 (h11.length + 16) (gNS G) (fun _ => 0) := f16.2 _ _ id (f15.2 _ _ id x_at_new)
      have l12 : h.length + 16 < h11.length + 16 := n1.lt
      have lap : ap < h.length + 16 := p.2.2.2.2.lt
      have lsb : sb + 2 + 1 + 3 < h.length + 16 := (p.2.2.2.1 3 (by decide)).lt
      have cost := P2_gain (l := sl) (g := max 1 (gm G)) (D := hD (gH G)) (by omega) (by omega) h9 (by unfold gNS at hc; omega)
      have cost' : P2 sl + 2 * gNS G ≤ P2 (gNS G) := cost
      refine ⟨h16, h.length + 16, h11.length + 16, gNS G, 1, upd v 5 1, fun _ => 0, fun _ => 0, 2, 2 * gNS G, ?_, ?_, ⟨keep 0 _ (by decide) (by decide) (by decide) a1, keep 2 _ (by decide) (by decide) (by decide) a2, f16.1 _ _ _ _ (fun z => by omega) (f15.1 _ _ _ _ (fun z => by omega) (gb.1 _ _ _ _ id g11)), f16.1 _ _ _ _ (fun z => by omega) g15, fun k hk => ?_, fr.2 _ _ id a6, n1', n2'⟩, ?_, pk_us, fun s _ => ⟨0, rfl, by decide⟩, ⟨by omega, by omega, by omega, sp4, Or.inr (by omega), Or.inr (by omega)⟩, Nat.le_refl _, by omega, by omega, by omega, cost', fr, Or.inr ⟨fun x e hx => g_lt hx, fun x e hx => Nat.lt_trans (g_lt hx) l12⟩⟩
      · rw [if_neg (nI_ge (by omega) (by omega)), x_sz_n hnl, Option.bind_some, e11, Option.bind_some, Option.bind_some, e15, Option.bind_some, e16, Option.bind_some]
        show some (h16, 1 + (1 + 0), gNS G + (gNS G + 0)) = _
        rw [show gNS G + (gNS G + 0) = 2 * gNS G by omega]
      · exact p.fr fr (fun k z => by omega) (fun _ _ _ z => z) (fun z => z)
      · by_cases k5 : k = 5
        · subst k5; rw [pk_us]; exact g16
        · rw [pk_un k5]; exact keep k _ (by omega) (by omega) k5 (a5 k hk)
      · rw [pk_un (by decide), v1]
  obtain ⟨h7, as', aq', sl', B', v7, fs7, fq7, c, s, e7, p7, a7, w1, w5, hs7, sp7, n7, l7, b7, c7, d7, f7, alt⟩ := mid
  obtain ⟨k1, e1, q1, f1⟩ := a7.put (k := 6) (Or.inr ⟨by decide, by decide⟩) 0
  obtain ⟨k2, e2, q2, f2⟩ := q1.put (k := 7) (Or.inr ⟨by decide, by decide⟩) 0
  obtain ⟨k3, e3, q3, f3⟩ := q2.put (k := 8) (Or.inr ⟨by decide, by decide⟩) 0
  obtain ⟨k4, e4, q4, f4⟩ := q3.put (k := 9) (Or.inr ⟨by decide, by decide⟩) 0
  obtain ⟨k5, e5, q5, f5⟩ := q4.put (k := 10) (Or.inr ⟨by decide, by decide⟩) 0
  have fr := Fr.trans f1 (Fr.trans f2 (Fr.trans f3 (Fr.trans f4 f5)))
  refine ⟨k5, as', aq', sl', B', _, fs7, fq7, c, s, ?_, p7.fr fr (fun k z => by omega) (fun _ _ _ z => z) (fun z => z), q5, ?_, ?_, ?_, ?_, ?_, ?_, pk_us, hs7, sp7, n7, l7, b7, c7, d7, Fr.trans f7 fr, alt⟩
  · unfold f_X3_begin
    rw [a.gI (k := 1) (Or.inl rfl), Option.bind_some, v1, a.pl, Option.bind_some, p.gI (k := 6) (by decide) (by decide), Option.bind_some, w6, Option.bind_some, ex4, a.sn, Option.bind_some, x_len_n a.2.2.2.2.2.2.1, Option.bind_some, e7, Option.bind_some]
    rw [e1, Option.bind_some, e2, Option.bind_some, e3, Option.bind_some, e4, Option.bind_some, e5, Option.bind_some]
    show some (k5, c + 0, s + 0) = _
    rfl
  · rw [pk_un (by decide), pk_un (by decide), pk_un (by decide), pk_un (by decide), pk_un (by decide), w1]
  · rw [pk_un (by decide), pk_un (by decide), pk_un (by decide), pk_un (by decide), pk_un (by decide), w5]
  · rw [pk_un (by decide), pk_un (by decide), pk_un (by decide), pk_un (by decide), pk_us]
  · rw [pk_un (by decide), pk_un (by decide), pk_un (by decide), pk_us]
  · rw [pk_un (by decide), pk_un (by decide), pk_us]
  · rw [pk_un (by decide), pk_us]
end FW
