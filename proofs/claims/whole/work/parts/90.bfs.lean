/-! The class's search, its meaning: what is in the queue, what has been arrived at. -/
theorem ntz512 : ∀ x, x < 512 → 0 < x → ∃ k, k < 9 ∧ f_J6_numberOfTrailingZeros_0f7a4 (nI x) = some (nI k) ∧ x.testBit k = true ∧ ∀ j, j < k → x.testBit j = false := by decide +kernel
def rep (y : Int32) : Nat := ((f_J6_numberOfTrailingZeros_0f7a4 y).getD 0).toNatClampNeg
theorem rep_spec {x : Nat} (hx : x < 512) (h0 : 0 < x) : f_J6_numberOfTrailingZeros_0f7a4 (nI x) = some (nI (rep (nI x))) ∧ x.testBit (rep (nI x)) = true ∧ ∀ j, j < rep (nI x) → x.testBit j = false := by
  obtain ⟨k, k1, k2, k3, k4⟩ := ntz512 x hx h0
  have e : rep (nI x) = k := by unfold rep; rw [k2]; exact nI_clamp (by omega)
  rw [e]
  exact ⟨k2, k3, k4⟩
def sub_ (a c : Nat) : Prop := ∀ k, a.testBit k = true → c.testBit k = true
theorem sub_.refl {a : Nat} : sub_ a a := fun _ h => h
theorem sub_.trans {a b c : Nat} (h : sub_ a b) (g : sub_ b c) : sub_ a c := fun k x => g k (h k x)
theorem sub_.l {a b : Nat} : sub_ a (a ||| b) := fun k h => by rw [Nat.testBit_or, h]; rfl
theorem sub_.r {a b : Nat} : sub_ b (a ||| b) := fun k h => by rw [Nat.testBit_or, h, Bool.or_true]
theorem adv_adv {Q Q' : Nat → Bool} {gm t : Nat} (h4 : gm ≤ 4) (ht : t ≤ gm) (h : ∀ j, Q j = true → Q' j = true) : adv Q' gm (adv Q gm t) = adv Q' gm t := by
  have l1 := adv_le (Q := Q) ht
  apply Nat.le_antisymm
  · apply adv_bound
    · apply Classical.byContradiction
      intro hn
      have l2 : adv Q' gm t < gm := by omega
      have s1 := adv_stop h4 l2
      have s2 := h _ (adv_q (Q := Q) (gm := gm) (m := t) (j := adv Q' gm t) adv_ge (by omega))
      rw [s1] at s2
      cases s2
    · exact adv_le ht
    · exact fun z => adv_stop h4 z
  · apply adv_bound
    · exact Nat.le_trans adv_ge adv_ge
    · exact adv_le l1
    · exact fun z => adv_stop h4 z
/-- the queue: how many, states, firsts, levels, found, its firsts, its level, rooms -/
abbrev QS : Type := Nat × (Nat → Nat) × (Nat → Nat) × (Nat → Nat) × Bool × Nat × Nat × Int32
abbrev qT (Q : QS) : Nat := Q.1
abbrev qS (Q : QS) : Nat → Nat := Q.2.1
abbrev qF (Q : QS) : Nat → Nat := Q.2.2.1
abbrev qV (Q : QS) : Nat → Nat := Q.2.2.2.1
abbrev qfd (Q : QS) : Bool := Q.2.2.2.2.1
abbrev qff (Q : QS) : Nat := Q.2.2.2.2.2.1
abbrev qfl (Q : QS) : Nat := Q.2.2.2.2.2.2.1
abbrev qrs (Q : QS) : Int32 := Q.2.2.2.2.2.2.2
def eD (G : GP) (s : Nat) : Nat := s / 8 / 2 ^ hD (gH G)
def eX (G : GP) (s : Nat) : Nat := s / 8 % 2 ^ hD (gH G)
def eR (s : Nat) : Nat := s % 8
def senc (G : GP) (d x r : Nat) : Nat := (d * 2 ^ hD (gH G) + x) * 8 + r
theorem senc_dec {G : GP} {d x r : Nat} (hx : x < 2 ^ hD (gH G)) (hr : r < 8) : eD G (senc G d x r) = d ∧ eX G (senc G d x r) = x ∧ eR (senc G d x r) = r := by
  have m1 := mr (x := d * 2 ^ hD (gH G) + x) (c := r) (n := 8) hr
  have m2 := mr (x := d) (c := x) (n := 2 ^ hD (gH G)) hx
  unfold eD eX eR senc
  rw [m1.1, m1.2]
  exact ⟨m2.1, m2.2, rfl⟩
abbrev prt (G : GP) (x r : Nat) : Int32 := sReach (gH G) (nI x) (nI r)
def dnQ (G : GP) (x r t : Nat) : Nat := adv (Qm (gg G) (prt G x r)) (gm G) t
/-- what is known of one who arrives: at this level, with these firsts -/
def SrcR (G : GP) (L f t x r : Nat) : Prop := (L = 0 → f = 0 ∧ R G 0 14 t x r) ∧ (0 < L → f ≠ 0 ∧ ∀ b, f.testBit b = true → R G L b t x r)
def EntR (G : GP) (s f v : Nat) : Prop := eD G s < gm G ∧ ¬ conn (gH G) (nI (eX G s)) (eR s) (gg G (eD G s)) ∧ eX G s < 2 ^ hD (gH G) ∧ f < 512 ∧ ∀ r, conn (gH G) (nI (eX G s)) (eR s) r → SrcR G v f (eD G s) (eX G s) r
def QP (G : GP) (E L : Nat) (Q : QS) : Prop := E ≤ qT Q ∧ (∀ i, i < qT Q → EntR G (qS Q i) (qF Q i) (qV Q i) ∧ (i < E → qV Q i < L) ∧ (E ≤ i → qV Q i = L)) ∧
  (qfd Q = true → qfl Q = L ∧ (∃ f x r, R G L f (gm G) x r) ∧ (0 < L → qff Q ≠ 0) ∧ ∀ b, (qff Q).testBit b = true → ∃ x r, R G L b (gm G) x r) ∧ (qfd Q = false → qff Q = 0) ∧ qff Q < 512 ∧
  (∀ r, bt (qrs Q) r = true → ∃ n f t x, R G n f t x r) ∧ ∀ i, i < qT Q → ∀ r, conn (gH G) (nI (eX G (qS Q i))) (eR (qS Q i)) r → bt (qrs Q) r = true
def QLe (E : Nat) (Q Q' : QS) : Prop := qT Q ≤ qT Q' ∧ (∀ i, i < qT Q → qS Q' i = qS Q i ∧ qV Q' i = qV Q i ∧ sub_ (qF Q i) (qF Q' i) ∧ (i < E → qF Q' i = qF Q i)) ∧ (qfd Q = true → qfd Q' = true ∧ qfl Q' = qfl Q) ∧ sub_ (qff Q) (qff Q') ∧ ∀ r, bt (qrs Q) r = true → bt (qrs Q') r = true
theorem QLe.refl {E : Nat} {Q : QS} : QLe E Q Q := ⟨Nat.le_refl _, fun i _ => ⟨rfl, rfl, sub_.refl, fun _ => rfl⟩, fun h => ⟨h, rfl⟩, sub_.refl, fun _ h => h⟩
theorem QLe.trans {E : Nat} {A B C : QS} (h : QLe E A B) (g : QLe E B C) : QLe E A C := by
  refine ⟨Nat.le_trans h.1 g.1, fun i hi => ?_, fun x => ?_, h.2.2.2.1.trans g.2.2.2.1, fun r x => g.2.2.2.2 r (h.2.2.2.2 r x)⟩
  · obtain ⟨a1, a2, a3, a4⟩ := h.2.1 i hi
    obtain ⟨b1, b2, b3, b4⟩ := g.2.1 i (Nat.lt_of_lt_of_le hi h.1)
    exact ⟨b1.trans a1, b2.trans a2, a3.trans b3, fun x => (b4 x).trans (a4 x)⟩
  · obtain ⟨a1, a2⟩ := h.2.2.1 x
    obtain ⟨b1, b2⟩ := g.2.2.1 a1
    exact ⟨b1, b2.trans a2⟩
/-- it has been arrived there -/
def Arr (G : GP) (Q : QS) (L f x r t : Nat) : Prop := (dnQ G x r t = gm G ∧ qfd Q = true ∧ qfl Q = L ∧ sub_ f (qff Q)) ∨ (dnQ G x r t < gm G ∧ ∃ j, j < qT Q ∧ qS Q j = senc G (dnQ G x r t) x (rep (prt G x r)) ∧ qV Q j ≤ L ∧ (qV Q j = L → sub_ f (qF Q j)))
theorem Arr.mono {G : GP} {E L f x r t : Nat} {Q Q' : QS} (h : Arr G Q L f x r t) (g : QLe E Q Q') : Arr G Q' L f x r t := by
  rcases h with ⟨a, b, c, d⟩ | ⟨a, j, b, c, d, e⟩
  · obtain ⟨g1, g2⟩ := g.2.2.1 b
    exact Or.inl ⟨a, g1, g2.trans c, d.trans g.2.2.2.1⟩
  · obtain ⟨g1, g2, g3, -⟩ := g.2.1 j b
    exact Or.inr ⟨a, j, Nat.lt_of_lt_of_le b g.1, g1.trans c, by rw [g2]; exact d, fun z => (e (by rw [← g2]; exact z)).trans g3⟩
section BF
variable {G : GP} {E L f x r t : Nat} {Q : QS}
theorem prt_spec (ok : GOk G) (hr : r < 8) : ∃ U, prt G x r = nI U ∧ U < 256 ∧ 0 < U ∧ rep (prt G x r) < 8 ∧ conn (gH G) (nI x) r (rep (prt G x r)) ∧ f_J6_numberOfTrailingZeros_0f7a4 (prt G x r) = some (nI (rep (prt G x r))) := by
  have hU := sR_lt (H := gH G) ok.1 (o := nI x) hr
  obtain ⟨U, eU⟩ : ∃ U, U = (prt G x r).toBitVec.toNat := ⟨_, rfl⟩
  have eI : prt G x r = nI U := by rw [eU, nI_tn]
  have hl : U < 256 := by rw [eU]; exact hU
  have c0 : bt (nI U) r = true := by rw [← eI]; exact conn_refl (H := gH G) (o := nI x) hr
  have h0 : 0 < U := by
    apply Classical.byContradiction
    intro hn
    rw [show U = 0 by omega, show nI 0 = 0 from rfl, b_0] at c0
    cases c0
  obtain ⟨s1, s2, s3⟩ := rep_spec (show U < 512 by omega) h0
  have hb : bt (nI U) (rep (nI U)) = true := by
    have h32 : rep (nI U) < 32 := by
      apply Classical.byContradiction
      intro hn
      have := Nat.testBit_lt_two_pow (Nat.lt_of_lt_of_le (show U < 2 ^ 8 by omega) (Nat.pow_le_pow_right (by decide) (show 8 ≤ rep (nI U) by omega)))
      rw [this] at s2
      cases s2
    rw [bt_nI (by omega) h32]; exact s2
  have hc : conn (gH G) (nI x) r (rep (prt G x r)) := by show bt (prt G x r) _ = true; rw [eI]; exact hb
  exact ⟨U, eI, hl, h0, conn_lt ok.1 hr hc, hc, by rw [eI]; exact s1⟩
theorem SrcR.rooms (ok : GOk G) (h : SrcR G L f t x r) (hr : r < 8) (hd : dnQ G x r t = gm G ∨ dnQ G x r t < gm G) (a : Nat) (hc : conn (gH G) (nI x) r a) : SrcR G L f (dnQ G x r t) x a := by
  have ge : t ≤ dnQ G x r t := adv_ge
  have key : ∀ n b, R G n b t x r → R G n b (dnQ G x r t) x a := by
    intro n b hR
    have := R_done ok hr (dnQ G x r t - t) t r hR (conn_refl hr) (by rw [show t + (dnQ G x r t - t) = dnQ G x r t by omega]; rfl) a hc
    rw [show t + (dnQ G x r t - t) = dnQ G x r t by omega] at this
    exact this
  exact ⟨fun z => ⟨(h.1 z).1, key _ _ (h.1 z).2⟩, fun z => ⟨(h.2 z).1, fun b hb => key _ _ ((h.2 z).2 b hb)⟩⟩
theorem SrcR.some (h : SrcR G L f t x r) (hf : f < 512) : ∃ b, R G L b t x r := by
  by_cases e : L = 0
  · subst e; exact ⟨14, (h.1 rfl).2⟩
  · obtain ⟨h1, h2⟩ := h.2 (by omega)
    obtain ⟨k, -, -, k3, -⟩ := ntz512 f hf (by omega)
    exact ⟨k, h2 k k3⟩
/-- an entry that comes of one who arrives -/
theorem ent_new (ok : GOk G) (h : SrcR G L f t x r) (hf : f < 512) (hx : x < 2 ^ hD (gH G)) (hr : r < 8) (hd : dnQ G x r t < gm G) : EntR G (senc G (dnQ G x r t) x (rep (prt G x r))) f L := by
  obtain ⟨U, u1, u2, u3, u4, u5, u6⟩ := prt_spec (x := x) ok hr
  obtain ⟨d1, d2, d3⟩ := senc_dec (G := G) (d := dnQ G x r t) hx u4
  unfold EntR
  rw [d1, d2, d3]
  refine ⟨hd, ?_, hx, hf, fun a ha => h.rooms ok hr (Or.inr hd) a (conn_trans ok.1 hr u4 u5 ha)⟩
  intro z
  have s1 := adv_stop (Q := Qm (gg G) (prt G x r)) ok.2.2.2.1 hd
  have s2 : conn (gH G) (nI x) r (gg G (dnQ G x r t)) := conn_trans ok.1 hr u4 u5 z
  have s3 : false = true := s1.symm.trans s2
  cases s3
def qFnd (Q : QS) (L f : Nat) (u : Int32) : QS := (qT Q, qS Q, qF Q, qV Q, true, qff Q ||| f, L, qrs Q ||| u)
def qNew (Q : QS) (L f s : Nat) (u : Int32) : QS := (qT Q + 1, uN (qS Q) (qT Q) s, uN (qF Q) (qT Q) f, uN (qV Q) (qT Q) L, qfd Q, qff Q, qfl Q, qrs Q ||| u)
def qOld (Q : QS) (i f : Nat) (u : Int32) : QS := (qT Q, qS Q, uN (qF Q) i (qF Q i ||| f), qV Q, qfd Q, qff Q, qfl Q, qrs Q ||| u)
def qNon (Q : QS) (u : Int32) : QS := (qT Q, qS Q, qF Q, qV Q, qfd Q, qff Q, qfl Q, qrs Q ||| u)
theorem rs_or (ok : GOk G) (h : SrcR G L f t x r) (hf : f < 512) (hr : r < 8) (ht : t ≤ gm G) (hrs : ∀ a, bt (qrs Q) a = true → ∃ n f t x, R G n f t x a) : ∀ a, bt (qrs Q ||| prt G x r) a = true → ∃ n f t x, R G n f t x a := by
  intro a ha
  rw [b_or, Bool.or_eq_true] at ha
  rcases ha with ha | ha
  · exact hrs a ha
  · obtain ⟨b, hb⟩ := h.some hf
    have l := adv_le (Q := Qm (gg G) (prt G x r)) ht
    have h2 := h.rooms ok hr (by unfold dnQ; omega) a ha
    obtain ⟨b2, hb2⟩ := h2.some hf
    exact ⟨_, _, _, _, hb2⟩
theorem rs_sub (u : Int32) : ∀ a, bt (qrs Q) a = true → bt (qrs Q ||| u) a = true := fun a h => by rw [b_or, h]; rfl
theorem b512 {a c : Nat} (ha : a < 512) (hc : c < 512) : a ||| c < 512 := Nat.or_lt_two_pow (n := 9) ha hc
theorem or_ne {a c : Nat} (hc : c ≠ 0) : a ||| c ≠ 0 := fun z => hc (Nat.le_zero.mp (by
  have := Nat.right_le_or (n := a) (m := c)
  omega))
/-- found -/
theorem q_fnd (ok : GOk G) (q : QP G E L Q) (h : SrcR G L f t x r) (hf : f < 512) (hr : r < 8) (ht : t ≤ gm G) (hd : dnQ G x r t = gm G) : QP G E L (qFnd Q L f (prt G x r)) ∧ QLe E Q (qFnd Q L f (prt G x r)) ∧ Arr G (qFnd Q L f (prt G x r)) L f x r t := by
  obtain ⟨q1, q2, q3, q4, q5, q6, q7⟩ := q
  have hs := h.rooms ok hr (Or.inl hd) r (conn_refl hr)
  rw [hd] at hs
  refine ⟨⟨q1, q2, fun _ => ⟨rfl, ?_, fun z => or_ne (h.2 z).1, fun b hb => ?_⟩, (fun z => by cases z), b512 q5 hf, rs_or ok h hf hr ht q6, fun i hi a ha => rs_sub _ a (q7 i hi a ha)⟩, ⟨Nat.le_refl _, fun i _ => ⟨rfl, rfl, sub_.refl, fun _ => rfl⟩, fun z => ⟨rfl, (q3 z).1.symm⟩, sub_.l, rs_sub _⟩, Or.inl ⟨hd, rfl, rfl, sub_.r⟩⟩
  · obtain ⟨b, hb⟩ := hs.some hf
    exact ⟨b, x, r, hb⟩
  · change (qff Q ||| f).testBit b = true at hb
    rw [Nat.testBit_or, Bool.or_eq_true] at hb
    rcases hb with hb | hb
    · by_cases hfd : qfd Q = true
      · exact (q3 hfd).2.2.2 b hb
      · rw [q4 (by simpa using hfd)] at hb
        simp at hb
    · by_cases e : L = 0
      · rw [(h.1 e).1] at hb; simp at hb
      · exact ⟨x, r, (hs.2 (by omega)).2 b hb⟩
/-- a new state -/
theorem q_new (ok : GOk G) (q : QP G E L Q) (h : SrcR G L f t x r) (hf : f < 512) (hx : x < 2 ^ hD (gH G)) (hr : r < 8) (ht : t ≤ gm G) (hd : dnQ G x r t < gm G) : QP G E L (qNew Q L f (senc G (dnQ G x r t) x (rep (prt G x r))) (prt G x r)) ∧ QLe E Q (qNew Q L f (senc G (dnQ G x r t) x (rep (prt G x r))) (prt G x r)) ∧ Arr G (qNew Q L f (senc G (dnQ G x r t) x (rep (prt G x r))) (prt G x r)) L f x r t := by
  obtain ⟨q1, q2, q3, q4, q5, q6, q7⟩ := q
  obtain ⟨U, u1, u2, u3, u4, u5, u6⟩ := prt_spec (x := x) ok hr
  have he := ent_new ok h hf hx hr hd
  obtain ⟨d1, d2, d3⟩ := senc_dec (G := G) (d := dnQ G x r t) hx u4
  have sT : uN (qS Q) (qT Q) (senc G (dnQ G x r t) x (rep (prt G x r))) (qT Q) = senc G (dnQ G x r t) x (rep (prt G x r)) := if_pos rfl
  have fT : uN (qF Q) (qT Q) f (qT Q) = f := if_pos rfl
  have vT : uN (qV Q) (qT Q) L (qT Q) = L := if_pos rfl
  have sO : ∀ i, i ≠ qT Q → uN (qS Q) (qT Q) (senc G (dnQ G x r t) x (rep (prt G x r))) i = qS Q i := fun i hi => if_neg hi
  have fO : ∀ i, i ≠ qT Q → uN (qF Q) (qT Q) f i = qF Q i := fun i hi => if_neg hi
  have vO : ∀ i, i ≠ qT Q → uN (qV Q) (qT Q) L i = qV Q i := fun i hi => if_neg hi
  refine ⟨⟨Nat.le_succ_of_le q1, fun i hi => ?_, q3, q4, q5, rs_or ok h hf hr ht q6, fun i hi a ha => ?_⟩, ⟨Nat.le_succ _, fun i hi => ?_, fun z => ⟨z, rfl⟩, sub_.refl, rs_sub _⟩, Or.inr ⟨hd, qT Q, Nat.lt_succ_self _, sT, ?_, fun _ => ?_⟩⟩
  · show EntR G (uN (qS Q) (qT Q) _ i) (uN (qF Q) (qT Q) f i) (uN (qV Q) (qT Q) L i) ∧ (i < E → uN (qV Q) (qT Q) L i < L) ∧ (E ≤ i → uN (qV Q) (qT Q) L i = L)
    by_cases e : i = qT Q
    · rw [e, sT, fT, vT]
      exact ⟨he, fun z => by omega, fun _ => rfl⟩
    · rw [sO i e, fO i e, vO i e]
      exact q2 i (by have : i < qT Q + 1 := hi; omega)
  · change conn (gH G) (nI (eX G (uN (qS Q) (qT Q) _ i))) (eR (uN (qS Q) (qT Q) _ i)) a at ha
    by_cases e : i = qT Q
    · rw [e, sT, d2, d3] at ha
      have : conn (gH G) (nI x) r a := conn_trans ok.1 hr u4 u5 ha
      show bt (qrs Q ||| prt G x r) a = true
      rw [b_or, show bt (prt G x r) a = true from this, Bool.or_true]
    · rw [sO i e] at ha
      exact rs_sub _ a (q7 i (by have : i < qT Q + 1 := hi; omega) a ha)
  · show uN (qS Q) (qT Q) _ i = _ ∧ uN (qV Q) (qT Q) L i = _ ∧ sub_ (qF Q i) (uN (qF Q) (qT Q) f i) ∧ (i < E → uN (qF Q) (qT Q) f i = _)
    rw [sO i (by omega), fO i (by omega), vO i (by omega)]
    exact ⟨rfl, rfl, sub_.refl, fun _ => rfl⟩
  · show uN (qV Q) (qT Q) L (qT Q) ≤ L
    rw [vT]; exact Nat.le_refl _
  · show sub_ f (uN (qF Q) (qT Q) f (qT Q))
    rw [fT]; exact sub_.refl
/-- a state that is there, of this level -/
theorem q_old (ok : GOk G) (q : QP G E L Q) (h : SrcR G L f t x r) (hf : f < 512) (hx : x < 2 ^ hD (gH G)) (hr : r < 8) (ht : t ≤ gm G) (hd : dnQ G x r t < gm G) {i : Nat} (hi : i < qT Q) (hE : E ≤ i) (e : qS Q i = senc G (dnQ G x r t) x (rep (prt G x r))) : QP G E L (qOld Q i f (prt G x r)) ∧ QLe E Q (qOld Q i f (prt G x r)) ∧ Arr G (qOld Q i f (prt G x r)) L f x r t := by
  obtain ⟨q1, q2, q3, q4, q5, q6, q7⟩ := q
  have he := ent_new ok h hf hx hr hd
  rw [← e] at he
  have fI : uN (qF Q) i (qF Q i ||| f) i = qF Q i ||| f := if_pos rfl
  have fO : ∀ j, j ≠ i → uN (qF Q) i (qF Q i ||| f) j = qF Q j := fun j hj => if_neg hj
  have vi : qV Q i = L := (q2 i hi).2.2 hE
  refine ⟨⟨q1, fun j hj => ?_, q3, q4, q5, rs_or ok h hf hr ht q6, fun j hj a ha => rs_sub _ a (q7 j hj a ha)⟩, ⟨Nat.le_refl _, fun j hj => ⟨rfl, rfl, ?_, fun hjE => ?_⟩, fun z => ⟨z, rfl⟩, sub_.refl, rs_sub _⟩, Or.inr ⟨hd, i, hi, e, by show qV Q i ≤ L; omega, fun _ => ?_⟩⟩
  · show EntR G (qS Q j) (uN (qF Q) i (qF Q i ||| f) j) (qV Q j) ∧ _
    refine ⟨?_, (q2 j hj).2⟩
    by_cases ej : j = i
    · rw [ej, fI]
      obtain ⟨a1, a2, a3, a4, a5⟩ := (q2 i hi).1
      refine ⟨a1, a2, a3, b512 a4 hf, fun a ha => ?_⟩
      obtain ⟨b1, b2⟩ := a5 a ha
      obtain ⟨c1, c2⟩ := he.2.2.2.2 a ha
      rw [vi] at b1 b2 ⊢
      refine ⟨fun z => ⟨by rw [(b1 z).1, (c1 z).1]; rfl, (b1 z).2⟩, fun z => ⟨or_ne (c2 z).1, fun b hb => ?_⟩⟩
      rw [Nat.testBit_or, Bool.or_eq_true] at hb
      rcases hb with hb | hb
      · exact (b2 z).2 b hb
      · exact (c2 z).2 b hb
    · rw [fO j ej]; exact (q2 j hj).1
  · show sub_ (qF Q j) (uN (qF Q) i (qF Q i ||| f) j)
    by_cases ej : j = i
    · rw [ej, fI]; exact sub_.l
    · rw [fO j ej]; exact sub_.refl
  · show uN (qF Q) i (qF Q i ||| f) j = _
    exact fO j (by omega)
  · show sub_ f (uN (qF Q) i (qF Q i ||| f) i)
    rw [fI]; exact sub_.r
/-- a state that is there, of an earlier level -/
theorem q_non (ok : GOk G) (q : QP G E L Q) (h : SrcR G L f t x r) (hf : f < 512) (hr : r < 8) (ht : t ≤ gm G) (hd : dnQ G x r t < gm G) {i : Nat} (hi : i < qT Q) (hE : i < E) (e : qS Q i = senc G (dnQ G x r t) x (rep (prt G x r))) : QP G E L (qNon Q (prt G x r)) ∧ QLe E Q (qNon Q (prt G x r)) ∧ Arr G (qNon Q (prt G x r)) L f x r t := by
  obtain ⟨q1, q2, q3, q4, q5, q6, q7⟩ := q
  have vi : qV Q i < L := (q2 i hi).2.1 hE
  exact ⟨⟨q1, q2, q3, q4, q5, rs_or ok h hf hr ht q6, fun j hj a ha => rs_sub _ a (q7 j hj a ha)⟩, ⟨Nat.le_refl _, fun j hj => ⟨rfl, rfl, sub_.refl, fun _ => rfl⟩, fun z => ⟨z, rfl⟩, sub_.refl, rs_sub _⟩, Or.inr ⟨hd, i, hi, e, by show qV Q i ≤ L; omega, fun z => by exfalso; have : qV Q i = L := z; omega⟩⟩
/-- the firsts that go on from an entry by a door -/
def fbB (F d : Nat) : Nat := if F = 0 then 2 ^ d else F
/-- an entry has been left by all ways -/
def Prc (G : GP) (Q : QS) (i : Nat) : Prop := ∀ r d s, conn (gH G) (nI (eX G (qS Q i))) (eR (qS Q i)) r → opn G (eX G (qS Q i)) r d s → Arr G Q (qV Q i + 1) (fbB (qF Q i) d) (opx (eX G (qS Q i)) s d) r (eD G (qS Q i))
/-- all that can be reached has been arrived at -/
theorem q_all (ok : GOk G) {k : Nat} (q : QP G E k Q) (hp : ∀ i, i < qT Q → (qfd Q = true → qV Q i < k) → Prc G Q i) (h0 : Arr G Q 0 0 (gx G) (gr G) (adv (Qr (gg G) (gr G)) (gm G) 0)) {n f t x r : Nat} (hR : R G n f t x r) : (qfd Q = true ∧ (k < n ∨ (n = k ∧ (k = 0 ∨ (qff Q).testBit f = true)))) ∨ ∃ j, j < qT Q ∧ eX G (qS Q j) = x ∧ conn (gH G) (nI x) (eR (qS Q j)) r ∧ t ≤ eD G (qS Q j) ∧ qV Q j ≤ n ∧ (qV Q j = n → n = 0 ∨ (qF Q j).testBit f = true) := by
  have hr8 := ok.2.2.2.2.2
  refine R_ind (P := fun n f t x r => (qfd Q = true ∧ (k < n ∨ (n = k ∧ (k = 0 ∨ (qff Q).testBit f = true)))) ∨ ∃ j, j < qT Q ∧ eX G (qS Q j) = x ∧ conn (gH G) (nI x) (eR (qS Q j)) r ∧ t ≤ eD G (qS Q j) ∧ qV Q j ≤ n ∧ (qV Q j = n → n = 0 ∨ (qF Q j).testBit f = true)) ?_ ?_ ?_ hR
  · rcases h0 with ⟨a, b, c, d⟩ | ⟨a, j, b, c, d, e⟩
    · left
      have := (q.2.2.1 b).1
      exact ⟨b, Or.inr ⟨by omega, Or.inl (by omega)⟩⟩
    · right
      obtain ⟨U, u1, u2, u3, u4, u5, u6⟩ := prt_spec (x := gx G) ok hr8
      obtain ⟨d1, d2, d3⟩ := senc_dec (G := G) (d := dnQ G (gx G) (gr G) (adv (Qr (gg G) (gr G)) (gm G) 0)) ok.2.2.2.2.1 u4
      refine ⟨j, b, by rw [c, d2], ?_, ?_, d, fun _ => Or.inl rfl⟩
      · rw [c, d3]; exact conn_symm ok.1 hr8 u5
      · rw [c, d1]; exact adv_ge
  · rintro n f t x r r' hR (hl | ⟨j, b1, b2, b3, b4, b5, b6⟩) w
    · exact Or.inl hl
    · right
      have i := R_in ok hR
      obtain ⟨c1, c2⟩ := wk_conn ok.1 i.2.2.1 w
      have en := (q.2.1 j b1).1
      have he8 : eR (qS Q j) < 8 := Nat.mod_lt _ (by decide)
      have c3 := conn_trans ok.1 he8 i.2.2.1 b3 c2
      refine ⟨j, b1, b2, c3, adv_bound b4 (Nat.le_of_lt en.1) (fun _ => ?_), b5, b6⟩
      apply decide_eq_false
      intro e
      apply en.2.1
      rw [b2, e]
      exact c3
  · rintro n f t x r d s hR (hl | ⟨j, b1, b2, b3, b4, b5, b6⟩) w
    · left
      refine ⟨hl.1, Or.inl ?_⟩
      rcases hl.2 with z | z <;> omega
    · by_cases hk : qfd Q = true ∧ k ≤ n
      · exact Or.inl ⟨hk.1, Or.inl (by omega)⟩
      · have i := R_in ok hR
        have en := (q.2.1 j b1).1
        have he8 : eR (qS Q j) < 8 := Nat.mod_lt _ (by decide)
        have pj := hp j b1 (fun z => by
          have : ¬ k ≤ n := fun y => hk ⟨z, y⟩
          omega) r d s (by rw [b2]; exact b3) (by rw [b2]; exact w)
        rw [b2] at pj
        have i2 := R_in ok (R_open hR w)
        have t1 : adv (Qr (gg G) r) (gm G) t ≤ eD G (qS Q j) := adv_bound b4 (Nat.le_of_lt en.1) (fun _ => by
          apply decide_eq_false
          intro e
          apply en.2.1
          rw [b2, e]
          exact b3)
        have fb : qV Q j = n → ∀ b, b = fst1 n d f → (fbB (qF Q j) d).testBit b = true := by
          intro ev b eb
          have sr := en.2.2.2.2 r (by rw [b2]; exact b3)
          unfold fst1 at eb
          unfold fbB
          by_cases n0 : n = 0
          · rw [if_pos n0] at eb
            rw [if_pos (sr.1 (by omega)).1, eb, Nat.testBit_two_pow_self]
          · rw [if_neg n0] at eb
            rw [if_neg (sr.2 (by omega)).1, eb]
            rcases b6 ev with z | z
            · exact absurd z n0
            · exact z
        rcases pj with ⟨a, b, c, e⟩ | ⟨a, j', b, c, e, g⟩
        · left
          have fl := (q.2.2.1 b).1
          refine ⟨b, ?_⟩
          by_cases ev : qV Q j = n
          · right
            exact ⟨by omega, Or.inr (e _ (fb ev _ rfl))⟩
          · left; omega
        · right
          obtain ⟨U, u1, u2, u3, u4, u5, u6⟩ := prt_spec (x := opx x s d) ok i.2.2.1
          obtain ⟨d1, d2, d3⟩ := senc_dec (G := G) (d := dnQ G (opx x s d) r (eD G (qS Q j))) i2.2.1 u4
          refine ⟨j', b, by rw [c, d2], ?_, ?_, by omega, fun z => ?_⟩
          · rw [c, d3]; exact conn_symm ok.1 i.2.2.1 u5
          · rw [c, d1]; exact Nat.le_trans t1 adv_ge
          · right
            have ev : qV Q j = n := by omega
            exact g (by omega) _ (fb ev _ rfl)
end BF
