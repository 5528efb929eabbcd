/-! judge and told. -/
def plA (f : Nat → Int64) : Nat → Nat → HS → Sum Nat HS
  | 0, _, T => .inr T
  | c + 1, i, T => match sAct T (aW (f i)) (aO (f i)) (aD (f i)) (aS (f i)) with
    | none => .inl i
    | some T' => plA f c (i + 1) T'
theorem act_P {H H' : HS} {a o d s : Int32} (e : sAct H a o d s = some H') : hP H' = hP H := by
  unfold sAct at e
  split at e
  · cases e; rfl
  · split at e
    · split at e
      · cases e; rfl
      · split at e
        · cases e; rfl
        · split at e
          · cases e; rfl
          · cases e
    · cases e
theorem plA_P {f : Nat → Int64} : ∀ (c i : Nat) (T T' : HS), plA f c i T = .inr T' → hP T' = hP T
  | 0, _, T, T', e => by cases e; rfl
  | c + 1, i, T, T', e => by
    unfold plA at e
    cases z : sAct T (aW (f i)) (aO (f i)) (aD (f i)) (aS (f i)) with
    | none => rw [z] at e; cases e
    | some T1 =>
      rw [z] at e
      exact (plA_P c (i + 1) T1 T' e).trans (act_P z)
theorem plA_lt {f : Nat → Int64} : ∀ (c i : Nat) (T : HS) (y : Nat), plA f c i T = .inl y → y < c + i
  | 0, _, T, y, e => by cases e
  | c + 1, i, T, y, e => by
    unfold plA at e
    cases z : sAct T (aW (f i)) (aO (f i)) (aD (f i)) (aS (f i)) with
    | none => rw [z] at e; cases e; omega
    | some T1 =>
      rw [z] at e
      have := plA_lt c (i + 1) T1 y e
      omega
section Mk
variable {h h' g g' : xH} {w w' : Nat → Nat} {A : AS} {D : DS} {F : Nat → Nat → Prop} {P : Nat → Prop} {n : Nat}
/-- what the class finds on the shelf -/
theorem c_row {j k : Nat} (q : CI h D A) (hj : j < 8) (hk : k < 5) (e : (zS A j).1 = nI k) {i : Nat} (hi : i < 40) : x_ldL h (49 + 2 * j) (nI i) = some ((zS A j).2.2 i) := by
  obtain ⟨q1, q2, q3, f, q4, q5⟩ := q.s1 hj
  rw [AtL.ld q4 hi (by decide), q5 ⟨k, hk, e⟩ i hi]
theorem c_playL {j k5 z m : Nat} (hj : j < 8) (hk : k5 < 5) (e0 : (zS A j).1 = nI k5) (e1 : (zS A j).2.1 = nI z) (hz : z ≤ 40) (hm : m ≤ z) (hn : 20 ≤ n) : ∀ (c i k : Nat) (h : xH) (T : HS), c + i = m → c < k → CI h D A → HAt h 22 T → HOk T → ∃ h', CI h' D A ∧ FrC D h h' ∧ match plA (zS A j).2.2 c i T with
    | .inl y => f_X6_playActs_L13 n 16 (48 + 2 * j) (nI m) k (nI i) h = some (.inl (nI y, h'))
    | .inr T' => f_X6_playActs_L13 n 16 (48 + 2 * j) (nI m) k (nI i) h = some (.inr h') ∧ HAt h' 22 T' ∧ HOk T'
  | 0, i, k, h, T, hc, hk', q, qT, okT => by
    refine ⟨h, q, Fr.rfl, ?_⟩
    unfold plA
    refine ⟨?_, qT, okT⟩
    obtain ⟨k, rfl⟩ : ∃ x, k = x + 1 := ⟨k - 1, by omega⟩
    rw [f_X6_playActs_L13, if_pos (show nI m ≤ nI i by rw [show i = m by omega]; exact nI_le (Nat.le_refl _) (by omega))]
  | c + 1, i, k, h, T, hc, hk', q, qT, okT => by
    obtain ⟨k, rfl⟩ : ∃ x, k = x + 1 := ⟨k - 1, by omega⟩
    obtain ⟨h1, e2, a1, f1⟩ := h_playAct (n := n) (a := (zS A j).2.2 i) qT okT hn
    obtain ⟨c1, d1⟩ := q.trial a1 f1
    have ok1 := ok_act okT (aW ((zS A j).2.2 i)) (aO ((zS A j).2.2 i)) (aD ((zS A j).2.2 i)) (aS ((zS A j).2.2 i))
    have st : f_X6_playActs_L13 n 16 (48 + 2 * j) (nI m) (k + 1) (nI i) h = if bI (sAct T (aW ((zS A j).2.2 i)) (aO ((zS A j).2.2 i)) (aD ((zS A j).2.2 i)) (aS ((zS A j).2.2 i))).isSome = 0 then some (.inl (nI i, h1)) else f_X6_playActs_L13 n 16 (48 + 2 * j) (nI m) k (nI (i + 1)) h1 := by
      have g1 := (q.s1 hj).g1
      rw [e1] at g1
      simp only [f_X6_playActs_L13, if_neg (show ¬ nI m ≤ nI i from nI_ge (b := m) (by omega) (by omega)), g1, if_neg (show ¬ nI z ≤ nI i from nI_ge (b := z) (by omega) (by omega)), q.g1, (q.s1 hj).g2, c_row q hj hk e0 (show i < 40 by omega), qT.ob, e2, Option.bind_some, nI_1]
    unfold plA
    cases z : sAct T (aW ((zS A j).2.2 i)) (aO ((zS A j).2.2 i)) (aD ((zS A j).2.2 i)) (aS ((zS A j).2.2 i)) with
    | none =>
      rw [z] at st
      exact ⟨h1, c1, d1, st⟩
    | some T' =>
      rw [z] at st a1 ok1
      obtain ⟨h2, r1, r2, r3⟩ := c_playL hj hk e0 e1 hz hm hn c (i + 1) k h1 T' (by omega) (by omega) c1 a1 ok1
      refine ⟨h2, r1, d1.trans r2, ?_⟩
      dsimp only
      cases z2 : plA (zS A j).2.2 c (i + 1) T' with
      | inl y =>
        rw [z2] at r3
        dsimp only at r3 ⊢
        rw [st]; exact r3
      | inr T2 =>
        rw [z2] at r3
        dsimp only at r3 ⊢
        exact ⟨by rw [st]; exact r3.1, r3.2⟩
theorem c_play {j k5 z m : Nat} (q : CI h D A) (ok : AOk A) (hj : j < 8) (hk : k5 < 5) (e0 : (zS A j).1 = nI k5) (e1 : (zS A j).2.1 = nI z) (hz : z ≤ 40) (hm : m ≤ z) (hn : 50 ≤ n) : ∃ h', CI h' D A ∧ FrC D h h' ∧ match plA (zS A j).2.2 m 0 (zH A) with
    | .inl y => f_X6_playActs n h 16 (48 + 2 * j) (nI m) = some (nI y, h')
    | .inr T' => f_X6_playActs n h 16 (48 + 2 * j) (nI m) = some (-1, h') ∧ HAt h' 22 T' ∧ HOk T' := by
  obtain ⟨T0, qT0⟩ := q.2.2.1
  obtain ⟨h1, e2, a1, f1⟩ := h_become (n := n) (b := 22) (o := 17) ok.1 (Or.inr (by omega)) (by omega) qT0 q.H
  obtain ⟨c1, d1⟩ := q.trial a1 f1
  obtain ⟨h2, r1, r2, r3⟩ := c_playL (n := n) hj hk e0 e1 hz hm (by omega) m 0 n h1 (zH A) (by omega) (by omega) c1 a1 ok.1
  refine ⟨h2, r1, Fr.trans d1 r2, ?_⟩
  unfold f_X6_playActs
  simp only [q.g1, q.g0, qT0.ob, e2, Option.bind_some]
  cases z2 : plA (zS A j).2.2 m 0 (zH A) with
  | inl y =>
    rw [z2] at r3
    dsimp only at r3 ⊢
    rw [show f_X6_playActs_L13 n 16 (48 + 2 * j) (nI m) n 0 h1 = _ from r3, Option.bind_some]
  | inr T2 =>
    rw [z2] at r3
    dsimp only at r3 ⊢
    refine ⟨?_, r3.2⟩
    rw [show f_X6_playActs_L13 n 16 (48 + 2 * j) (nI m) n 0 h1 = _ from r3.1, Option.bind_some]
/-- the reference's row -/
theorem m_row {j k : Nat} (q : MIn g w A) (hj : j < 8) (hk : k < 5) (e : (zS A j).1 = nI k) {i : Nat} (hi : i < 40) : x_ldQ g 68 (nI j) = some (69 + j) ∧ x_ldL g (69 + j) (nI i) = some ((zS A j).2.2 i) := by
  obtain ⟨f0, f1, f2, f5, gg, ⟨a0, b1, b2, a5, ⟨fo, ao1, ao2⟩, al, gv, gv1⟩, sh⟩ := q.2.2.1
  exact ⟨ao1.ld rfl hj (by decide) (ao2 j hj), by rw [AtL.ld (al j hj) hi (by decide), ((sh j hj).2.1 k hk e).2.2.2 i hi]⟩
theorem m_playL {j k5 m o : Nat} (hj : j < 8) (hk : k5 < 5) (e0 : (zS A j).1 = nI k5) (hm : m ≤ 40) (qc : ∀ a, cellM o a → w a = 2) (hn : 20 ≤ n) : ∀ (c i k : Nat) (g : xH) (T : HS), c + i = m → c < k → MIn g w A → x_get g 64 7 19 = some (.ref o) → MH g o T → HOk T → ∃ g', MIn g' w A ∧ FrR w g g' ∧ x_get g' 64 7 19 = some (.ref o) ∧ match plA (zS A j).2.2 c i T with
    | .inl y => f_X7_goThrough_L8 n 64 (nI j) (nI m) o k (nI i) g = some (.inl (nI y, g'))
    | .inr T' => f_X7_goThrough_L8 n 64 (nI j) (nI m) o k (nI i) g = some (.inr g') ∧ MH g' o T' ∧ HOk T'
  | 0, i, k, g, T, hc, hk', q, e19, qT, okT => by
    refine ⟨g, q, Fr.rfl, e19, ?_⟩
    unfold plA
    refine ⟨?_, qT, okT⟩
    obtain ⟨k, rfl⟩ : ∃ x, k = x + 1 := ⟨k - 1, by omega⟩
    rw [f_X7_goThrough_L8, if_pos (show nI m ≤ nI i by rw [show i = m by omega]; exact nI_le (Nat.le_refl _) (by omega))]
  | c + 1, i, k, g, T, hc, hk', q, e19, qT, okT => by
    obtain ⟨k, rfl⟩ : ∃ x, k = x + 1 := ⟨k - 1, by omega⟩
    have o1 := q.big (by decide) (qc o (Or.inl rfl))
    obtain ⟨g1, e2, a1, f1⟩ := m_does (n := n) (a := (zS A j).2.2 i) qT okT hn
    obtain ⟨c1, d1⟩ := q.tryd e19 a1 qc f1
    have e19' := f1.1 _ _ _ _ (fun z => by omega) e19
    have ok1 := ok_act okT (aW ((zS A j).2.2 i)) (aO ((zS A j).2.2 i)) (aD ((zS A j).2.2 i)) (aS ((zS A j).2.2 i))
    have st : f_X7_goThrough_L8 n 64 (nI j) (nI m) o (k + 1) (nI i) g = if bI (sAct T (aW ((zS A j).2.2 i)) (aO ((zS A j).2.2 i)) (aD ((zS A j).2.2 i)) (aS ((zS A j).2.2 i))).isSome = 0 then some (.inl (nI i, g1)) else f_X7_goThrough_L8 n 64 (nI j) (nI m) o k (nI (i + 1)) g1 := by
      obtain ⟨r1, r2⟩ := m_row q hj hk e0 (show i < 40 by omega)
      have r3 : x_gR g 64 7 3 = some 68 := q.g (k := 3) (by omega)
      simp only [f_X7_goThrough_L8, if_neg (show ¬ nI m ≤ nI i from nI_ge (b := m) (by omega) (by omega)), r3, r1, r2, qT.ob, e2, Option.bind_some, nI_1]
    unfold plA
    cases z : sAct T (aW ((zS A j).2.2 i)) (aO ((zS A j).2.2 i)) (aD ((zS A j).2.2 i)) (aS ((zS A j).2.2 i)) with
    | none =>
      rw [z] at st
      exact ⟨g1, c1, d1, e19', st⟩
    | some T' =>
      rw [z] at st a1 ok1
      obtain ⟨g2, r1, r2, r3, r4⟩ := m_playL hj hk e0 hm qc hn c (i + 1) k g1 T' (by omega) (by omega) c1 e19' a1 ok1
      refine ⟨g2, r1, d1.trans r2, r3, ?_⟩
      dsimp only
      cases z2 : plA (zS A j).2.2 c (i + 1) T' with
      | inl y =>
        rw [z2] at r4
        dsimp only at r4 ⊢
        rw [st]; exact r4
      | inr T2 =>
        rw [z2] at r4
        dsimp only at r4 ⊢
        exact ⟨by rw [st]; exact r4.1, r4.2⟩
theorem m_play {j k5 m : Nat} (q : MIn g w A) (nz : Nz g w) (ok : AOk A) (hj : j < 8) (hk : k5 < 5) (e0 : (zS A j).1 = nI k5) (hm : m ≤ 40) (hn : 50 ≤ n) : ∃ g' w' c s o, MX g w g' w' A c s ∧ x_get g' 64 7 19 = some (.ref o) ∧ match plA (zS A j).2.2 m 0 (zH A) with
    | .inl y => f_X7_goThrough n g 64 (nI j) (nI m) = some ((nI y, g'), c, s)
    | .inr T' => f_X7_goThrough n g 64 (nI j) (nI m) = some ((-1, g'), c, s) ∧ MH g' o T' ∧ HOk T' := by
  obtain ⟨g1, w1, c, s, o, y1, y2, y3, y4, y5⟩ := m_fresh (n := n) q nz ok (by omega)
  obtain ⟨g2, r1, r2, r3, r4⟩ := m_playL (n := n) hj hk e0 hm y5 (by omega) m 0 n g1 (zH A) (by omega) (by omega) y2.1 y3 y4 ok.1
  refine ⟨g2, w1, c, s, o, y2.st r1 r2, r3, ?_⟩
  unfold f_X7_goThrough
  simp only [q.ob, y1, Option.bind_some]
  cases z2 : plA (zS A j).2.2 m 0 (zH A) with
  | inl y =>
    rw [z2] at r4
    dsimp only at r4 ⊢
    rw [show f_X7_goThrough_L8 n 64 (nI j) (nI m) o n 0 g1 = _ from r4, Option.bind_some]
    rfl
  | inr T2 =>
    rw [z2] at r4
    dsimp only at r4 ⊢
    refine ⟨?_, r4.2⟩
    rw [show f_X7_goThrough_L8 n 64 (nI j) (nI m) o n 0 g1 = _ from r4.1, Option.bind_some]
    rfl
/-- the reference's look at a told row -/
theorem mt_1 (q : MIn g w A) {p1 p2 p3 : Int32} (c : ¬ sIs 8 p1 = true) : f_X7_noTold g 64 p1 p2 p3 = refM7 g (-2) := by
  simp only [f_X7_noTold, m_is8, sIs_no c, i0, Option.bind_some, refM7]
theorem mt_2 (q : MIn g w A) {p1 p2 p3 : Int32} {K : Nat} (hK : K < 100) (e : p3.toInt64.toInt = K) (c : sIs 8 p1 = true) (c2 : ¬ sIs (K + 1) p2 = true) : f_X7_noTold g 64 p1 p2 p3 = refM7 g (-2) := by
  simp only [f_X7_noTold, m_is8, c, i1, m_is (k := K + 1) (show K + 1 < 2 ^ 31 by omega) (hi := p3.toInt64) (by rw [e]; omega), sIs_no c2, i0, Option.bind_some, refM7]
theorem mt_3 (q : MIn g w A) {p2 p3 : Int32} {K j : Nat} (hj : j < 8) (hK : K < 100) (e : p3.toInt64.toInt = K) (c2 : sIs (K + 1) p2 = true) (z : (zS A j).1 = -1) : f_X7_noTold g 64 (nI j) p2 p3 = refM7 g (-4) := by
  obtain ⟨f0, f1, f2, f5, gg, ⟨a0, -⟩, s⟩ := q.2.2.1
  have := m_nr q hj a0 ((s j hj).1 z)
  rw [if_neg (by decide), if_pos rfl] at this
  have c : sIs 8 (nI j) = true := (sIs_iff (by decide) _).mpr ⟨j, hj, rfl⟩
  unfold f_X7_noTold
  rw [m_is8, c, Option.bind_some, i1, m_is (k := K + 1) (show K + 1 < 2 ^ 31 by omega) (hi := p3.toInt64) (by rw [e]; omega), c2, Option.bind_some, i1, q.ob, Option.bind_some, this]
  exact ref_pass q (i := 2) (p := -4) (by decide) (by decide) (by decide) _
theorem mt_4 (q : MIn g w A) {p2 p3 : Int32} {K j d : Nat} (hj : j < 8) (hK : K < 100) (e : p3.toInt64.toInt = K) (c2 : sIs (K + 1) p2 = true) (hd : d < 14) (z : (zS A j).1 = nI (10 + d)) : f_X7_noTold g 64 (nI j) p2 p3 = refM7 g (-3) := by
  obtain ⟨f0, f1, f2, f5, gg, ⟨a0, -⟩, s⟩ := q.2.2.1
  have := m_nr q hj a0 ((s j hj).2.2 d hd z).1
  rw [if_pos rfl] at this
  have c : sIs 8 (nI j) = true := (sIs_iff (by decide) _).mpr ⟨j, hj, rfl⟩
  unfold f_X7_noTold
  rw [m_is8, c, Option.bind_some, i1, m_is (k := K + 1) (show K + 1 < 2 ^ 31 by omega) (hi := p3.toInt64) (by rw [e]; omega), c2, Option.bind_some, i1, q.ob, Option.bind_some, this]
  exact ref_pass q (i := 1) (p := -3) (by decide) (by decide) (by decide) _
theorem mt_5 (q : MIn g w A) {p3 : Int32} {K j k z m : Nat} (hj : j < 8) (hK : K < 100) (e : p3.toInt64.toInt = K) (hm : m ≤ K) (hk : k < 5) (e0 : (zS A j).1 = nI k) (e1 : (zS A j).2.1 = nI z) (hz : z ≤ 40) : f_X7_noTold g 64 (nI j) (nI m) p3 = if m ≤ z then some (0, g) else refM7 g (-2) := by
  obtain ⟨f0, f1, f2, f5, gg, ⟨a0, a1, a2, -⟩, s⟩ := q.2.2.1
  obtain ⟨t1, t2, t3, -⟩ := (s j hj).2.1 k hk e0
  have := m_nr q hj a0 t1
  rw [if_neg (by decide), if_neg (by decide)] at this
  have c : sIs 8 (nI j) = true := (sIs_iff (by decide) _).mpr ⟨j, hj, rfl⟩
  have c2 : sIs (K + 1) (nI m) = true := (sIs_iff (by omega) _).mpr ⟨m, by omega, rfl⟩
  have l2 := At.ld a2 hj (by decide)
  rw [t3, e1] at l2
  unfold f_X7_noTold
  rw [m_is8, c, Option.bind_some, i1, m_is (k := K + 1) (show K + 1 < 2 ^ 31 by omega) (hi := p3.toInt64) (by rw [e]; omega), c2, Option.bind_some, i1, q.ob, Option.bind_some, this, Option.bind_some]
  dsimp only
  rw [if_pos rfl, show x_gR g 64 7 2 = some 67 from q.g (k := 2) (by omega), Option.bind_some, l2, Option.bind_some]
  by_cases hmz : m ≤ z
  · rw [if_pos (nI_le hmz (by omega)), if_pos hmz]
  · rw [if_neg (nI_ge (b := m) (show z < m by omega) (by omega)), if_neg hmz]
    unfold refM7
    rw [q.ob]
theorem ref_pass' (q : MIn g w A) {i : Nat} (hi : i < 5) {p : Int32} (hp : -p = nI (2 + i)) (hp0 : ¬ p = 0) (F : Int32 × xH → Option ((Int32 × xH) × Nat × Nat)) : ((refM7 g p).bind fun q2 => if q2.1 = 0 then F q2 else some ((q2.1, q2.2), 0, 0)) = refMM g p := by
  obtain ⟨g', e, -, -⟩ := m_ref80 q hi hp
  unfold refM7 refMM
  rw [q.ob, Option.bind_some, Option.bind_some, e, Option.bind_some, Option.bind_some]
  dsimp only
  rw [if_neg hp0, Option.bind_some]
theorem e20 : (20 : Int32).toInt64.toInt = ((20 : Nat) : Int) := by decide
theorem le20 (m : Nat) (hm : m < 21) : nI m ≤ (20 : Int32) := nI_le (b := 20) (show m ≤ 20 by omega) (by decide)
theorem n20 {p : Int32} (c : ¬ sIs 21 p = true) (h0 : ¬ p < 0) : ¬ p ≤ 20 := fun z => by
  apply c
  rw [sIs_toInt (by decide)]
  rw [lt0] at h0
  have := (leN (k := 20) (by decide) p).mp z
  simp only [Bool.and_eq_true, decide_eq_true_eq]
  omega
/-- judge -/
theorem cj_row {j k z m : Nat} (q : CI h D A) (hj : j < 8) (hm : m < 21) (hk : k < 5) (z1 : (zS A j).1 = nI k) (z2 : (zS A j).2.1 = nI z) (hz : z ≤ 40) (hmz : m ≤ z) : f_X6_judge n h 16 (nI j) (nI m) = (f_X6_playActs n h 16 (48 + 2 * j) (nI m)).bind fun q12 => some (q12.1, q12.2) := by
  have rr := c_rr2 (q.s1 hj) hk z1 (nI m)
  rw [z2, if_pos (nI_le hmz (by omega))] at rr
  have l20' : nI m ≤ (20 : Int32) := nI_le (b := 20) (show m ≤ 20 by omega) (by decide)
  have c : sIs 8 (nI j) = true := (sIs_iff (by decide) _).mpr ⟨j, hj, rfl⟩
  unfold f_X6_judge
  rw [c_is8, Option.bind_some, c, i1, if_neg (show ¬ nI m < 0 from nI_pos (by omega)), if_pos (show nI m ≤ 20 from l20'), q.g4, Option.bind_some, q.ldS hj, Option.bind_some, rr, Option.bind_some, if_pos (show (0 : Int32) = 0 from rfl), Option.bind_some, q.ldS hj, Option.bind_some, q.ob, Option.bind_some]
theorem mj_row {j k z m : Nat} (q : MIn g w A) (hj : j < 8) (hm : m < 21) (hk : k < 5) (z1 : (zS A j).1 = nI k) (z2 : (zS A j).2.1 = nI z) (hz : z ≤ 40) (hmz : m ≤ z) : f_X7_judge n g 64 (nI j) (nI m) = (f_X7_goThrough n g 64 (nI j) (nI m)).bind fun q4 => x_add q4.2.1 q4.2.2 (some ((q4.1.1, q4.1.2), 0, 0)) := by
  unfold f_X7_judge
  rw [q.ob, Option.bind_some, mt_5 q hj (K := 20) (by decide) e20 (by omega) hk z1 z2 hz, if_pos hmz, Option.bind_some]
  dsimp only
  rw [if_pos rfl, q.ob, Option.bind_some]
theorem b_judgeR {j k z m : Nat} (q : CI h D A) (ok : AOk A) (hj : j < 8) (hm : m < 21) (hk : k < 5) (z1 : (zS A j).1 = nI k) (z2 : (zS A j).2.1 = nI z) (hz : z ≤ 40) (hmz : m ≤ z) (hn : 50 ≤ n) : BMt h D A (f_X6_judge n h 16 (nI j) (nI m)) (fun g => f_X7_judge n g 64 (nI j) (nI m)) := by
  obtain ⟨h2, r1, r2, r3⟩ := c_play (n := n) q ok hj hk z1 z2 hz hmz hn
  have aux : ∀ r, (f_X6_playActs n h 16 (48 + 2 * j) (nI m) = some (r, h2)) → (∀ g w, Nz g w → MIn g w A → ∃ g' w' cc ss, MX g w g' w' A cc ss ∧ f_X7_goThrough n g 64 (nI j) (nI m) = some ((r, g'), cc, ss)) → BMt h D A (f_X6_judge n h 16 (nI j) (nI m)) (fun g => f_X7_judge n g 64 (nI j) (nI m)) := fun r e1 e2 => by
    refine ⟨r, A, ⟨h2, ?_, r1, r2⟩, fun g w nz qg => ?_, ok⟩
    · rw [cj_row q hj hm hk z1 z2 hz hmz, e1, Option.bind_some]
    · obtain ⟨g', w', cc, ss, y1, y2⟩ := e2 g w nz qg
      refine ⟨g', w', cc, ss, ?_, y1⟩
      show f_X7_judge n g 64 (nI j) (nI m) = _
      rw [mj_row qg hj hm hk z1 z2 hz hmz, y2, Option.bind_some, xad, Nat.add_zero, Nat.add_zero]
  cases z3 : plA (zS A j).2.2 m 0 (zH A) with
  | inl y =>
    rw [z3] at r3
    dsimp only at r3
    refine aux (nI y) r3 (fun g w nz qg => ?_)
    obtain ⟨g', w', cc, ss, o, y1, y2, y3⟩ := m_play (n := n) (m := m) qg nz ok hj hk z1 (by omega) hn
    rw [z3] at y3
    exact ⟨g', w', cc, ss, y1, y3⟩
  | inr T =>
    rw [z3] at r3
    dsimp only at r3
    refine aux (-1) r3.1 (fun g w nz qg => ?_)
    obtain ⟨g', w', cc, ss, o, y1, y2, y3⟩ := m_play (n := n) (m := m) qg nz ok hj hk z1 (by omega) hn
    rw [z3] at y3
    exact ⟨g', w', cc, ss, y1, y3.1⟩
theorem b_judge (q : CI h D A) (ok : AOk A) (p1 p2 : Int32) (hn : 50 ≤ n) : BMt h D A (f_X6_judge n h 16 p1 p2) (fun g => f_X7_judge n g 64 p1 p2) := by
  by_cases c : sIs 8 p1 = true
  · by_cases c2 : sIs 21 p2 = true
    · obtain ⟨j, hj, rfl⟩ := (sIs_iff (by decide) p1).mp c
      obtain ⟨m, hm, rfl⟩ := (sIs_iff (by decide) p2).mp c2
      have n0 : ¬ nI m < 0 := nI_pos (by omega)
      have l20 := le20 m hm
      have qs := q.s1 hj
      rcases ok.2.2.1 j hj with ⟨z1, z2⟩ | ⟨k, z, hk, hz, z1, z2⟩ | ⟨d, hd, z1, z2⟩
      · refine bm_ref4 q ok ?_ (fun g w qg => ?_)
        · simp only [f_X6_judge, refC, c_is8, c, i1, Option.bind_some, eq_false n0, eq_true l20, if_true, if_false, q.g4, q.ldS hj, c_rr1 qs z1, eq_false (show ¬ (-4 : Int32) = 0 by decide), if_false]
        · show f_X7_judge n g 64 (nI j) (nI m) = _
          unfold f_X7_judge
          rw [qg.ob, Option.bind_some, mt_3 qg hj (K := 20) (by decide) e20 c2 z1]
          exact ref_pass' qg (i := 2) (by decide) (by decide) (by decide) _
      · by_cases hmz : m ≤ z
        · exact b_judgeR q ok hj hm hk z1 z2 hz hmz hn
        · have rr := c_rr2 qs hk z1 (nI m)
          rw [z2, if_neg (nI_ge (b := m) (show z < m by omega) (by omega))] at rr
          refine bm_ref2 q ok ?_ (fun g w qg => ?_)
          · simp only [f_X6_judge, refC, c_is8, c, i1, Option.bind_some, eq_false n0, eq_true l20, if_true, if_false, q.g4, q.ldS hj, rr, eq_false (show ¬ (-2 : Int32) = 0 by decide), if_false]
          · show f_X7_judge n g 64 (nI j) (nI m) = _
            unfold f_X7_judge
            rw [qg.ob, Option.bind_some, mt_5 qg hj (K := 20) (by decide) e20 (by omega) hk z1 z2 hz, if_neg hmz]
            exact ref_pass' qg (i := 0) (by decide) (by decide) (by decide) _
      · refine bm_ref3 q ok ?_ (fun g w qg => ?_)
        · simp only [f_X6_judge, refC, c_is8, c, i1, Option.bind_some, eq_false n0, eq_true l20, if_true, if_false, q.g4, q.ldS hj, c_rr3 qs hd z1, eq_false (show ¬ (-3 : Int32) = 0 by decide), if_false]
        · show f_X7_judge n g 64 (nI j) (nI m) = _
          unfold f_X7_judge
          rw [qg.ob, Option.bind_some, mt_4 qg hj (K := 20) (by decide) e20 c2 hd z1]
          exact ref_pass' qg (i := 1) (by decide) (by decide) (by decide) _
    · refine bm_ref2 q ok ?_ (fun g w qg => ?_)
      · by_cases n0 : p2 < 0
        · simp only [f_X6_judge, refC, c_is8, c, i1, Option.bind_some, eq_true n0, if_true]
        · simp only [f_X6_judge, refC, c_is8, c, i1, Option.bind_some, eq_false n0, eq_false (n20 c2 n0), if_false]
      · show f_X7_judge n g 64 p1 p2 = _
        unfold f_X7_judge
        rw [qg.ob, Option.bind_some, mt_2 qg (K := 20) (by decide) e20 c c2]
        exact ref_pass' qg (i := 0) (by decide) (by decide) (by decide) _
  · refine bm_ref2 q ok ?_ (fun g w qg => ?_)
    · simp only [f_X6_judge, refC, c_is8, sIs_no c, i0, Option.bind_some]
    · show f_X7_judge n g 64 p1 p2 = _
      unfold f_X7_judge
      rw [qg.ob, Option.bind_some, mt_1 qg c]
      exact ref_pass' qg (i := 0) (by decide) (by decide) (by decide) _
end Mk
