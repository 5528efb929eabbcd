/-! lost. -/
theorem lim_mono {D : DS} {k k' : Nat} (h : k ≤ k') (l : lim D k') : lim D k := ⟨Nat.lt_of_le_of_lt (Nat.add_le_add_left h _) l.1, Nat.lt_of_le_of_lt (Nat.add_le_add_left (Nat.mul_le_mul_right _ h) _) l.2⟩
theorem fx_mono {D D' : DS} {k k' : Nat} (h : k ≤ k') (l : fx D k D') : fx D k' D' := ⟨Nat.le_trans l.1 (Nat.add_le_add_left h _), Nat.le_trans l.2 (Nat.add_le_add_left (Nat.mul_le_mul_right _ h) _)⟩
theorem lim_fx {D D' : DS} {k c : Nat} (l : lim D (k + c)) (f : fx D k D') : lim D' c := by
  obtain ⟨l1, l2⟩ := l
  obtain ⟨f1, f2⟩ := f
  rw [Nat.add_mul, ← Nat.add_assoc] at l2
  exact ⟨Nat.lt_of_le_of_lt (Nat.add_le_add_right f1 c) (by rw [Nat.add_assoc]; exact l1), Nat.lt_of_le_of_lt (Nat.add_le_add_right f2 _) l2⟩
section Mk
variable {h h' g g' : xH} {w w' : Nat → Nat} {A : AS} {D : DS} {n : Nat}
def loB (A : AS) (v : Int32) (i : Nat) : Prop := ∀ k, k < 32 → (bt v k = true ↔ k < i ∧ NoBest (gOf A k (fun _ => 0) 1))
theorem loB_0 : loB A 0 0 := fun k hk => by
  rw [b_0]
  constructor
  · intro z; cases z
  · intro z; omega
theorem loB_y {v : Int32} {i : Nat} (hi : i < 32) (q : loB A v i) (nb : NoBest (gOf A i (fun _ => 0) 1)) : loB A (v ||| i_shl 1 (nI i)) (i + 1) := fun k hk => by
  rw [b_or, b_bit hi hk, Bool.or_eq_true, q k hk, decide_eq_true_eq]
  constructor
  · rintro (⟨z1, z2⟩ | z)
    · exact ⟨by omega, z2⟩
    · rw [z]; exact ⟨by omega, nb⟩
  · rintro ⟨z1, z2⟩
    by_cases e : k = i
    · exact Or.inr e
    · exact Or.inl ⟨by omega, z2⟩
theorem loB_n {v : Int32} {i : Nat} (q : loB A v i) (nb : ¬ NoBest (gOf A i (fun _ => 0) 1)) : loB A v (i + 1) := fun k hk => by
  rw [q k hk]
  constructor
  · rintro ⟨z1, z2⟩
    exact ⟨by omega, z2⟩
  · rintro ⟨z1, z2⟩
    by_cases e : k = i
    · rw [e] at z2; exact absurd z2 nb
    · exact ⟨by omega, z2⟩
theorem loB_u {v v' : Int32} {i : Nat} (q : loB A v i) (q' : loB A v' i) : v = v' := by
  apply b_ext
  intro k hk
  have : bt v k = true ↔ bt v' k = true := (q k hk).trans (q' k hk).symm
  cases z1 : bt v k <;> cases z2 : bt v' k <;> simp_all
theorem an_no {G : GP} {b : Int32} (x : ansC h G b) : (b = -1 ∧ NoBest G) ∨ (¬ b = -1 ∧ ¬ NoBest G) := by
  rcases x with x | ⟨k, f, x1, x2, x3, x4⟩
  · exact Or.inl x
  · refine Or.inr ⟨by rw [x1]; exact nI_nm1 (by omega), fun z => ?_⟩
    obtain ⟨x, r, y⟩ := x3.1
    exact z _ _ _ _ y
theorem an_no' {G : GP} {b : Int32} (x : ansM g G b) : (b = -1 ∧ NoBest G) ∨ (¬ b = -1 ∧ ¬ NoBest G) := by
  rcases x with x | ⟨k, f, x1, x2, x3, x4⟩
  · exact Or.inl x
  · refine Or.inr ⟨by rw [x1]; exact nI_nm1 (by omega), fun z => ?_⟩
    obtain ⟨x, r, y⟩ := x3.1
    exact z _ _ _ _ y
theorem c_lost (h9 : hD (zH A) ≤ 9) (h4 : hP (zH A) ≤ 4) (hn : 20000 ≤ n) : ∀ (c i k : Nat) (h : xH) (D : DS) (w : Nat → Nat) (v : Int32), c + i = hP (zH A) → c < k → JJ h D w A → lim D c → loB A v i → ∃ h' D' w' cc ss r, f_X6_lost_L23 n 16 k v (nI i) h = some ((r, h'), cc, ss) ∧ JR D w h' D' w' A c cc ss ∧ loB A r (hP (zH A))
  | 0, i, k, h, D, w, v, hc, hk, j, l, lb => by
    obtain ⟨k, rfl⟩ : ∃ x, k = x + 1 := ⟨k - 1, by omega⟩
    refine ⟨h, D, w, 0, 0, v, ?_, ⟨j, ⟨Nat.le_refl _, by omega⟩, Nat.le_refl _, Nat.le_refl _⟩, by rw [show hP (zH A) = i by omega]; exact lb⟩
    rw [f_X6_lost_L23, j.1.g0, Option.bind_some, j.1.H.P, Option.bind_some, if_pos (nI_le (show hP (zH A) ≤ i by omega) (by omega))]
  | c + 1, i, k, h, D, w, v, hc, hk, j, l, lb => by
    obtain ⟨k, rfl⟩ : ∃ x, k = x + 1 := ⟨k - 1, by omega⟩
    rw [Nat.add_comm c 1] at l
    obtain ⟨h1, b, c1, s1, D1, w1, e1, x1, an⟩ := j_to (n := n) j (p := i) (r := 0) (lim_mono (Nat.le_add_right 1 c) l) h9 (by omega) (by decide) hn
    have lm : lim D1 c := lim_fx l x1.2.1
    have st : f_X6_lost_L23 n 16 (k + 1) v (nI i) h = x_add c1 s1 (if b = -1 then f_X6_lost_L23 n 16 k (v ||| i_shl 1 (nI i)) (nI (i + 1)) h1 else f_X6_lost_L23 n 16 k v (nI (i + 1)) h1) := by
      rw [f_X6_lost_L23, j.1.g0, Option.bind_some, j.1.H.P, Option.bind_some, if_neg (nI_ge (b := hP (zH A)) (show i < hP (zH A) by omega) (by omega)), j.1.ob, Option.bind_some, show f_X6_fewestTo n h 16 (nI i) 0 = _ from e1, Option.bind_some, Option.bind_some, Option.bind_some, Option.bind_some, nI_1]
    rcases an_no an with ⟨z1, z2⟩ | ⟨z1, z2⟩
    · obtain ⟨h2, D2, w2, c2, s2, r, e2, x2, y2⟩ := c_lost h9 h4 hn c (i + 1) k h1 D1 w1 _ (by omega) (by omega) x1.1 lm (loB_y (by omega) lb z2)
      refine ⟨h2, D2, w2, c1 + c2, s1 + s2, r, ?_, ?_, y2⟩
      · rw [st, if_pos z1, e2, xad]
      · have := x1.trans x2
        rw [Nat.add_comm 1 c] at this
        exact this
    · obtain ⟨h2, D2, w2, c2, s2, r, e2, x2, y2⟩ := c_lost h9 h4 hn c (i + 1) k h1 D1 w1 _ (by omega) (by omega) x1.1 lm (loB_n lb z2)
      refine ⟨h2, D2, w2, c1 + c2, s1 + s2, r, ?_, ?_, y2⟩
      · rw [st, if_neg z1, e2, xad]
      · have := x1.trans x2
        rw [Nat.add_comm 1 c] at this
        exact this
theorem m_lost (ok : AOk A) (h9 : hD (zH A) ≤ 9) (hn : 700000 ≤ n) : ∀ (c i k : Nat) (g : xH) (w : Nat → Nat) (v : Int32), c + i = hP (zH A) → c < k → MIn g w A → (Nz g w ∨ ∃ a, w a = 3) → loB A v i → ∃ g' w' cc ss r, f_X7_lost_L20 n 64 k v (nI i) g = some ((r, g'), cc, ss) ∧ MX g w g' w' A cc ss ∧ loB A r (hP (zH A))
  | 0, i, k, g, w, v, hc, hk, q, hz, lb => by
    have h4 := ok.1.2.1
    obtain ⟨k, rfl⟩ : ∃ x, k = x + 1 := ⟨k - 1, by omega⟩
    refine ⟨g, w, 0, 0, v, ?_, MX.of q Fr.rfl, by rw [show hP (zH A) = i by omega]; exact lb⟩
    rw [f_X7_lost_L20, q.H.P, Option.bind_some, if_pos (nI_le (show hP (zH A) ≤ i by omega) (by omega))]
  | c + 1, i, k, g, w, v, hc, hk, q, hz, lb => by
    have h4 := ok.1.2.1
    obtain ⟨k, rfl⟩ : ∃ x, k = x + 1 := ⟨k - 1, by omega⟩
    obtain ⟨g1, w1, c1, s1, b, e1, x1, an, mk⟩ := m_to (n := n) (p := i) (r := 0) q hz ok h9 (by omega) (by decide) hn
    have st : f_X7_lost_L20 n 64 (k + 1) v (nI i) g = x_add c1 s1 (if b = -1 then f_X7_lost_L20 n 64 k (v ||| i_shl 1 (nI i)) (nI (i + 1)) g1 else f_X7_lost_L20 n 64 k v (nI (i + 1)) g1) := by
      rw [f_X7_lost_L20, q.H.P, Option.bind_some, if_neg (nI_ge (b := hP (zH A)) (show i < hP (zH A) by omega) (by omega)), q.ob, Option.bind_some, show f_X7_comingTo n g 64 (nI i) 0 = _ from e1, Option.bind_some, Option.bind_some, Option.bind_some, Option.bind_some, Option.bind_some, nI_1, Int32.or_zero]
    rcases an_no' an with ⟨z1, z2⟩ | ⟨z1, z2⟩
    · obtain ⟨g2, w2, c2, s2, r, e2, x2, y2⟩ := m_lost ok h9 hn c (i + 1) k g1 w1 _ (by omega) (by omega) x1.1 (Or.inr mk) (loB_y (by omega) lb z2)
      refine ⟨g2, w2, c1 + c2, s1 + s2, r, ?_, x1.trans x2, y2⟩
      rw [st, if_pos z1, e2, xad]
    · obtain ⟨g2, w2, c2, s2, r, e2, x2, y2⟩ := m_lost ok h9 hn c (i + 1) k g1 w1 _ (by omega) (by omega) x1.1 (Or.inr mk) (loB_n lb z2)
      refine ⟨g2, w2, c1 + c2, s1 + s2, r, ?_, x1.trans x2, y2⟩
      rw [st, if_neg z1, e2, xad]
theorem b_lost (j : JJ h D w A) (l : lim D 4) (hn : 700000 ≤ n) : JGt h D w A 4 (f_X6_lost n h 16) (fun g => f_X7_lost n g 64) := by
  obtain ⟨q, jm, jw, ok⟩ := id j
  have h14 := ok.1.1
  have h4 := ok.1.2.1
  by_cases h9 : hD (zH A) ≤ 9
  · have l9 : nI (hD (zH A)) ≤ (9 : Int32) := nI_le (b := 9) h9 (by decide)
    obtain ⟨h1, D1, w1, c1, s1, r, e1, x1, y1⟩ := c_lost (n := n) h9 h4 (by omega) (hP (zH A)) 0 n h D w 0 (by omega) (by omega) j (lim_mono h4 l) loB_0
    refine jg_of (k := 4) (r := r) ok (h1 := h1) (D1 := D1) (w1 := w1) (c := c1) (s := s1) ?_ ⟨x1.1, fx_mono h4 x1.2.1, x1.2.2⟩ (fun g w nz qg => ?_)
    · unfold f_X6_lost
      rw [q.g0, Option.bind_some, q.H.D, Option.bind_some, if_pos l9, show f_X6_lost_L23 n 16 n 0 0 h = _ from e1, Option.bind_some, xad, Nat.add_zero, Nat.add_zero]
    · obtain ⟨g2, w2, c2, s2, r2, e2, x2, y2⟩ := m_lost (n := n) ok h9 hn (hP (zH A)) 0 n g w 0 (by omega) (by omega) qg (Or.inl nz) loB_0
      refine ⟨g2, w2, c2, s2, ?_, x2⟩
      show f_X7_lost n g 64 = _
      unfold f_X7_lost
      rw [qg.H.D, Option.bind_some, if_pos l9, show f_X7_lost_L20 n 64 n 0 0 g = _ from e2, Option.bind_some, xad, Nat.add_zero, Nat.add_zero, loB_u y1 y2]
  · have l9 : ¬ nI (hD (zH A)) ≤ (9 : Int32) := nI_ge (b := hD (zH A)) (a := 9) (by omega) (by omega)
    refine jg_5 j ?_ (fun g w qg => ?_)
    · simp only [f_X6_lost, refCC, q.g0, q.H.D, Option.bind_some, eq_false l9, if_false]
    · simp only [f_X7_lost, refMM, qg.H.D, Option.bind_some, eq_false l9, if_false]
end Mk
