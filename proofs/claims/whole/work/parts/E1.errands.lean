/-! errands. -/
def rmV (v : Int64) : Bool := decide (0 ≤ v.toInt) && decide (v.toInt ≤ 7)
theorem of8 : ∀ k, k < 8 → (Int64.ofNat k).toInt = (k : Int) ∧ (Int64.ofNat k).toInt32 = nI k := by decide +kernel
theorem rm_ex {v : Int64} (r : rmV v = true) : v.toInt.toNat < 8 ∧ v.toInt32 = nI v.toInt.toNat := by
  unfold rmV at r
  rw [Bool.and_eq_true, decide_eq_true_eq, decide_eq_true_eq] at r
  have h8 : v.toInt.toNat < 8 := by omega
  have e : v = Int64.ofNat v.toInt.toNat := Int64.toInt_inj.mp (by rw [(of8 _ h8).1]; omega)
  refine ⟨h8, ?_⟩
  conv => lhs; rw [e]
  exact (of8 _ h8).2
def erB (f : Nat → Int64) : Nat → Nat → Bool
  | 0, _ => true
  | c + 1, i => rmV (f i) && erB f c (i + 1)
theorem erB_all {f : Nat → Int64} : ∀ (c i : Nat), erB f c i = true → ∀ j, i ≤ j → j < c + i → rmV (f j) = true
  | 0, i, _, j, h1, h2 => by omega
  | c + 1, i, e, j, h1, h2 => by
    unfold erB at e
    rw [Bool.and_eq_true] at e
    by_cases z : j = i
    · rw [z]; exact e.1
    · exact erB_all c (i + 1) e.2 j (by omega) (by omega)
section Mk
variable {h h' g g' : xH} {w w' : Nat → Nat} {A : AS} {D : DS} {n : Nat}
theorem c_rm (v : Int64) : (rmV v = true ∧ ¬ lg_cmp v 0 < 0 ∧ lg_cmp v 8 < 0) ∨ (rmV v = false ∧ (lg_cmp v 0 < 0 ∨ (¬ lg_cmp v 0 < 0 ∧ ¬ lg_cmp v 8 < 0))) := by
  rw [lg_lt, lg_lt, Int64.lt_iff_toInt_lt, Int64.lt_iff_toInt_lt, show (0 : Int64).toInt = 0 from rfl, show (8 : Int64).toInt = 8 from rfl]
  unfold rmV
  by_cases a : 0 ≤ v.toInt
  · by_cases b : v.toInt ≤ 7
    · left; rw [decide_eq_true a, decide_eq_true b]; exact ⟨rfl, by omega, by omega⟩
    · right; rw [decide_eq_true a, decide_eq_false b]; exact ⟨rfl, Or.inr ⟨by omega, by omega⟩⟩
  · right; rw [decide_eq_false a]; exact ⟨rfl, Or.inl (by omega)⟩
theorem m_rm (v : Int64) : f_X7_isRoom g v = some (bI (rmV v)) := by
  unfold f_X7_isRoom f_X7_in
  have e1 : lg_cmp v 0 < 0 ↔ v.toInt < 0 := by rw [lg_lt, Int64.lt_iff_toInt_lt, show (0 : Int64).toInt = 0 from rfl]
  have e2 : 0 < lg_cmp v 7 ↔ 7 < v.toInt := by rw [lg_gt, Int64.lt_iff_toInt_lt, show (7 : Int64).toInt = 7 from rfl]
  unfold rmV
  by_cases a : 0 ≤ v.toInt
  · rw [if_neg (fun z => by have := e1.mp z; omega), decide_eq_true a]
    by_cases b : v.toInt ≤ 7
    · rw [if_neg (fun z => by have := e2.mp z; omega), decide_eq_true b]; rfl
    · rw [if_pos (e2.mpr (by omega)), decide_eq_false b]; rfl
  · rw [if_pos (e1.mpr (by omega)), decide_eq_false a]; rfl
theorem c_errL {j k5 m : Nat} {p1 : Int32} (hj : j < 8) (hk5 : k5 < 5) (e0 : (zS A j).1 = nI k5) (hm : m ≤ 4) : ∀ (c i k : Nat) (h : xH) (w : Nat → Nat) (v fg : Nat → Int32), c + i = m → c < k → JJ h D w A → SG h 35 (dp D) (ds D) (dq D) D.2.2.2.1 D.2.2.2.2.1 D.2.2.2.2.2.1 D.2.2.2.2.2.2 v fg → v 1 = nI i → (∀ y, y < i → fg y = nI ((zS A j).2.2 y).toInt.toNat) → ∃ h' w', JR D w h' D w' A 0 0 0 ∧ (erB (zS A j).2.2 c i = false → f_X6_errands_L91 16 p1 (nI m) (48 + 2 * j) k (nI i) h = some (.inl (-1, h'))) ∧ (erB (zS A j).2.2 c i = true → f_X6_errands_L91 16 p1 (nI m) (48 + 2 * j) k (nI i) h = some (.inr h') ∧ ∃ v' fg', SG h' 35 (dp D) (ds D) (dq D) D.2.2.2.1 D.2.2.2.2.1 D.2.2.2.2.2.1 D.2.2.2.2.2.2 v' fg' ∧ v' 1 = nI m ∧ ∀ y, y < m → fg' y = nI ((zS A j).2.2 y).toInt.toNat)
  | 0, i, k, h, w, v, fg, hc, hk, jj, sg, v1, hg => by
    obtain ⟨k, rfl⟩ : ∃ x, k = x + 1 := ⟨k - 1, by omega⟩
    refine ⟨h, w, ⟨jj, ⟨Nat.le_refl _, by omega⟩, Nat.le_refl _, Nat.le_refl _⟩, fun z => (by cases z), fun _ => ⟨?_, v, fg, sg, by rw [v1, show i = m by omega], fun y hy => hg y (by omega)⟩⟩
    rw [f_X6_errands_L91, if_pos (nI_le (show m ≤ i by omega) (by omega))]
  | c + 1, i, k, h, w, v, fg, hc, hk, jj, sg, v1, hg => by
    obtain ⟨k, rfl⟩ : ∃ x, k = x + 1 := ⟨k - 1, by omega⟩
    have ld := c_row jj.1 hj hk5 e0 (show i < 40 by omega)
    have g2 := (jj.1.s1 hj).g2
    rcases c_rm ((zS A j).2.2 i) with ⟨r1, r2, r3⟩ | ⟨r1, r2⟩
    · obtain ⟨z8, ze⟩ := rm_ex r1
      obtain ⟨h1, e1, sg1, f1⟩ := sg_add sg v1 (by omega) ((zS A j).2.2 i).toInt32
      have j1 := jr_same jj f1 sg1
      obtain ⟨h2, w2, j2, a2, b2⟩ := c_errL hj hk5 e0 hm c (i + 1) k h1 _ _ _ (by omega) (by omega) j1.1 sg1 pk_us (fun y hy => by
        by_cases z : y = i
        · rw [z, pk_us, ze]
        · rw [pk_un z]; exact hg y (by omega))
      have st : f_X6_errands_L91 16 p1 (nI m) (48 + 2 * j) (k + 1) (nI i) h = f_X6_errands_L91 16 p1 (nI m) (48 + 2 * j) k (nI (i + 1)) h1 := by
        rw [f_X6_errands_L91, if_neg (nI_ge (show i < m by omega) (by omega)), g2, Option.bind_some, ld, Option.bind_some, if_neg r2, if_pos r3, jj.1.g6, Option.bind_some, o35 jj.1, Option.bind_some, e1, Option.bind_some, Option.bind_some, nI_1]
      refine ⟨h2, w2, ?_, fun z => ?_, fun z => ?_⟩
      · exact j1.trans j2
      · unfold erB at z
        rw [r1, Bool.true_and] at z
        rw [st]; exact a2 z
      · unfold erB at z
        rw [r1, Bool.true_and] at z
        rw [st]; exact b2 z
    · refine ⟨h, w, ⟨jj, ⟨Nat.le_refl _, by omega⟩, Nat.le_refl _, Nat.le_refl _⟩, fun _ => ?_, fun z => ?_⟩
      · rw [f_X6_errands_L91, if_neg (nI_ge (show i < m by omega) (by omega)), g2, Option.bind_some, ld, Option.bind_some]
        rcases r2 with r2 | ⟨r2, r3⟩
        · rw [if_pos r2]
        · rw [if_neg r2, if_neg r3]
      · unfold erB at z
        rw [r1, Bool.false_and] at z
        cases z
theorem m_errL {j k5 m : Nat} {p1 : Int32} (hj : j < 8) (hk5 : k5 < 5) (e0 : (zS A j).1 = nI k5) (hm : m ≤ 4) : ∀ (c i k : Nat) (g : xH) (fg : Nat → Int32), c + i = m → c < k → MIn g w A → At g 98 4 fg → (∀ y, y < i → fg y = nI ((zS A j).2.2 y).toInt.toNat) → ∃ g', MIn g' w A ∧ FrR w g g' ∧ Fr (fun _ _ => False) (fun a => a = 98) g g' ∧ (erB (zS A j).2.2 c i = false → f_X7_errands_L51 64 p1 (nI j) (nI m) k (nI i) g = some (.inl (-1, g'))) ∧ (erB (zS A j).2.2 c i = true → f_X7_errands_L51 64 p1 (nI j) (nI m) k (nI i) g = some (.inr g') ∧ ∃ fg', At g' 98 4 fg' ∧ ∀ y, y < m → fg' y = nI ((zS A j).2.2 y).toInt.toNat)
  | 0, i, k, g, fg, hc, hk, q, a98, hg => by
    obtain ⟨k, rfl⟩ : ∃ x, k = x + 1 := ⟨k - 1, by omega⟩
    refine ⟨g, q, Fr.rfl, Fr.rfl, fun z => (by cases z), fun _ => ⟨?_, fg, a98, fun y hy => hg y (by omega)⟩⟩
    rw [f_X7_errands_L51, if_pos (nI_le (show m ≤ i by omega) (by omega))]
  | c + 1, i, k, g, fg, hc, hk, q, a98, hg => by
    obtain ⟨k, rfl⟩ : ∃ x, k = x + 1 := ⟨k - 1, by omega⟩
    obtain ⟨d1, d2⟩ := m_row q hj hk5 e0 (show i < 40 by omega)
    have r3 : x_gR g 64 7 3 = some 68 := q.g (k := 3) (by omega)
    obtain ⟨y29, -, ⟨x, em, y, y30, -, -⟩, -, -⟩ := q.2.2.2.2.2.2.2.1
    cases r1 : rmV ((zS A j).2.2 i) with
    | true =>
      obtain ⟨z8, ze⟩ := rm_ex r1
      obtain ⟨g1, e1, a1, f1⟩ := w_st a98 (j := i) (by omega) (by decide) ((zS A j).2.2 i).toInt32
      obtain ⟨t1, t2⟩ := q.goal (Fr.mono f1 (fun _ _ z => z.elim) (fun _ z => z)) (f1.1 _ _ _ _ (fun z => z) y30) a1
      obtain ⟨g2, m2, f2, u2, a2, b2⟩ := m_errL hj hk5 e0 hm c (i + 1) k g1 _ (by omega) (by omega) t1 a1 (fun y hy => by
        by_cases z : y = i
        · rw [z, pk_us, ze]
        · rw [pk_un z]; exact hg y (by omega))
      have st : f_X7_errands_L51 64 p1 (nI j) (nI m) (k + 1) (nI i) g = f_X7_errands_L51 64 p1 (nI j) (nI m) k (nI (i + 1)) g1 := by
        rw [f_X7_errands_L51, if_neg (nI_ge (show i < m by omega) (by omega)), r3, Option.bind_some, d1, Option.bind_some, d2, Option.bind_some, m_rm, r1, Option.bind_some, i1, g_R y29, Option.bind_some, Option.bind_some, d1, Option.bind_some, d2, Option.bind_some, e1, Option.bind_some, Option.bind_some, nI_1]
      refine ⟨g2, m2, t2.trans f2, f1.trans u2, fun z => ?_, fun z => ?_⟩
      · unfold erB at z
        rw [r1, Bool.true_and] at z
        rw [st]; exact a2 z
      · unfold erB at z
        rw [r1, Bool.true_and] at z
        rw [st]; exact b2 z
    | false =>
      refine ⟨g, q, Fr.rfl, Fr.rfl, fun _ => ?_, fun z => ?_⟩
      · rw [f_X7_errands_L51, if_neg (nI_ge (show i < m by omega) (by omega)), r3, Option.bind_some, d1, Option.bind_some, d2, Option.bind_some, m_rm, r1, Option.bind_some, i0]
      · unfold erB at z
        rw [r1, Bool.false_and] at z
        cases z
end Mk
