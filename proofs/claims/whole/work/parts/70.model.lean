/-! The reference: its house part, what it answers. -/
def mf (m : Nat) (H : HS) (k : Nat) : Value := match k with
  | 9 => .int (nI (hD H))
  | 10 => .ref (m + 17)
  | 11 => .int (hO H)
  | 12 => .int (nI (hP H))
  | 13 => .ref (m + 32)
  | 14 => .int (hL H)
  | 15 => .int (hW H)
  | 16 => .int (hN H)
  | _ => .int (hS H)
def MH (h : xH) (m : Nat) (H : HS) : Prop := (∀ k, 9 ≤ k → k < 18 → x_get h m 7 k = some (mf m H k)) ∧ (∃ fo, AtQ h (m + 17) 14 (.array .int) fo ∧ ∀ j, j < 14 → fo j = some (m + 18 + j)) ∧ ∃ (fd : Nat → Nat → Int32) (fr : Nat → Int32), (∀ j, j < 14 → At h (m + 18 + j) 3 (fd j)) ∧ At h (m + 32) 4 fr ∧ (∀ j, j < hD H → fd j 0 = hK H j ∧ fd j 1 = hA H j ∧ fd j 2 = hB H j) ∧ ∀ p, p < hP H → fr p = hR H p
section MM
variable {h h' : xH} {m d p n : Nat} {H T : HS} {r set x : Int32}
theorem MH.D (q : MH h m H) : x_gI h m 7 9 = some (nI (hD H)) := g_I (q.1 9 (by decide) (by decide))
theorem MH.rd (q : MH h m H) : x_gR h m 7 10 = some (m + 17) := g_R (q.1 10 (by decide) (by decide))
theorem MH.O (q : MH h m H) : x_gI h m 7 11 = some (hO H) := g_I (q.1 11 (by decide) (by decide))
theorem MH.P (q : MH h m H) : x_gI h m 7 12 = some (nI (hP H)) := g_I (q.1 12 (by decide) (by decide))
theorem MH.rr (q : MH h m H) : x_gR h m 7 13 = some (m + 32) := g_R (q.1 13 (by decide) (by decide))
theorem MH.L (q : MH h m H) : x_gI h m 7 14 = some (hL H) := g_I (q.1 14 (by decide) (by decide))
theorem MH.W (q : MH h m H) : x_gI h m 7 15 = some (hW H) := g_I (q.1 15 (by decide) (by decide))
theorem MH.N (q : MH h m H) : x_gI h m 7 16 = some (hN H) := g_I (q.1 16 (by decide) (by decide))
theorem MH.S (q : MH h m H) : x_gI h m 7 17 = some (hS H) := g_I (q.1 17 (by decide) (by decide))
theorem MH.ob (q : MH h m H) : x_ob h m 7 = some () := g_ob (q.1 9 (by decide) (by decide))
theorem MH.ldQ14 (q : MH h m H) (hd : d < 14) : x_ldQ h (m + 17) (nI d) = some (m + 18 + d) := by
  obtain ⟨-, ⟨fo, ao, eo⟩, -⟩ := q
  exact ao.ld rfl hd (by decide) (eo d hd)
theorem MH.ldQ (q : MH h m H) (ok : HOk H) (hd : d < hD H) : x_ldQ h (m + 17) (nI d) = some (m + 18 + d) := q.ldQ14 (by have := ok.1; omega)
theorem MH.ldK (q : MH h m H) (ok : HOk H) (hd : d < hD H) : x_ld h (m + 18 + d) 0 = some (hK H d) := by
  have h14 := ok.1
  obtain ⟨-, -, fd, fr, a1, a2, e1, e2⟩ := q
  rw [← (e1 d hd).1]
  exact (a1 d (by omega)).ld (j := 0) (by omega) (by decide)
theorem MH.ldA (q : MH h m H) (ok : HOk H) (hd : d < hD H) : x_ld h (m + 18 + d) 1 = some (hA H d) := by
  have h14 := ok.1
  obtain ⟨-, -, fd, fr, a1, a2, e1, e2⟩ := q
  rw [← (e1 d hd).2.1]
  exact (a1 d (by omega)).ld (j := 1) (by omega) (by decide)
theorem MH.ldB (q : MH h m H) (ok : HOk H) (hd : d < hD H) : x_ld h (m + 18 + d) 2 = some (hB H d) := by
  have h14 := ok.1
  obtain ⟨-, -, fd, fr, a1, a2, e1, e2⟩ := q
  rw [← (e1 d hd).2.2]
  exact (a1 d (by omega)).ld (j := 2) (by omega) (by decide)
theorem MH.ldR (q : MH h m H) (ok : HOk H) (hp : p < hP H) : x_ld h (m + 32) (nI p) = some (hR H p) := by
  have h4 := ok.2.1
  obtain ⟨-, -, fd, fr, a1, a2, e1, e2⟩ := q
  rw [← e2 p hp]
  exact a2.ld (by omega) (by decide)
theorem MH.fr {F : Nat → Nat → Prop} {P : Nat → Prop} (q : MH h m H) (f : Fr F P h h') (hF : ∀ k, 9 ≤ k → k < 18 → ¬ F m k) (hP : ∀ a, m + 17 ≤ a → a < m + 33 → ¬ P a) : MH h' m H := by
  obtain ⟨g, ⟨fo, ao, eo⟩, fd, fr, a1, a2, e1, e2⟩ := q
  exact ⟨fun k h1 h2 => f.1 _ _ _ _ (hF k h1 h2) (g k h1 h2), ⟨fo, f.2 _ _ (hP _ (by omega) (by omega)) ao, eo⟩, fd, fr, fun j hj => f.2 _ _ (hP _ (by omega) (by omega)) (a1 j hj), f.2 _ _ (hP _ (by omega) (by omega)) a2, e1, e2⟩
theorem lg_lt (a c : Int64) : lg_cmp a c < 0 ↔ a < c := by
  unfold lg_cmp
  by_cases h1 : c < a
  · rw [if_pos h1]
    constructor
    · intro z; exact absurd z (by decide)
    · intro z; rw [Int64.lt_iff_toInt_lt] at h1 z; omega
  · rw [if_neg h1]
    by_cases h2 : a = c
    · rw [if_pos h2]; subst h2
      constructor
      · intro z; exact absurd z (by decide)
      · intro z; exact absurd z h1
    · rw [if_neg h2]
      constructor
      · intro _
        rw [Int64.lt_iff_toInt_lt] at h1 ⊢
        have : a.toInt ≠ c.toInt := fun z => h2 (Int64.toInt_inj.mp z)
        omega
      · intro _; decide
theorem lg_gt (a c : Int64) : 0 < lg_cmp a c ↔ c < a := by
  unfold lg_cmp
  by_cases h1 : c < a
  · rw [if_pos h1]; exact ⟨fun _ => h1, fun _ => by decide⟩
  · rw [if_neg h1]
    constructor
    · intro z
      by_cases h2 : a = c
      · rw [if_pos h2] at z; exact absurd z (by decide)
      · rw [if_neg h2] at z; exact absurd z (by decide)
    · intro z; exact absurd z h1
theorem m_inL (v lo hi : Int64) : f_X7_in h v lo hi = some (bI (decide (lo.toInt ≤ v.toInt) && decide (v.toInt ≤ hi.toInt))) := by
  unfold f_X7_in
  by_cases c1 : lg_cmp v lo < 0
  · rw [if_pos c1]
    have := Int64.lt_iff_toInt_lt.mp ((lg_lt _ _).mp c1)
    rw [decide_eq_false (by omega)]; rfl
  · rw [if_neg c1]
    have : ¬ v.toInt < lo.toInt := fun z => c1 ((lg_lt v lo).mpr (Int64.lt_iff_toInt_lt.mpr z))
    rw [decide_eq_true (show lo.toInt ≤ v.toInt by omega)]
    by_cases c2 : 0 < lg_cmp v hi
    · rw [if_pos c2]
      have := Int64.lt_iff_toInt_lt.mp ((lg_gt _ _).mp c2)
      rw [decide_eq_false (by omega)]; rfl
    · rw [if_neg c2]
      have : ¬ hi.toInt < v.toInt := fun z => c2 ((lg_gt v hi).mpr (Int64.lt_iff_toInt_lt.mpr z))
      rw [decide_eq_true (show v.toInt ≤ hi.toInt by omega)]; rfl
theorem m_in {lo hi : Int64} {a c : Int} (h1 : lo.toInt = a) (h2 : hi.toInt = c) (x : Int32) : f_X7_in h x.toInt64 lo hi = some (bI (decide (a ≤ x.toInt) && decide (x.toInt ≤ c))) := by
  rw [m_inL, h1, h2, Int32.toInt_toInt64]
theorem sIs_toInt {k : Nat} (hk : k < 2 ^ 31) (x : Int32) : sIs k x = (decide (0 ≤ x.toInt) && decide (x.toInt ≤ (k : Int) - 1)) := by
  unfold sIs
  have e1 : decide (x < 0) = decide (x.toInt < 0) := by rw [decide_eq_decide]; exact Int32.lt_iff_toInt_lt
  have e2 : decide (nI k ≤ x) = decide ((k : Int) ≤ x.toInt) := by rw [decide_eq_decide, Int32.le_iff_toInt_le, nI_toInt hk]
  rw [e1, e2]
  by_cases c1 : x.toInt < 0
  · rw [decide_eq_true c1, decide_eq_false (show ¬ 0 ≤ x.toInt by omega)]; rfl
  · rw [decide_eq_false c1, decide_eq_true (show 0 ≤ x.toInt by omega)]
    by_cases c2 : (k : Int) ≤ x.toInt
    · rw [decide_eq_true c2, decide_eq_false (show ¬ x.toInt ≤ (k : Int) - 1 by omega)]; rfl
    · rw [decide_eq_false c2, decide_eq_true (show x.toInt ≤ (k : Int) - 1 by omega)]; rfl
theorem nI_predI {k : Nat} (hk : k < 2 ^ 30) : ((nI k - 1).toInt64).toInt = (k : Int) - 1 := by
  rw [Int32.toInt_toInt64]
  have := pk_sub_toInt (a := k) (b := 1) hk (by decide)
  exact this
theorem m_isDoor (q : MH h m H) (ok : HOk H) : f_X7_isDoor h m x = some (bI (sIs (hD H) x)) := by
  have h14 := ok.1
  unfold f_X7_isDoor
  rw [q.D, Option.bind_some, m_in (a := 0) (c := (hD H : Int) - 1) rfl (nI_predI (by omega)), Option.bind_some, x_bool_bI, Option.bind_some, sIs_toInt (by omega)]
theorem m_isOne (q : MH h m H) (ok : HOk H) : f_X7_isOne h m x = some (bI (sIs (hP H) x)) := by
  have h14 := ok.2.1
  unfold f_X7_isOne
  rw [q.P, Option.bind_some, m_in (a := 0) (c := (hP H : Int) - 1) rfl (nI_predI (by omega)), Option.bind_some, x_bool_bI, Option.bind_some, sIs_toInt (by omega)]
theorem m_has (hd : d < 32) : f_X7_has h x (nI d) = some (bI (bt x d)) := by
  unfold f_X7_has
  cases e : bt x d
  · rw [if_pos ((b_has _ hd).mpr e)]; rfl
  · rw [if_neg (fun z => by rw [(b_has _ hd).mp z] at e; cases e)]; rfl
theorem m_weightOf (q : MH h m H) (ok : HOk H) (hd : d < hD H) : f_X7_weightOf h m (nI d) = some (nI (wtN (hK H d))) := by
  unfold f_X7_weightOf
  rw [q.rd, Option.bind_some, q.ldQ ok hd, Option.bind_some, q.ldK ok hd, Option.bind_some]
  unfold wtN
  by_cases c1 : hK H d = 2
  · simp [c1]; rfl
  · by_cases c2 : hK H d = 5
    · simp [c2]; rfl
    · by_cases c3 : hK H d = 4
      · simp [c3]; rfl
      · simp [c1, c2, c3]; rfl
theorem m_some (q : MH h m H) (ok : HOk H) (hn : 20 ≤ n) : f_X7_isSomebodyIn n h m r = some (bI (sSome H r)) := by
  have h4 := ok.2.1
  unfold f_X7_isSomebodyIn
  have := lpAny (L := fun k i => f_X7_isSomebodyIn_L2 h m r k (nI i)) (fun p => decide (hR H p = r)) (D := hP H) (n := n) (yes := .inl 1) (no := .inr ()) (by omega)
    (fun k => by
      show f_X7_isSomebodyIn_L2 h m r (k + 1) (nI (hP H)) = _
      simp only [f_X7_isSomebodyIn_L2, q.P, Option.bind_some]
      rw [if_pos (nI_le (Nat.le_refl _) (by omega))])
    (fun k i hi => by
      show f_X7_isSomebodyIn_L2 h m r (k + 1) (nI i) = _
      rw [f_X7_isSomebodyIn_L2]
      simp only [q.P, q.rr, q.ldR ok hi, Option.bind_some, nI_1]
      rw [if_neg (nI_ge hi (by omega))]
      by_cases e : hR H i = r
      · simp [e]
      · simp [e])
  rw [show (0 : Int32) = nI 0 from rfl, show f_X7_isSomebodyIn_L2 h m r n (nI 0) = _ from this]
  unfold sSome
  cases anB (fun p => decide (hR H p = r)) (hP H) <;> rfl
theorem m_isAt (q : MH h m H) (ok : HOk H) (hd : d < hD H) : f_X7_isAt h m (nI d) r = some (bI (sAt H d r)) := by
  simp only [f_X7_isAt, q.rd, q.ldQ ok hd, q.ldA ok hd, q.ldB ok hd, Option.bind_some, sAt]
  by_cases h1 : hA H d = r
  · rw [if_pos h1]; simp [h1, bI]
  · rw [if_neg h1]
    by_cases h2 : hB H d = r
    · rw [if_pos h2]; simp [h2, bI]
    · rw [if_neg h2]; simp [h1, h2, bI]
theorem m_mayShut (q : MH h m H) (ok : HOk H) (hd : d < hD H) : f_X7_mayShut h m (nI d) r = some (bI (bt (hO H) d && sShuts H d r)) := by
  simp only [f_X7_mayShut, q.rd, q.ldQ ok hd, q.ldK ok hd, q.ldB ok hd, q.O, m_has (ok.d32 hd), q.ob, m_isAt q ok hd, Option.bind_some, sShuts]
  cases bt (hO H) d
  · rw [if_pos (show bI false = 0 from rfl)]; rfl
  · rw [if_neg (show ¬ bI true = 0 by decide)]
    by_cases c5 : hK H d = 5
    · have c4 : ¬ hK H d = 4 := by rw [c5]; decide
      rw [if_pos c5, if_neg c4, decide_eq_true c5]; rfl
    · rw [if_neg c5]
      by_cases c4 : hK H d = 4
      · rw [if_pos c4, if_pos c4]
        by_cases c : hB H d = r
        · rw [if_pos c, decide_eq_true c]; rfl
        · rw [if_neg c, decide_eq_false c]; rfl
      · rw [if_neg c4, if_neg c4, decide_eq_false c5]
        cases sAt H d r
        · rw [if_pos (show bI false = 0 from rfl)]; rfl
        · rw [if_neg (show ¬ bI true = 0 by decide)]; rfl
theorem m_mayWalk (q : MH h m H) (ok : HOk H) (hd : d < hD H) : f_X7_mayWalk h m (nI d) r = some (bI (bt (hO H) d && !decide (hK H d = 1) && sAt H d r)) := by
  simp only [f_X7_mayWalk, q.rd, q.ldQ ok hd, q.ldK ok hd, q.O, m_has (ok.d32 hd), q.ob, m_isAt q ok hd, Option.bind_some]
  cases bt (hO H) d
  · rw [if_pos (show bI false = 0 from rfl)]; rfl
  · rw [if_neg (show ¬ bI true = 0 by decide)]
    by_cases c5 : hK H d = 1
    · rw [if_pos c5, decide_eq_true c5]; rfl
    · rw [if_neg c5, decide_eq_false c5]
      cases sAt H d r
      · rw [if_pos (show bI false = 0 from rfl)]; rfl
      · rw [if_neg (show ¬ bI true = 0 by decide)]; rfl
theorem m_canOpen (q : MH h m H) (ok : HOk H) (hd : d < hD H) : f_X7_canOpen h m (nI d) r = some (bI (!bt (hO H) d && sOpens H d r)) := by
  simp only [f_X7_canOpen, q.rd, q.ldQ ok hd, q.ldK ok hd, q.ldA ok hd, q.O, m_has (ok.d32 hd), q.ob, m_isAt q ok hd, Option.bind_some, sOpens]
  cases bt (hO H) d
  · rw [if_pos (show bI false = 0 from rfl)]
    by_cases c5 : hK H d = 3
    · rw [if_pos c5, if_pos c5]
      by_cases c : hA H d = r
      · rw [if_pos c, decide_eq_true c]; rfl
      · rw [if_neg c, decide_eq_false c]; rfl
    · rw [if_neg c5, if_neg c5]
      cases sAt H d r
      · rw [if_pos (show bI false = 0 from rfl)]; rfl
      · rw [if_neg (show ¬ bI true = 0 by decide)]; rfl
  · rw [if_neg (show ¬ bI true = 0 by decide)]; rfl
def sBey (H : HS) (d : Nat) (r : Int32) : Int32 := if r = hA H d then hB H d else hA H d
theorem m_beyond (q : MH h m H) (ok : HOk H) (hd : d < hD H) : f_X7_beyond h m (nI d) r = some (sBey H d r) := by
  simp only [f_X7_beyond, q.rd, q.ldQ ok hd, q.ldA ok hd, q.ldB ok hd, Option.bind_some, sBey]
  by_cases c : hA H d = r
  · rw [if_pos c, if_pos c.symm]
  · rw [if_neg c, if_neg (fun z => c z.symm)]
theorem nI_add0 (a : Nat) : nI a + 0 = nI a := nI_add a 0
theorem i_or0 (x : Int32) : x ||| 0 = x := by
  apply b_ext; intro i hi; rw [b_or, b_0]; simp
theorem i_oror (x y : Int32) : (x ||| y) ||| y = x ||| y := by
  apply b_ext; intro i hi; rw [b_or, b_or]; cases bt x i <;> cases bt y i <;> rfl
theorem m_shut14 (q : MH h m H) (ok : HOk H) (hn : 20 ≤ n) (hd : d < hD H) (acc : Int32) : f_X7_shuttable_L14 h m (nI d) n acc 0 = some (if sShut H d then acc ||| i_shl 1 (nI d) else acc) := by
  have h4 := ok.2.1
  have := lpE (L := fun k s i => f_X7_shuttable_L14 h m (nI d) k s (nI i)) (g := fun i => if anB (fun p => bt (hO H) d && sShuts H d (hR H p)) i then acc ||| i_shl 1 (nI d) else acc) (D := hP H) (n := n) (fin := if anB (fun p => bt (hO H) d && sShuts H d (hR H p)) (hP H) then acc ||| i_shl 1 (nI d) else acc) (by omega)
    (fun k => by
      show f_X7_shuttable_L14 h m (nI d) (k + 1) _ (nI (hP H)) = _
      simp only [f_X7_shuttable_L14, q.P, Option.bind_some]
      rw [if_pos (nI_le (Nat.le_refl _) (by omega))])
    (fun k i hi => by
      show f_X7_shuttable_L14 h m (nI d) (k + 1) _ (nI i) = f_X7_shuttable_L14 h m (nI d) k _ (nI (i + 1))
      rw [f_X7_shuttable_L14]
      simp only [q.P, q.ob, q.rr, q.ldR ok hi, m_mayShut q ok hd, Option.bind_some, nI_1, anB]
      rw [if_neg (nI_ge hi (by omega))]
      have key : ∀ (x y : Bool), (if bI x = 0 then f_X7_shuttable_L14 h m (nI d) k ((if y = true then acc ||| i_shl 1 (nI d) else acc) ||| 0) (nI (i + 1)) else f_X7_shuttable_L14 h m (nI d) k ((if y = true then acc ||| i_shl 1 (nI d) else acc) ||| i_shl 1 (nI d)) (nI (i + 1))) = f_X7_shuttable_L14 h m (nI d) k (if (y || x) = true then acc ||| i_shl 1 (nI d) else acc) (nI (i + 1)) := by
        intro x y
        cases x <;> cases y <;> simp [bI, i_or0, i_oror]
      exact key _ _)
  rw [show f_X7_shuttable_L14 h m (nI d) n acc 0 = _ from this]
  have e : anB (fun p => bt (hO H) d && sShuts H d (hR H p)) (hP H) = sShut H d := by
    unfold sShut
    rw [anyN_0, Bool.eq_iff_iff, anB_iff, Bool.and_eq_true, anB_iff]
    constructor
    · rintro ⟨j, h1, h2⟩
      rw [Bool.and_eq_true] at h2
      exact ⟨h2.1, j, h1, h2.2⟩
    · rintro ⟨h1, j, h2, h3⟩
      exact ⟨j, h2, by rw [Bool.and_eq_true]; exact ⟨h1, h3⟩⟩
  rw [e]
theorem m_shuttable (q : MH h m H) (ok : HOk H) (hn : 20 ≤ n) : f_X7_shuttable n h m = some (sShutM H) := by
  have h14 := ok.1
  unfold f_X7_shuttable
  have := lpE (L := fun k s i => f_X7_shuttable_L4 n h m k s (nI i)) (g := mkB (sShut H)) (D := hD H) (n := n) (fin := mkB (sShut H) (hD H)) (by omega)
    (fun k => by
      show f_X7_shuttable_L4 n h m (k + 1) _ (nI (hD H)) = _
      simp only [f_X7_shuttable_L4, q.D, Option.bind_some]
      rw [if_pos (nI_le (Nat.le_refl _) (by omega))])
    (fun k i hi => by
      show f_X7_shuttable_L4 n h m (k + 1) _ (nI i) = f_X7_shuttable_L4 n h m k _ (nI (i + 1))
      rw [f_X7_shuttable_L4]
      simp only [q.D, Option.bind_some, m_shut14 q ok hn hi, nI_1]
      rw [if_neg (nI_ge hi (by omega))]
      rfl)
  rw [show f_X7_shuttable_L4 n h m n 0 0 = _ from this, Option.bind_some]
  unfold sShutM
  rw [orB_0 _ (by omega)]
theorem m_weightsOf (q : MH h m H) (ok : HOk H) (hn : 20 ≤ n) : f_X7_weightsOf n h m set = some (nI (sW H set)) := by
  have h14 := ok.1
  unfold f_X7_weightsOf
  have := lpE (L := fun k s i => f_X7_weightsOf_L4 h m set k s (nI i)) (g := fun i => nI (smB (sWt H set) i)) (D := hD H) (n := n) (fin := nI (sW H set)) (by omega)
    (fun k => by
      show f_X7_weightsOf_L4 h m set (k + 1) _ (nI (hD H)) = _
      simp only [f_X7_weightsOf_L4, q.D, Option.bind_some]
      rw [if_pos (nI_le (Nat.le_refl _) (by omega))]
      unfold sW
      rw [sumN_0])
    (fun k i hi => by
      show f_X7_weightsOf_L4 h m set (k + 1) _ (nI i) = f_X7_weightsOf_L4 h m set k _ (nI (i + 1))
      rw [f_X7_weightsOf_L4]
      simp only [q.D, q.ob, m_has (ok.d32 hi), m_weightOf q ok hi, Option.bind_some, nI_1, nI_add, smB]
      rw [if_neg (nI_ge hi (by omega))]
      unfold sWt
      cases bt set i
      · rw [if_pos (show bI false = 0 from rfl), if_neg (by decide), nI_add0]; rfl
      · rw [if_neg (show ¬ bI true = 0 by decide), if_pos rfl])
  rw [show (0 : Int32) = nI 0 from rfl, show f_X7_weightsOf_L4 h m set n (nI 0) (nI 0) = _ from this]
  rfl
theorem m_isEnough (q : MH h m H) (ok : HOk H) (hn : 20 ≤ n) : f_X7_isEnough n h m set = some (bI (sEn H set)) := by
  have h14 := ok.1
  obtain ⟨eL, hL1, hL4⟩ := HOk.L H ok
  have hw := sW_le H ok set
  unfold f_X7_isEnough
  simp only [q.ob, m_weightsOf q ok hn, q.L, Option.bind_some, eL]
  unfold sEn
  by_cases hc : hLn H ≤ sW H set
  · rw [if_pos (nI_le hc (by omega)), decide_eq_true hc, anyN_0]
    have := lpAny (L := fun k i => f_X7_isEnough_L18 h m set (nI (sW H set)) k (nI i)) (fun d => bt set d && decide (hLn H ≤ sW H set - wtN (hK H d))) (D := hD H) (n := n) (yes := .inl 0) (no := .inr ()) (by omega)
      (fun k => by
        show f_X7_isEnough_L18 h m set _ (k + 1) (nI (hD H)) = _
        simp only [f_X7_isEnough_L18, q.D, Option.bind_some]
        rw [if_pos (nI_le (Nat.le_refl _) (by omega))])
      (fun k i hi => by
        show f_X7_isEnough_L18 h m set _ (k + 1) (nI i) = _
        rw [f_X7_isEnough_L18]
        simp only [q.D, q.ob, q.L, m_has (ok.d32 hi), m_weightOf q ok hi, Option.bind_some, nI_1, eL]
        rw [if_neg (nI_ge hi (by omega))]
        cases e : bt set i
        · rw [if_pos (show bI false = 0 from rfl)]; rfl
        · rw [if_neg (show ¬ bI true = 0 by decide)]
          have hge : wtN (hK H i) ≤ sW H set := by
            have := sumN_ge (f := sWt H set) (hD H) 0 i (by omega) (by omega)
            have e2 : sWt H set i = wtN (hK H i) := by unfold sWt; rw [e]; rfl
            rw [e2] at this
            exact this
          rw [pk_sub hge]
          by_cases hc : hLn H ≤ sW H set - wtN (hK H i)
          · rw [if_neg (nI_nlt hc (by omega)), decide_eq_true hc]; rfl
          · rw [if_pos (nI_lt (by omega) (by omega)), decide_eq_false hc]; rfl)
    rw [show f_X7_isEnough_L18 h m set (nI (sW H set)) n 0 = _ from this, Option.bind_some]
    cases anB (fun d => bt set d && decide (hLn H ≤ sW H set - wtN (hK H d))) (hD H) <;> rfl
  · rw [if_neg (fun z => hc ((nI_leI (by omega) (by omega)).mp z)), decide_eq_false hc]; rfl
theorem m_mayOpenBy (q : MH h m H) (ok : HOk H) (hn : 20 ≤ n) (hp : p < hP H) (hd : d < hD H) : f_X7_mayOpenBy n h m (nI p) (nI d) set = some (bI (sOpensBy H p d set)) := by
  simp only [f_X7_mayOpenBy, q.rr, q.ldR ok hp, q.ob, m_canOpen q ok hd, m_shuttable q ok hn, m_isEnough q ok hn, Option.bind_some]
  unfold sOpensBy sStands
  cases !bt (hO H) d && sOpens H d (hR H p)
  · rw [if_pos (show bI false = 0 from rfl)]; rfl
  · rw [if_neg (show ¬ bI true = 0 by decide)]
    by_cases hc : set &&& (sShutM H ^^^ (-1)) = 0
    · rw [if_pos hc, decide_eq_true hc]
      cases sEn H set
      · rw [if_pos (show bI false = 0 from rfl)]; rfl
      · rw [if_neg (show ¬ bI true = 0 by decide)]; rfl
    · rw [if_neg hc, decide_eq_false hc]; rfl
theorem m_stockNow (q : MH h m H) (ok : HOk H) (hn : 20 ≤ n) : f_X7_stockNow n h m = some (nI (sStock H)) := by
  have h14 := ok.1
  unfold f_X7_stockNow
  have := lpE (L := fun k s i => f_X7_stockNow_L4 h m k s (nI i)) (g := fun i => nI (smB (sStk H) i)) (D := hD H) (n := n) (fin := nI (sStock H)) (by omega)
    (fun k => by
      show f_X7_stockNow_L4 h m (k + 1) _ (nI (hD H)) = _
      simp only [f_X7_stockNow_L4, q.D, Option.bind_some]
      rw [if_pos (nI_le (Nat.le_refl _) (by omega))]; rfl)
    (fun k i hi => by
      show f_X7_stockNow_L4 h m (k + 1) _ (nI i) = f_X7_stockNow_L4 h m k _ (nI (i + 1))
      rw [f_X7_stockNow_L4]
      simp only [q.D, q.O, q.ob, m_has (ok.d32 hi), q.rd, q.ldQ ok hi, q.ldK ok hi, m_weightOf q ok hi, Option.bind_some, nI_1, nI_add, smB]
      rw [if_neg (nI_ge hi (by omega))]
      unfold sStk
      cases bt (hO H) i
      · rw [if_pos (show bI false = 0 from rfl), nI_add0]; rfl
      · rw [if_neg (show ¬ bI true = 0 by decide)]
        by_cases e : hK H i = 5
        · rw [if_pos e, decide_eq_true e, nI_add0]; rfl
        · rw [if_neg e, decide_eq_false e]; rfl)
  rw [show (0 : Int32) = nI 0 from rfl, show f_X7_stockNow_L4 h m n (nI 0) (nI 0) = _ from this]
  rfl
end MM
