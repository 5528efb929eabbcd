/-! The reference's all; sets within a mask are counted. -/
section SX
variable {h : xH} {m af ab em N : Nat} {G : GP} {fe : Nat → Int32} {A : AT}
theorem sx_all (q : SX h m af ab G em fe A) (ok : GOk G) (hf : Fin G A) (h0 : gm G = 0) (hN : 30000 ≤ N) : ∃ v, f_X7_all_L45 h m N 0 0 = some v ∧ ∀ k, k < 32 → (bt v k = true ↔ ∃ n f x, R G n f 0 x k) := by
  have hgN : gN G = 4096 := by unfold gN; rw [h0]
  have := lp0 (L := fun k (s : Int32) z => f_X7_all_L45 h m k s (nI z)) (I := fun z s => ∀ k, k < 32 → (bt s k = true ↔ ∃ z', z' < z ∧ z' % 8 = k ∧ A z' ≠ none)) (R := fun s => ∀ k, k < 32 → (bt s k = true ↔ ∃ z', z' < 4096 ∧ z' % 8 = k ∧ A z' ≠ none)) (D := 4096) (n := N) (s := 0) (by omega)
    (fun k hk => by
      rw [b_0]
      constructor
      · intro z; cases z
      · rintro ⟨z', hz, -⟩; exact absurd hz (Nat.not_lt_zero _))
    (fun k s hs => by
      refine ⟨s, ?_, hs⟩
      show f_X7_all_L45 h m (k + 1) s (nI 4096) = _
      rw [f_X7_all_L45, if_pos (show (4096 : Int32) ≤ nI 4096 by decide)])
    (fun k s z hz hs => by
      right
      have hzl : z < gN G := by omega
      have r8 : x_irem (nI z) 8 = some (nI (z % 8)) := x_irem_n (d := 8) (by omega) (by decide) (by decide)
      have st : f_X7_all_L45 h m (k + 1) s (nI z) = if (match A z with | none => (-1 : Int32) | some p => nI p.1) = -1 then f_X7_all_L45 h m k s (nI (z + 1)) else f_X7_all_L45 h m k (s ||| i_shl 1 (nI (z % 8))) (nI (z + 1)) := by
        rw [f_X7_all_L45, if_neg (show ¬ (4096 : Int32) ≤ nI z from nI_ge (b := 4096) hz (by decide)), q.far, Option.bind_some, q.ldF ok hzl, Option.bind_some, Option.bind_some, r8]
        simp only [Option.bind_some, nI_1, i_or0]
        rfl
      cases e : A z with
      | none =>
        rw [e] at st
        refine ⟨s, by rw [show f_X7_all_L45 h m (k + 1) s (nI z) = _ from st, if_pos rfl], fun j hj => ?_⟩
        rw [hs j hj]
        constructor
        · rintro ⟨z', a, b, c⟩; exact ⟨z', by omega, b, c⟩
        · rintro ⟨z', a, b, c⟩
          by_cases ez : z' = z
          · subst ez; exact absurd e c
          · exact ⟨z', by omega, b, c⟩
      | some p =>
        obtain ⟨n, f⟩ := p
        rw [e] at st
        refine ⟨s ||| i_shl 1 (nI (z % 8)), by rw [show f_X7_all_L45 h m (k + 1) s (nI z) = _ from st, if_neg (show ¬ nI n = -1 from nI_nm1 (q.bnd hzl e).1)], fun j hj => ?_⟩
        rw [b_or, b_bit (by omega) hj, Bool.or_eq_true, hs j hj, decide_eq_true_eq]
        constructor
        · rintro (⟨z', a, b, c⟩ | rfl)
          · exact ⟨z', by omega, b, c⟩
          · exact ⟨z, by omega, rfl, by rw [e]; exact fun w => by cases w⟩
        · rintro ⟨z', a, b, c⟩
          by_cases ez : z' = z
          · subst ez; exact Or.inr b.symm
          · exact Or.inl ⟨z', by omega, b, c⟩)
  obtain ⟨v, e, hv⟩ := this
  refine ⟨v, e, fun k hk => ?_⟩
  rw [hv k hk]
  constructor
  · rintro ⟨z, a, b, c⟩
    cases e2 : A z with
    | none => exact absurd e2 c
    | some p =>
      obtain ⟨n, f⟩ := p
      have := hf.1 z n f (by omega) e2
      rw [b, show z / 8 / 512 = 0 by omega] at this
      exact ⟨n, f, _, this⟩
  · rintro ⟨n, f, x, hR⟩
    have i := R_in ok hR
    have hx : x < 512 := Nat.lt_of_lt_of_le i.2.1 (pow9 ok)
    obtain ⟨n', f', a, -⟩ := hf.all ok hR
    refine ⟨enc 0 x k, by unfold enc; have := i.2.2.1; omega, (enc_dec hx i.2.2.1).2.2, by rw [a]; exact fun w => by cases w⟩
end SX
def wqM (H : HS) (M : Int32) (s : Nat) : Bool := decide (nI s &&& (M ^^^ (-1)) = 0) && sEn H (nI s)
def clsM (H : HS) (M : Int32) (k : Nat) : Nat := if bt M k then wtN (hK H k) else 0
section CM
variable {H : HS}
theorem wqM_pc (ok : HOk H) (M : Int32) {s : Nat} (hs : s < 2 ^ hD H) : (if wqM H M s then 1 else 0) = smB (fun b => if pc (clsM H M) (hD H) (hLn H - 2 * b) b s then 1 else 0) ((hLn H + 1) / 2 + 1) := by
  have h14 := ok.1
  obtain ⟨-, hL1, hL4⟩ := HOk.L H ok
  have hpw : 2 ^ hD H ≤ 2 ^ 14 := Nat.pow_le_pow_right (by decide) h14
  have hbit : ∀ k, k < 32 → bt (nI s) k = s.testBit k := fun k hk => bt_nI (by omega) hk
  have hhi : ∀ k, hD H ≤ k → s.testBit k = false := fun k hk => Nat.testBit_lt_two_pow (Nat.lt_of_lt_of_le hs (Nat.pow_le_pow_right (by decide) hk))
  have e1 : smB (fun b => if pc (clsM H M) (hD H) (hLn H - 2 * b) b s then 1 else 0) ((hLn H + 1) / 2 + 1) = smB (fun b => if b = smB (cX (clsM H M) 2 s) (hD H) ∧ (decide (∀ k, k < hD H → s.testBit k = true → clsM H M k = 1 ∨ clsM H M k = 2) && decide (smB (cX (clsM H M) 1 s) (hD H) = hLn H - 2 * b)) = true then 1 else 0) ((hLn H + 1) / 2 + 1) := smB_congr _ (fun b hb => by
    have : (pc (clsM H M) (hD H) (hLn H - 2 * b) b s = true) ↔ (b = smB (cX (clsM H M) 2 s) (hD H) ∧ (decide (∀ k, k < hD H → s.testBit k = true → clsM H M k = 1 ∨ clsM H M k = 2) && decide (smB (cX (clsM H M) 1 s) (hD H) = hLn H - 2 * b)) = true) := by
      rw [pc_iff, Bool.and_eq_true, decide_eq_true_iff, decide_eq_true_iff]
      constructor
      · rintro ⟨z1, z2, z3⟩; exact ⟨z3.symm, z1, z2⟩
      · rintro ⟨z1, z2, z3⟩; exact ⟨z2, z3, z1.symm⟩
    by_cases c : pc (clsM H M) (hD H) (hLn H - 2 * b) b s = true
    · rw [if_pos c, if_pos (this.mp c)]
    · rw [if_neg c, if_neg (fun z => c (this.mpr z))])
  rw [e1, smB_one]
  have key : wqM H M s = true ↔ (smB (cX (clsM H M) 2 s) (hD H) < (hLn H + 1) / 2 + 1 ∧ (decide (∀ k, k < hD H → s.testBit k = true → clsM H M k = 1 ∨ clsM H M k = 2) && decide (smB (cX (clsM H M) 1 s) (hD H) = hLn H - 2 * smB (cX (clsM H M) 2 s) (hD H))) = true) := by
    rw [Bool.and_eq_true, decide_eq_true_iff, decide_eq_true_iff]
    unfold wqM
    rw [Bool.and_eq_true, decide_eq_true_iff, sub_iff]
    have hW : (∀ k, k < 32 → bt (nI s) k = true → bt (M) k = true) → sW H (nI s) = smB (cX (clsM H M) 1 s) (hD H) + 2 * smB (cX (clsM H M) 2 s) (hD H) := by
      intro hsub
      unfold sW
      rw [sumN_0]
      have : ∀ i, i ≤ hD H → smB (sWt H (nI s)) i = smB (cX (clsM H M) 1 s) i + 2 * smB (cX (clsM H M) 2 s) i := by
        intro i
        induction i with
        | zero => intro _; rfl
        | succ i ih =>
          intro hi
          show smB (sWt H (nI s)) i + sWt H (nI s) i = smB (cX (clsM H M) 1 s) i + cX (clsM H M) 1 s i + 2 * (smB (cX (clsM H M) 2 s) i + cX (clsM H M) 2 s i)
          rw [ih (by omega)]
          have : sWt H (nI s) i = cX (clsM H M) 1 s i + 2 * cX (clsM H M) 2 s i := by
            unfold sWt cX
            rw [hbit i (by omega)]
            cases e : s.testBit i
            · simp
            · have hm := hsub i (by omega) (by rw [hbit i (by omega)]; exact e)
              have hc : clsM H M i = wtN (hK H i) := by unfold clsM; rw [hm]; rfl
              rw [hc]
              have := wtN_le (hK H i)
              have : wtN (hK H i) = 0 ∨ wtN (hK H i) = 1 ∨ wtN (hK H i) = 2 := by omega
              rcases this with z | z | z <;> simp [z]
          omega
      exact this _ (Nat.le_refl _)
    constructor
    · rintro ⟨hsub, hen⟩
      have hw := hW hsub
      unfold sEn at hen
      rw [Bool.and_eq_true, decide_eq_true_iff, anyN_0] at hen
      obtain ⟨h1, h2⟩ := hen
      have h3 : ∀ k, k < hD H → s.testBit k = true → sW H (nI s) - wtN (hK H k) < hLn H := by
        intro k hk hb
        rcases Nat.lt_or_ge (sW H (nI s) - wtN (hK H k)) (hLn H) with z | z
        · exact z
        · have : anB (fun d => bt (nI s) d && decide (hLn H ≤ sW H (nI s) - wtN (hK H d))) (hD H) = true := (anB_iff _).mpr ⟨k, hk, by rw [hbit k (by omega), hb, decide_eq_true z]; rfl⟩
          rw [this] at h2; cases h2
      have hc : ∀ k, k < hD H → s.testBit k = true → clsM H M k = wtN (hK H k) := fun k hk hb => by
        unfold clsM; rw [hsub k (by omega) (by rw [hbit k (by omega)]; exact hb)]; rfl
      have all : ∀ k, k < hD H → s.testBit k = true → clsM H M k = 1 ∨ clsM H M k = 2 := fun k hk hb => by
        have := h3 k hk hb
        have := wtN_le (hK H k)
        rw [hc k hk hb]
        omega
      have x1 : 0 < smB (cX (clsM H M) 1 s) (hD H) → sW H (nI s) - 1 < hLn H := fun z => by
        obtain ⟨j, hj, hz⟩ := smB_pos _ z
        unfold cX at hz
        by_cases c : s.testBit j = true ∧ clsM H M j = 1
        · have := h3 j hj c.1
          rw [← hc j hj c.1, c.2] at this; exact this
        · rw [if_neg c] at hz; exact absurd hz (by decide)
      have x2 : 0 < smB (cX (clsM H M) 2 s) (hD H) → sW H (nI s) - 2 < hLn H := fun z => by
        obtain ⟨j, hj, hz⟩ := smB_pos _ z
        unfold cX at hz
        by_cases c : s.testBit j = true ∧ clsM H M j = 2
        · have := h3 j hj c.1
          rw [← hc j hj c.1, c.2] at this; exact this
        · rw [if_neg c] at hz; exact absurd hz (by decide)
      refine ⟨?_, all, ?_⟩ <;> omega
    · rintro ⟨hy, all, hx⟩
      have hsub : ∀ k, k < 32 → bt (nI s) k = true → bt (M) k = true := fun k hk hb => by
        rw [hbit k hk] at hb
        rcases Nat.lt_or_ge k (hD H) with c | c
        · have := all k c hb
          unfold clsM at this
          cases e : bt (M) k
          · rw [e] at this; simp at this
          · rfl
        · rw [hhi k c] at hb; cases hb
      have hw := hW hsub
      refine ⟨hsub, ?_⟩
      unfold sEn
      rw [decide_eq_true (show hLn H ≤ sW H (nI s) by omega), anyN_0]
      have : anB (fun d => bt (nI s) d && decide (hLn H ≤ sW H (nI s) - wtN (hK H d))) (hD H) = false := by
        rw [Bool.eq_false_iff]
        intro z
        obtain ⟨j, hj, hz⟩ := (anB_iff _).mp z
        rw [Bool.and_eq_true, decide_eq_true_iff, hbit j (by omega)] at hz
        have hcj : clsM H M j = wtN (hK H j) := by
          unfold clsM; rw [hsub j (by omega) (by rw [hbit j (by omega)]; exact hz.1)]; rfl
        rcases all j hj hz.1 with a | a
        · have := smB_ge (f := cX (clsM H M) 1 s) (hD H) j hj
          have e : cX (clsM H M) 1 s j = 1 := if_pos ⟨hz.1, a⟩
          omega
        · have := smB_ge (f := cX (clsM H M) 2 s) (hD H) j hj
          have e : cX (clsM H M) 2 s j = 1 := if_pos ⟨hz.1, a⟩
          omega
      rw [this]; rfl
  by_cases c : wqM H M s = true
  · rw [if_pos c, if_pos (key.mp c)]
  · rw [if_neg c, if_neg (fun z => c (key.mpr z))]
theorem many126 : ∀ L, L < 5 → ∀ a, a < 10 → ∀ b, b < 10 - a → smB (fun k => ch a (L - 2 * k) * ch b k) ((L + 1) / 2 + 1) ≤ 126 := by decide +kernel
theorem two_cls (c : Nat → Nat) : ∀ i, smB (fun k => if c k = 1 then 1 else 0) i + smB (fun k => if c k = 2 then 1 else 0) i ≤ i
  | 0 => Nat.le_refl _
  | i + 1 => by
    have := two_cls c i
    show smB _ i + (if c i = 1 then 1 else 0) + (smB _ i + (if c i = 2 then 1 else 0)) ≤ i + 1
    by_cases h1 : c i = 1
    · rw [if_pos h1, if_neg (by omega)]; omega
    · rw [if_neg h1]; split <;> omega
/-- sets that are enough, of nine doors: 126 at most -/
theorem wqM_126 (ok : HOk H) (h9 : hD H ≤ 9) (M : Int32) : smB (fun s => if wqM H M s then 1 else 0) (2 ^ hD H) ≤ 126 := by
  have e : smB (fun s => if wqM H M s then 1 else 0) (2 ^ hD H) = smB (fun b => ch (smB (fun k => if clsM H M k = 1 then 1 else 0) (hD H)) (hLn H - 2 * b) * ch (smB (fun k => if clsM H M k = 2 then 1 else 0) (hD H)) b) ((hLn H + 1) / 2 + 1) := by
    rw [smB_congr (g := fun s => smB (fun b => if pc (clsM H M) (hD H) (hLn H - 2 * b) b s then 1 else 0) ((hLn H + 1) / 2 + 1)) _ (fun s hs => wqM_pc ok M hs), smB_swap]
    exact smB_congr _ (fun b _ => pc_count (clsM H M) (hD H) (hLn H - 2 * b) b)
  rw [e]
  have t := two_cls (clsM H M) (hD H)
  have l := (HOk.L H ok).2.2
  exact many126 (hLn H) (by omega) _ (by omega) _ (by omega)
end CM
