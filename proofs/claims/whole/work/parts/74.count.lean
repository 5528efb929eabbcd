/-! How many sets open: by choices. -/
def ch : Nat → Nat → Nat
  | _, 0 => 1
  | 0, _ + 1 => 0
  | n + 1, k + 1 => ch n k + ch n (k + 1)
theorem smB_zero : ∀ (i : Nat) {f : Nat → Nat}, (∀ j, j < i → f j = 0) → smB f i = 0
  | 0, _, _ => rfl
  | i + 1, f, h => by show smB f i + f i = 0; rw [smB_zero i (fun j hj => h j (by omega)), h i (by omega)]
theorem smB_pos {f : Nat → Nat} : ∀ i, 0 < smB f i → ∃ j, j < i ∧ 0 < f j
  | 0, h => absurd h (Nat.lt_irrefl 0)
  | i + 1, h => by
    by_cases e : 0 < f i
    · exact ⟨i, by omega, e⟩
    · have h' : 0 < smB f i + f i := h
      obtain ⟨j, h1, h2⟩ := smB_pos (f := f) i (by omega)
      exact ⟨j, by omega, h2⟩
theorem smB_ge {f : Nat → Nat} : ∀ i j, j < i → f j ≤ smB f i
  | 0, j, h => absurd h (by omega)
  | i + 1, j, h => by
    show f j ≤ smB f i + f i
    by_cases e : j = i
    · subst e; omega
    · have := smB_ge (f := f) i j (by omega); omega
theorem smB_two {f g : Nat → Nat} : ∀ i, smB (fun j => f j + g j) i = smB f i + smB g i
  | 0 => rfl
  | i + 1 => by
    show smB (fun j => f j + g j) i + (f i + g i) = smB f i + f i + (smB g i + g i)
    rw [smB_two i]; omega
theorem smB_swap {F : Nat → Nat → Nat} (n : Nat) : ∀ m, smB (fun s => smB (fun b => F b s) m) n = smB (fun b => smB (F b) n) m
  | 0 => smB_zero n (fun _ _ => rfl)
  | m + 1 => by
    show smB (fun s => smB (fun b => F b s) m + F m s) n = smB (fun b => smB (F b) n) m + smB (F m) n
    rw [smB_two n, smB_swap n m]
theorem smB_one {Q : Nat → Bool} (y : Nat) : ∀ m, smB (fun b => if b = y ∧ Q b = true then 1 else 0) m = if y < m ∧ Q y = true then 1 else 0
  | 0 => by rw [if_neg (by omega)]; rfl
  | m + 1 => by
    show smB (fun b => if b = y ∧ Q b = true then 1 else 0) m + (if m = y ∧ Q m = true then 1 else 0) = _
    rw [smB_one y m]
    by_cases e : m = y
    · subst e
      rw [if_neg (by omega)]
      cases Q m <;> simp
    · rw [if_neg (c := m = y ∧ Q m = true) (fun z => e z.1)]
      by_cases c : y < m ∧ Q y = true
      · rw [if_pos c, if_pos ⟨by omega, c.2⟩]
      · rw [if_neg c, if_neg (fun z => c ⟨by omega, z.2⟩)]
def cX (c : Nat → Nat) (v : Nat) (s : Nat) (k : Nat) : Nat := if s.testBit k = true ∧ c k = v then 1 else 0
def pc (c : Nat → Nat) : Nat → Nat → Nat → Nat → Bool
  | 0, a, b, _ => decide (a = 0 ∧ b = 0)
  | i + 1, a, b, s => if s.testBit i then (if c i = 1 then (decide (1 ≤ a) && pc c i (a - 1) b s) else if c i = 2 then (decide (1 ≤ b) && pc c i a (b - 1) s) else false) else pc c i a b s
theorem pc_congr {c : Nat → Nat} {s t : Nat} : ∀ (i a b : Nat), (∀ k, k < i → s.testBit k = t.testBit k) → pc c i a b s = pc c i a b t
  | 0, _, _, _ => rfl
  | i + 1, a, b, h => by
    unfold pc
    rw [h i (by omega), pc_congr i (a - 1) b (fun k hk => h k (by omega)), pc_congr i a (b - 1) (fun k hk => h k (by omega)), pc_congr i a b (fun k hk => h k (by omega))]
theorem pc_iff {c : Nat → Nat} {s : Nat} : ∀ (i a b : Nat), pc c i a b s = true ↔ (∀ k, k < i → s.testBit k = true → c k = 1 ∨ c k = 2) ∧ smB (cX c 1 s) i = a ∧ smB (cX c 2 s) i = b
  | 0, a, b => by
    show decide (a = 0 ∧ b = 0) = true ↔ _
    rw [decide_eq_true_iff]
    constructor
    · rintro ⟨rfl, rfl⟩; exact ⟨fun k hk => absurd hk (by omega), rfl, rfl⟩
    · rintro ⟨-, h1, h2⟩; exact ⟨h1.symm, h2.symm⟩
  | i + 1, a, b => by
    have all : (∀ k, k < i + 1 → s.testBit k = true → c k = 1 ∨ c k = 2) ↔ (∀ k, k < i → s.testBit k = true → c k = 1 ∨ c k = 2) ∧ (s.testBit i = true → c i = 1 ∨ c i = 2) := by
      constructor
      · intro h; exact ⟨fun k hk => h k (by omega), h i (by omega)⟩
      · rintro ⟨h1, h2⟩ k hk
        by_cases e : k = i
        · subst e; exact h2
        · exact h1 k (by omega)
    rw [all]
    show (if s.testBit i then (if c i = 1 then (decide (1 ≤ a) && pc c i (a - 1) b s) else if c i = 2 then (decide (1 ≤ b) && pc c i a (b - 1) s) else false) else pc c i a b s) = true ↔ _ ∧ smB (cX c 1 s) i + cX c 1 s i = a ∧ smB (cX c 2 s) i + cX c 2 s i = b
    have ih := fun a b => pc_iff (c := c) (s := s) i a b
    unfold cX at ih ⊢
    cases hb : s.testBit i
    · simp [ih]
    · by_cases c1 : c i = 1
      · simp [c1, ih]
        constructor
        · rintro ⟨h0, h1, h2, h3⟩; exact ⟨h1, by omega, h3⟩
        · rintro ⟨h1, h2, h3⟩; exact ⟨by omega, h1, by omega, h3⟩
      · by_cases c2 : c i = 2
        · simp [c2, ih]
          constructor
          · rintro ⟨h0, h1, h2, h3⟩; exact ⟨h1, h2, by omega⟩
          · rintro ⟨h1, h2, h3⟩; exact ⟨by omega, h1, h2, by omega⟩
        · simp [c1, c2]
theorem pc_count (c : Nat → Nat) : ∀ (i a b : Nat), smB (fun s => if pc c i a b s then 1 else 0) (2 ^ i) = ch (smB (fun k => if c k = 1 then 1 else 0) i) a * ch (smB (fun k => if c k = 2 then 1 else 0) i) b
  | 0, a, b => by
    show 0 + (if decide (a = 0 ∧ b = 0) = true then 1 else 0) = ch 0 a * ch 0 b
    cases a with
    | zero => cases b with
      | zero => rfl
      | succ b => simp [ch]
    | succ a => cases b with
      | zero => simp [ch]
      | succ b => simp [ch]
  | i + 1, a, b => by
    have e2 : 2 ^ (i + 1) = 2 ^ i + 2 ^ i := by rw [Nat.pow_succ]; omega
    rw [e2, smB_add]
    have lo : smB (fun s => if pc c (i + 1) a b s then 1 else 0) (2 ^ i) = smB (fun s => if pc c i a b s then 1 else 0) (2 ^ i) := smB_congr _ (fun s hs => by
      show (if (if s.testBit i then _ else pc c i a b s) = true then 1 else 0) = _
      rw [Nat.testBit_lt_two_pow hs, if_neg (show ¬ false = true by decide)])
    have hi : smB (fun t => if pc c (i + 1) a b (2 ^ i + t) then 1 else 0) (2 ^ i) = smB (fun t => if (if c i = 1 then (decide (1 ≤ a) && pc c i (a - 1) b t) else if c i = 2 then (decide (1 ≤ b) && pc c i a (b - 1) t) else false) then 1 else 0) (2 ^ i) := smB_congr _ (fun t ht => by
      have b1 : (2 ^ i + t).testBit i = true := by rw [Nat.testBit_two_pow_add_eq, Nat.testBit_lt_two_pow ht]; rfl
      have b2 : ∀ k, k < i → (2 ^ i + t).testBit k = t.testBit k := fun k hk => Nat.testBit_two_pow_add_gt hk t
      show (if (if (2 ^ i + t).testBit i then _ else _) = true then _ else _) = _
      rw [b1, if_pos rfl, pc_congr i (a - 1) b b2, pc_congr i a (b - 1) b2])
    rw [lo, hi, pc_count c i a b]
    show _ = ch (smB (fun k => if c k = 1 then 1 else 0) i + (if c i = 1 then 1 else 0)) a * ch (smB (fun k => if c k = 2 then 1 else 0) i + (if c i = 2 then 1 else 0)) b
    generalize hS : smB (fun k => if c k = 1 then 1 else 0) i = S
    generalize hT : smB (fun k => if c k = 2 then 1 else 0) i = T
    by_cases c1 : c i = 1
    · have c2 : ¬ c i = 2 := by omega
      rw [if_pos c1, if_neg c2]
      cases a with
      | zero =>
        rw [smB_zero _ (fun t ht => by rw [if_pos c1]; rfl)]
        simp [ch]
      | succ a =>
        rw [smB_congr (g := fun s => if pc c i a b s then 1 else 0) _ (fun t ht => by rw [if_pos c1]; simp), pc_count c i a b, hS, hT]
        show ch S (a + 1) * ch T b + ch S a * ch T b = (ch S a + ch S (a + 1)) * ch T b
        rw [← Nat.add_mul, Nat.add_comm]
    · by_cases c2 : c i = 2
      · rw [if_neg c1, if_pos c2]
        cases b with
        | zero =>
          rw [smB_zero _ (fun t ht => by rw [if_neg c1, if_pos c2]; rfl)]
          simp [ch]
        | succ b =>
          rw [smB_congr (g := fun s => if pc c i a b s then 1 else 0) _ (fun t ht => by rw [if_neg c1, if_pos c2]; simp), pc_count c i a b, hS, hT]
          show ch S a * ch T (b + 1) + ch S a * ch T b = ch S a * (ch T b + ch T (b + 1))
          rw [← Nat.mul_add, Nat.add_comm]
      · rw [if_neg c1, if_neg c2, smB_zero (f := fun t => _) _ (fun t ht => by rw [if_neg c1, if_neg c2]; rfl)]
        rfl
/-- what a door counts for among those that can be shut -/
def cls (H : HS) (k : Nat) : Nat := if bt (sShutM H) k then wtN (hK H k) else 0
section CT
variable {H : HS} {h : xH} {b d p n : Nat}
theorem wq_pc (ok : HOk H) {s : Nat} (hs : s < 2 ^ hD H) : (if wq H s then 1 else 0) = smB (fun b => if pc (cls H) (hD H) (hLn H - 2 * b) b s then 1 else 0) ((hLn H + 1) / 2 + 1) := by
  have h14 := ok.1
  obtain ⟨-, hL1, hL4⟩ := HOk.L H ok
  have hpw : 2 ^ hD H ≤ 2 ^ 14 := Nat.pow_le_pow_right (by decide) h14
  have hbit : ∀ k, k < 32 → bt (nI s) k = s.testBit k := fun k hk => bt_nI (by omega) hk
  have hhi : ∀ k, hD H ≤ k → s.testBit k = false := fun k hk => Nat.testBit_lt_two_pow (Nat.lt_of_lt_of_le hs (Nat.pow_le_pow_right (by decide) hk))
  have e1 : smB (fun b => if pc (cls H) (hD H) (hLn H - 2 * b) b s then 1 else 0) ((hLn H + 1) / 2 + 1) = smB (fun b => if b = smB (cX (cls H) 2 s) (hD H) ∧ (decide (∀ k, k < hD H → s.testBit k = true → cls H k = 1 ∨ cls H k = 2) && decide (smB (cX (cls H) 1 s) (hD H) = hLn H - 2 * b)) = true then 1 else 0) ((hLn H + 1) / 2 + 1) := smB_congr _ (fun b hb => by
    have : (pc (cls H) (hD H) (hLn H - 2 * b) b s = true) ↔ (b = smB (cX (cls H) 2 s) (hD H) ∧ (decide (∀ k, k < hD H → s.testBit k = true → cls H k = 1 ∨ cls H k = 2) && decide (smB (cX (cls H) 1 s) (hD H) = hLn H - 2 * b)) = true) := by
      rw [pc_iff, Bool.and_eq_true, decide_eq_true_iff, decide_eq_true_iff]
      constructor
      · rintro ⟨z1, z2, z3⟩; exact ⟨z3.symm, z1, z2⟩
      · rintro ⟨z1, z2, z3⟩; exact ⟨z2, z3, z1.symm⟩
    by_cases c : pc (cls H) (hD H) (hLn H - 2 * b) b s = true
    · rw [if_pos c, if_pos (this.mp c)]
    · rw [if_neg c, if_neg (fun z => c (this.mpr z))])
  rw [e1, smB_one]
  have key : wq H s = true ↔ (smB (cX (cls H) 2 s) (hD H) < (hLn H + 1) / 2 + 1 ∧ (decide (∀ k, k < hD H → s.testBit k = true → cls H k = 1 ∨ cls H k = 2) && decide (smB (cX (cls H) 1 s) (hD H) = hLn H - 2 * smB (cX (cls H) 2 s) (hD H))) = true) := by
    rw [Bool.and_eq_true, decide_eq_true_iff, decide_eq_true_iff]
    unfold wq
    rw [Bool.and_eq_true, decide_eq_true_iff, sub_iff]
    have hW : (∀ k, k < 32 → bt (nI s) k = true → bt (sShutM H) k = true) → sW H (nI s) = smB (cX (cls H) 1 s) (hD H) + 2 * smB (cX (cls H) 2 s) (hD H) := by
      intro hsub
      unfold sW
      rw [sumN_0]
      have : ∀ i, i ≤ hD H → smB (sWt H (nI s)) i = smB (cX (cls H) 1 s) i + 2 * smB (cX (cls H) 2 s) i := by
        intro i
        induction i with
        | zero => intro _; rfl
        | succ i ih =>
          intro hi
          show smB (sWt H (nI s)) i + sWt H (nI s) i = smB (cX (cls H) 1 s) i + cX (cls H) 1 s i + 2 * (smB (cX (cls H) 2 s) i + cX (cls H) 2 s i)
          rw [ih (by omega)]
          have : sWt H (nI s) i = cX (cls H) 1 s i + 2 * cX (cls H) 2 s i := by
            unfold sWt cX
            rw [hbit i (by omega)]
            cases e : s.testBit i
            · simp
            · have hm := hsub i (by omega) (by rw [hbit i (by omega)]; exact e)
              have hc : cls H i = wtN (hK H i) := by unfold cls; rw [hm]; rfl
              rw [hc]
              have := wtN_le (hK H i)
              have : wtN (hK H i) = 0 ∨ wtN (hK H i) = 1 ∨ wtN (hK H i) = 2 := by omega
              rcases this with z | z | z <;> simp [z]
          omega
      exact this _ (Nat.le_refl _)
    constructor
    · rintro ⟨hsub, hen⟩
      have hw := hW hsub
      unfold sEn at hen
      rw [Bool.and_eq_true, decide_eq_true_iff, anyN_0] at hen
      obtain ⟨h1, h2⟩ := hen
      have h3 : ∀ k, k < hD H → s.testBit k = true → sW H (nI s) - wtN (hK H k) < hLn H := by
        intro k hk hb
        rcases Nat.lt_or_ge (sW H (nI s) - wtN (hK H k)) (hLn H) with z | z
        · exact z
        · have : anB (fun d => bt (nI s) d && decide (hLn H ≤ sW H (nI s) - wtN (hK H d))) (hD H) = true := (anB_iff _).mpr ⟨k, hk, by rw [hbit k (by omega), hb, decide_eq_true z]; rfl⟩
          rw [this] at h2; cases h2
      have hc : ∀ k, k < hD H → s.testBit k = true → cls H k = wtN (hK H k) := fun k hk hb => by
        unfold cls; rw [hsub k (by omega) (by rw [hbit k (by omega)]; exact hb)]; rfl
      have all : ∀ k, k < hD H → s.testBit k = true → cls H k = 1 ∨ cls H k = 2 := fun k hk hb => by
        have := h3 k hk hb
        have := wtN_le (hK H k)
        rw [hc k hk hb]
        omega
      have x1 : 0 < smB (cX (cls H) 1 s) (hD H) → sW H (nI s) - 1 < hLn H := fun z => by
        obtain ⟨j, hj, hz⟩ := smB_pos _ z
        unfold cX at hz
        by_cases c : s.testBit j = true ∧ cls H j = 1
        · have := h3 j hj c.1
          rw [← hc j hj c.1, c.2] at this; exact this
        · rw [if_neg c] at hz; exact absurd hz (by decide)
      have x2 : 0 < smB (cX (cls H) 2 s) (hD H) → sW H (nI s) - 2 < hLn H := fun z => by
        obtain ⟨j, hj, hz⟩ := smB_pos _ z
        unfold cX at hz
        by_cases c : s.testBit j = true ∧ cls H j = 2
        · have := h3 j hj c.1
          rw [← hc j hj c.1, c.2] at this; exact this
        · rw [if_neg c] at hz; exact absurd hz (by decide)
      refine ⟨?_, all, ?_⟩ <;> omega
    · rintro ⟨hy, all, hx⟩
      have hsub : ∀ k, k < 32 → bt (nI s) k = true → bt (sShutM H) k = true := fun k hk hb => by
        rw [hbit k hk] at hb
        rcases Nat.lt_or_ge k (hD H) with c | c
        · have := all k c hb
          unfold cls at this
          cases e : bt (sShutM H) k
          · rw [e] at this; simp at this
          · rfl
        · rw [hhi k c] at hb; cases hb
      have hw := hW hsub
      refine ⟨hsub, ?_⟩
      unfold sEn
      rw [decide_eq_true (show hLn H ≤ sW H (nI s) by omega), anyN_0]
      have : anB (fun d => bt (nI s) d && decide (hLn H ≤ sW H (nI s) - wtN (hK H d))) (hD H) = false := by
        rw [Bool.eq_false_iff]
        intro z
        obtain ⟨j, hj, hz⟩ := (anB_iff _).mp z
        rw [Bool.and_eq_true, decide_eq_true_iff, hbit j (by omega)] at hz
        have hcj : cls H j = wtN (hK H j) := by
          unfold cls; rw [hsub j (by omega) (by rw [hbit j (by omega)]; exact hz.1)]; rfl
        rcases all j hj hz.1 with a | a
        · have := smB_ge (f := cX (cls H) 1 s) (hD H) j hj
          have e : cX (cls H) 1 s j = 1 := if_pos ⟨hz.1, a⟩
          omega
        · have := smB_ge (f := cX (cls H) 2 s) (hD H) j hj
          have e : cX (cls H) 2 s j = 1 := if_pos ⟨hz.1, a⟩
          omega
      rw [this]; rfl
  by_cases c : wq H s = true
  · rw [if_pos c, if_pos (key.mp c)]
  · rw [if_neg c, if_neg (fun z => c (key.mpr z))]
def sS1 (H : HS) : Nat := smB (fun k => if cls H k = 1 then 1 else 0) (hD H)
def sS2 (H : HS) : Nat := smB (fun k => if cls H k = 2 then 1 else 0) (hD H)
theorem sMany_ch (ok : HOk H) : sMany H = smB (fun b => ch (sS1 H) (hLn H - 2 * b) * ch (sS2 H) b) ((hLn H + 1) / 2 + 1) := by
  unfold sMany
  rw [smB_congr (g := fun s => smB (fun b => if pc (cls H) (hD H) (hLn H - 2 * b) b s then 1 else 0) ((hLn H + 1) / 2 + 1)) _ (fun s hs => wq_pc ok hs), smB_swap]
  exact smB_congr _ (fun b _ => pc_count (cls H) (hD H) (hLn H - 2 * b) b)
theorem ch_step : ∀ a, a ≤ 14 → ∀ i, i < 5 → x_idiv (nI (ch a i) * (nI a - nI i)) (nI i + 1) = some (nI (ch a (i + 1))) := by decide +kernel
theorem h_choose {a k : Nat} (hn : 20 ≤ n) (ha : a ≤ 14) (hk : k ≤ 5) : f_X0_choose n h (nI a) (nI k) = some (nI (ch a k)) := by
  unfold f_X0_choose
  have := lpE (L := fun q s i => f_X0_choose_L4 h (nI a) (nI k) q s (nI i)) (g := fun i => nI (ch a i)) (D := k) (n := n) (fin := nI (ch a k)) (by omega)
    (fun q => by
      show f_X0_choose_L4 h (nI a) (nI k) (q + 1) _ (nI k) = _
      rw [f_X0_choose_L4, if_pos (nI_le (Nat.le_refl _) (by omega))])
    (fun q i hi => by
      show f_X0_choose_L4 h (nI a) (nI k) (q + 1) _ (nI i) = f_X0_choose_L4 h (nI a) (nI k) q _ (nI (i + 1))
      rw [f_X0_choose_L4, if_neg (nI_ge hi (by omega)), ch_step a ha i (by omega), Option.bind_some, Option.bind_some, nI_1])
  have e0 : ch a 0 = 1 := by cases a <;> rfl
  rw [show (1 : Int32) = nI (ch a 0) by rw [e0]; rfl, show f_X0_choose_L4 h (nI a) (nI k) n (nI (ch a 0)) 0 = _ from this]
  rfl
theorem sgl_beside : ∀ L, L ≤ 4 → ∀ t, t ≤ 3 → x_max 0 (nI L - 2 * nI t) = nI (L - 2 * t) := by decide +kernel
theorem h_cnt25 (q : HAt h b H) (ok : HOk H) (hn : 20 ≤ n) : f_X0_countSets_L25 h b (sShutM H) n 0 0 0 = some (nI (sS1 H), nI (sS2 H)) := by
  have h14 := ok.1
  have := lpE (L := fun k (s : Int32 × Int32) i => f_X0_countSets_L25 h b (sShutM H) k s.1 s.2 (nI i)) (g := fun i => (nI (smB (fun k => if cls H k = 1 then 1 else 0) i), nI (smB (fun k => if cls H k = 2 then 1 else 0) i))) (D := hD H) (n := n) (fin := (nI (sS1 H), nI (sS2 H))) (by omega)
    (fun k => by
      show f_X0_countSets_L25 h b (sShutM H) (k + 1) _ _ (nI (hD H)) = _
      simp only [f_X0_countSets_L25, q.D, Option.bind_some]
      rw [if_pos (nI_le (Nat.le_refl _) (by omega))]; rfl)
    (fun k i hi => by
      show f_X0_countSets_L25 h b (sShutM H) (k + 1) (nI (smB (fun k => if cls H k = 1 then 1 else 0) i)) (nI (smB (fun k => if cls H k = 2 then 1 else 0) i)) (nI i) = f_X0_countSets_L25 h b (sShutM H) k (nI (smB (fun k => if cls H k = 1 then 1 else 0) i + if cls H i = 1 then 1 else 0)) (nI (smB (fun k => if cls H k = 2 then 1 else 0) i + if cls H i = 2 then 1 else 0)) (nI (i + 1))
      rw [f_X0_countSets_L25]
      simp only [q.D, q.ob, h_weightOf q ok hi, Option.bind_some, nI_1]
      rw [if_neg (nI_ge hi (by omega))]
      generalize smB (fun k => if cls H k = 1 then 1 else 0) i = A
      generalize smB (fun k => if cls H k = 2 then 1 else 0) i = B
      unfold cls
      cases e : bt (sShutM H) i
      · rw [if_pos ((b_has _ (by omega)).mpr e)]; rfl
      · rw [if_neg (fun z => by rw [(b_has _ (by omega)).mp z] at e; cases e), if_pos rfl]
        have := wtN_le (hK H i)
        have : wtN (hK H i) = 0 ∨ wtN (hK H i) = 1 ∨ wtN (hK H i) = 2 := by omega
        rcases this with z | z | z
        · rw [z]
          simp only [show ¬ nI 0 = (1 : Int32) by decide, show ¬ nI 0 = (2 : Int32) by decide, if_false, Option.bind_some, show ¬ (0 = 1) by decide, show ¬ (0 = 2) by decide, nI_add0]
          rfl
        · rw [z]
          simp only [show nI 1 = (1 : Int32) by decide, show ¬ (1 : Int32) = (2 : Int32) by decide, if_false, if_true, Option.bind_some, show ¬ (1 = 2) by decide, nI_add0, nI_1]
          rfl
        · rw [z]
          simp only [show ¬ nI 2 = (1 : Int32) by decide, show nI 2 = (2 : Int32) by decide, if_false, if_true, Option.bind_some, show ¬ (2 = 1) by decide, nI_add0, nI_1, show ¬ (2 : Int32) = 1 by decide]
          rfl)
  exact this
theorem sS_le (ok : HOk H) : sS1 H ≤ 14 ∧ sS2 H ≤ 14 := by
  have h14 := ok.1
  have h1 := smB_le (f := fun k => if cls H k = 1 then 1 else 0) (m := 1) (fun j => by split <;> omega) (hD H)
  have h2 := smB_le (f := fun k => if cls H k = 2 then 1 else 0) (m := 1) (fun j => by split <;> omega) (hD H)
  unfold sS1 sS2
  omega
theorem nI_2 : (2 : Int32) = nI 2 := rfl
theorem nI_2m (i : Nat) : (2 : Int32) * nI i = nI (2 * i) := by rw [nI_2, pk_mul]
theorem h_cnt95 {a c M L : Nat} {F : Nat → Nat} (hF : ∀ i, i < M → F i = ch a (L - 2 * i) * ch c i) (eL : x_gI h b 0 7 = some (nI L)) (hL4 : L ≤ 4) (hn : 20 ≤ n) (s1 : a ≤ 14) (s2 : c ≤ 14) (hM : L + 1 < 2 * M) (hM2 : 2 * M ≤ L + 3) : f_X0_countSets_L95 n h b (nI a) (nI c) n (nI 0) (nI 0) = some (nI (smB F M)) := by
  have := lpE (L := fun k s i => f_X0_countSets_L95 n h b (nI a) (nI c) k s (nI i)) (g := fun i => nI (smB F i)) (D := M) (n := n) (fin := nI (smB F M)) (by omega)
    (fun k => by
      show f_X0_countSets_L95 n h b (nI a) (nI c) (k + 1) _ (nI M) = _
      rw [f_X0_countSets_L95, eL, Option.bind_some, nI_1, nI_2m M, if_pos (nI_lt (by omega) (by omega))])
    (fun k i hi => by
      show f_X0_countSets_L95 n h b (nI a) (nI c) (k + 1) _ (nI i) = f_X0_countSets_L95 n h b (nI a) (nI c) k (nI (smB F i + F i)) (nI (i + 1))
      rw [f_X0_countSets_L95, eL, Option.bind_some, nI_1, nI_2m i, if_neg (nI_nlt (by omega) (by omega)), Option.bind_some]
      unfold f_X6_singlesBeside
      rw [sgl_beside _ hL4 i (by omega), Option.bind_some, h_choose hn s1 (by omega), Option.bind_some, h_choose hn s2 (by omega), Option.bind_some, pk_mul, ← hF i hi, Option.bind_some, Option.bind_some, nI_add, nI_1])
  exact this
theorem h_countSets (q : HAt h b H) (ok : HOk H) (hn : 20 ≤ n) (hp : p < hP H) (hd : d < hD H) : f_X0_countSets n h b (nI p) (nI d) = some (if sStands H p d then nI (sMany H) else 0) := by
  have h14 := ok.1
  obtain ⟨eL, hL1, hL4⟩ := HOk.L H ok
  obtain ⟨s1, s2⟩ := sS_le ok
  unfold f_X0_countSets
  rw [q.ob, Option.bind_some, h_stands q ok hp hd, Option.bind_some]
  rw [show (!bt (hO H) d && sOpens H d (hR H p)) = sStands H p d from rfl]
  cases sStands H p d
  · rw [if_pos (show bI false = 0 from rfl), if_neg (by decide)]
  · rw [if_neg (show ¬ bI true = 0 by decide), if_pos rfl, Option.bind_some, h_shuttable q ok hn, Option.bind_some, h_cnt25 q ok hn, Option.bind_some]
    simp only []
    have qL := q.L
    rw [eL] at qL
    rw [show (0 : Int32) = nI 0 from rfl, h_cnt95 (M := (hLn H + 1) / 2 + 1) (fun _ _ => rfl) qL hL4 hn s1 s2 (by omega) (by omega), Option.bind_some, sMany_ch ok]
end CT
