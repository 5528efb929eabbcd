/-! Sets that open: the least (class: by leaving out; reference: by trying in order), how many. -/
theorem smB_mono {f g : Nat → Nat} : ∀ i, (∀ j, j < i → f j ≤ g j) → smB f i ≤ smB g i
  | 0, _ => Nat.le_refl _
  | i + 1, h => Nat.add_le_add (smB_mono i (fun j hj => h j (by omega))) (h i (by omega))
theorem smB_add {f : Nat → Nat} (a : Nat) : ∀ b, smB f (a + b) = smB f a + smB (fun t => f (a + t)) b
  | 0 => rfl
  | b + 1 => by
    show smB f (a + b) + f (a + b) = smB f a + (smB (fun t => f (a + t)) b + f (a + b))
    rw [smB_add a b]; omega
section WY
variable {H : HS} {set S T : Int32} {d p i : Nat}
theorem sW_mono (ok : HOk H) (hs : ∀ k, k < 32 → bt T k = true → bt S k = true) : sW H T ≤ sW H S := by
  have h14 := ok.1
  unfold sW
  rw [sumN_0, sumN_0]
  apply smB_mono
  intro j hj
  unfold sWt
  cases e : bt T j
  · exact Nat.zero_le _
  · rw [hs j (by omega) e]; exact Nat.le_refl _
theorem gl_spec (ok : HOk H) : ∀ (i : Nat) (S : Int32), i ≤ hD H → hLn H ≤ sW H S →
    (∀ k, k < 32 → i ≤ k → bt (glS H i S) k = bt S k) ∧ (∀ k, k < 32 → bt (glS H i S) k = true → bt S k = true) ∧ hLn H ≤ sW H (glS H i S) ∧
    (∀ j, j < i → bt (glS H i S) j = true → ∀ T : Int32, (∀ k, k < 32 → bt T k = true → bt S k = true) → (∀ k, j < k → k < 32 → bt T k = bt (glS H i S) k) → bt T j = false → sW H T < hLn H) ∧
    (∀ j, j < i → bt (glS H i S) j = true → sW H (glS H i S) - wtN (hK H j) < hLn H)
  | 0, S, _, hw => ⟨fun _ _ _ => rfl, fun _ _ h => h, hw, fun j hj => absurd hj (by omega), fun j hj => absurd hj (by omega)⟩
  | i + 1, S, hi, hw => by
    have h14 := ok.1
    show (∀ k, k < 32 → i + 1 ≤ k → bt (glS H i (if bt S i && decide (hLn H ≤ sW H S - wtN (hK H i)) then sClr S i else S)) k = bt S k) ∧ (∀ k, k < 32 → bt (glS H i (if bt S i && decide (hLn H ≤ sW H S - wtN (hK H i)) then sClr S i else S)) k = true → bt S k = true) ∧ hLn H ≤ sW H (glS H i (if bt S i && decide (hLn H ≤ sW H S - wtN (hK H i)) then sClr S i else S)) ∧ (∀ j, j < i + 1 → bt (glS H i (if bt S i && decide (hLn H ≤ sW H S - wtN (hK H i)) then sClr S i else S)) j = true → ∀ T : Int32, (∀ k, k < 32 → bt T k = true → bt S k = true) → (∀ k, j < k → k < 32 → bt T k = bt (glS H i (if bt S i && decide (hLn H ≤ sW H S - wtN (hK H i)) then sClr S i else S)) k) → bt T j = false → sW H T < hLn H) ∧ (∀ j, j < i + 1 → bt (glS H i (if bt S i && decide (hLn H ≤ sW H S - wtN (hK H i)) then sClr S i else S)) j = true → sW H (glS H i (if bt S i && decide (hLn H ≤ sW H S - wtN (hK H i)) then sClr S i else S)) - wtN (hK H j) < hLn H)
    by_cases c : bt S i = true ∧ hLn H ≤ sW H S - wtN (hK H i)
    · have e : (bt S i && decide (hLn H ≤ sW H S - wtN (hK H i))) = true := by rw [c.1, decide_eq_true c.2]; rfl
      rw [if_pos e]
      have hc := sW_clr ok (d := i) (by omega) c.1
      obtain ⟨a1, a2, a3, a4, a5⟩ := gl_spec ok i (sClr S i) (by omega) (by omega)
      have sub : ∀ k, k < 32 → bt (sClr S i) k = true → bt S k = true := fun k hk z => by
        rw [sClr_bt (by omega) hk, Bool.and_eq_true] at z; exact z.1
      refine ⟨fun k hk hik => ?_, fun k hk z => sub k hk (a2 k hk z), a3, ?_, ?_⟩
      · rw [a1 k hk (by omega), sClr_bt (by omega) hk]
        simp [show ¬ k = i by omega]
      · intro j hj hb T hT hag hTj
        have hii : bt (glS H i (sClr S i)) i = false := by
          rw [a1 i (by omega) (Nat.le_refl _), sClr_bt (by omega) (by omega)]; simp
        by_cases e : j = i
        · subst e; rw [hii] at hb; cases hb
        · refine a4 j (by omega) hb T (fun k hk z => ?_) hag hTj
          rw [sClr_bt (by omega) hk, hT k hk z]
          by_cases e2 : k = i
          · subst e2
            rw [hag k (by omega) hk, hii] at z; cases z
          · simp [e2]
      · intro j hj hb
        by_cases e : j = i
        · subst e
          rw [a1 j (by omega) (Nat.le_refl _), sClr_bt (by omega) (by omega)] at hb
          simp at hb
        · exact a5 j (by omega) hb
    · have e : (bt S i && decide (hLn H ≤ sW H S - wtN (hK H i))) = false := by
        rw [Bool.eq_false_iff]; intro z
        rw [Bool.and_eq_true, decide_eq_true_iff] at z
        exact c z
      rw [if_neg (by rw [e]; decide)]
      obtain ⟨a1, a2, a3, a4, a5⟩ := gl_spec ok i S (by omega) hw
      refine ⟨fun k hk hik => a1 k hk (by omega), a2, a3, ?_, ?_⟩
      · intro j hj hb T hT hag hTj
        by_cases e : j = i
        · subst e
          rw [a1 j (by omega) (Nat.le_refl _)] at hb
          have hc := sW_clr ok (d := j) (by omega) hb
          have hm : sW H T ≤ sW H (sClr S j) := sW_mono ok (fun k hk z => by
            rw [sClr_bt (by omega) hk, hT k hk z]
            by_cases e2 : k = j
            · subst e2; rw [hTj] at z; cases z
            · simp [e2])
          have : ¬ hLn H ≤ sW H S - wtN (hK H j) := fun z => c ⟨hb, z⟩
          omega
        · exact a4 j (by omega) hb T hT hag hTj
      · intro j hj hb
        by_cases e : j = i
        · subst e
          rw [a1 j (by omega) (Nat.le_refl _)] at hb
          have : ¬ hLn H ≤ sW H S - wtN (hK H j) := fun z => c ⟨hb, z⟩
          have hm : sW H (glS H j S) ≤ sW H S := sW_mono ok a2
          omega
        · exact a5 j (by omega) hb
theorem bt_nI {s k : Nat} (hs : s < 2 ^ 31) (hk : k < 32) : bt (nI s) k = s.testBit k := by
  unfold bt
  rw [← BitVec.testBit_toNat, pk_tn (by omega)]
/-- within the mask -/
theorem sub_iff {m : Int32} : set &&& (m ^^^ (-1)) = 0 ↔ ∀ k, k < 32 → bt set k = true → bt m k = true := by
  constructor
  · intro h k hk hb
    have := congrArg (fun z => bt z k) h
    simp only [b_and, b_not _ hk, b_0, hb] at this
    cases e : bt m k
    · rw [e] at this; cases this
    · rfl
  · intro h
    apply b_ext
    intro k hk
    rw [b_and, b_not _ hk, b_0]
    cases e : bt set k
    · rfl
    · rw [h k hk e]; rfl
theorem lt_bit {x y : Nat} (n : Nat) (hx : x.testBit n = false) (hy : y.testBit n = true) (h : ∀ j, n < j → x.testBit j = y.testBit j) : x < y := by
  have e : x >>> (n + 1) = y >>> (n + 1) := Nat.eq_of_testBit_eq (fun j => by rw [Nat.testBit_shiftRight, Nat.testBit_shiftRight]; exact h _ (by omega))
  rw [Nat.testBit_eq_decide_div_mod_eq, decide_eq_false_iff_not] at hx
  rw [Nat.testBit_eq_decide_div_mod_eq, decide_eq_true_iff] at hy
  rw [Nat.shiftRight_eq_div_pow, Nat.shiftRight_eq_div_pow, Nat.pow_succ, ← Nat.div_div_eq_div_mul, ← Nat.div_div_eq_div_mul] at e
  rcases Nat.lt_or_ge x y with c | c
  · exact c
  · have := Nat.div_le_div_right (c := 2 ^ n) c
    omega
theorem high_bit {s g : Nat} : ∀ n, (∀ j, n ≤ j → s.testBit j = g.testBit j) → s < g → ∃ i, i < n ∧ s.testBit i = false ∧ g.testBit i = true ∧ ∀ j, i < j → s.testBit j = g.testBit j
  | 0, h, hl => absurd (Nat.eq_of_testBit_eq (fun j => h j (by omega))) (by omega)
  | n + 1, h, hl => by
    by_cases e : s.testBit n = g.testBit n
    · obtain ⟨i, h1, h2⟩ := high_bit n (fun j hj => by
        by_cases e2 : j = n
        · subst e2; exact e
        · exact h j (by omega)) hl
      exact ⟨i, by omega, h2⟩
    · cases hs : s.testBit n
      · cases hg : g.testBit n
        · rw [hs, hg] at e; exact absurd rfl e
        · exact ⟨n, by omega, hs, hg, fun j hj => h j (by omega)⟩
      · cases hg : g.testBit n
        · have := lt_bit n hg hs (fun j hj => (h j (by omega)).symm)
          omega
        · rw [hs, hg] at e; exact absurd rfl e
def wq (H : HS) (s : Nat) : Bool := decide (nI s &&& (sShutM H ^^^ (-1)) = 0) && sEn H (nI s)
theorem sEn_le (h : sEn H set = true) : hLn H ≤ sW H set := by
  unfold sEn at h
  rw [Bool.and_eq_true, decide_eq_true_iff] at h
  exact h.1
theorem sW_0 (H : HS) (h14 : hD H ≤ 14) : sW H 0 = 0 := by
  unfold sW
  rw [sumN_0]
  have : ∀ i, smB (sWt H 0) i = 0 := by
    intro i
    induction i with
    | zero => rfl
    | succ i ih => show smB (sWt H 0) i + sWt H 0 i = 0; rw [ih]; unfold sWt; rw [b_0]; rfl
  exact this _
theorem wq_0 (ok : HOk H) : wq H 0 = false := by
  obtain ⟨-, h1, -⟩ := HOk.L H ok
  rw [Bool.eq_false_iff]
  intro z
  unfold wq at z
  rw [Bool.and_eq_true] at z
  have := sEn_le z.2
  rw [show nI 0 = (0 : Int32) from rfl, sW_0 H ok.1] at this
  omega
theorem wq_no (ok : HOk H) (h : ¬ hLn H ≤ sW H (sShutM H)) (s : Nat) : wq H s = false := by
  rw [Bool.eq_false_iff]
  intro z
  unfold wq at z
  rw [Bool.and_eq_true, decide_eq_true_iff] at z
  have := sEn_le z.2
  have := sW_mono ok (sub_iff.mp z.1)
  omega
theorem sShutM_hi (ok : HOk H) {k : Nat} (hk : k < 32) (hb : bt (sShutM H) k = true) : k < hD H := by
  rw [sShutM_bt H ok hk, Bool.and_eq_true, decide_eq_true_iff] at hb
  exact hb.1
/-- what the leaving-out comes to is the least in order -/
theorem gl_least (ok : HOk H) (h : hLn H ≤ sW H (sShutM H)) : ∃ g, 1 ≤ g ∧ g < 2 ^ hD H ∧ glS H (hD H) (sShutM H) = nI g ∧ wq H g = true ∧ ∀ s, s < g → wq H s = false := by
  have h14 := ok.1
  obtain ⟨a1, a2, a3, a4, a5⟩ := gl_spec ok (hD H) (sShutM H) (Nat.le_refl _) h
  generalize hG : glS H (hD H) (sShutM H) = G at a1 a2 a3 a4 a5
  have hbits : ∀ k, k < 32 → hD H ≤ k → bt G k = false := fun k hk hd => by
    cases e : bt G k
    · rfl
    · have := sShutM_hi ok hk (a2 k hk e); omega
  have hlt : G.toBitVec.toNat < 2 ^ hD H := by
    apply Nat.lt_pow_two_of_testBit
    intro i hi
    by_cases h32 : i < 32
    · have := hbits i h32 hi
      unfold bt at this
      rw [BitVec.testBit_toNat]; exact this
    · rw [BitVec.testBit_toNat]; exact BitVec.getLsbD_of_ge _ _ (by omega)
  have hp : 2 ^ hD H ≤ 2 ^ 14 := Nat.pow_le_pow_right (by decide) h14
  have eG : G = nI G.toBitVec.toNat := by
    apply Int32.toBitVec_inj.mp
    apply BitVec.eq_of_toNat_eq
    rw [pk_tn (by omega)]
  generalize G.toBitVec.toNat = g at hlt eG
  have hw : wq H g = true := by
    unfold wq
    rw [← eG, decide_eq_true (sub_iff.mpr a2)]
    unfold sEn
    rw [decide_eq_true a3, anyN_0]
    have : anB (fun d => bt G d && decide (hLn H ≤ sW H G - wtN (hK H d))) (hD H) = false := by
      rw [Bool.eq_false_iff]
      intro z
      obtain ⟨j, hj, hz⟩ := (anB_iff _).mp z
      rw [Bool.and_eq_true, decide_eq_true_iff] at hz
      have := a5 j hj hz.1
      omega
    rw [this]; rfl
  refine ⟨g, ?_, hlt, eG, hw, ?_⟩
  · cases g with
    | zero => rw [wq_0 ok] at hw; cases hw
    | succ g => omega
  · intro s hs
    rw [Bool.eq_false_iff]
    intro z
    unfold wq at z
    rw [Bool.and_eq_true, decide_eq_true_iff] at z
    obtain ⟨i, hi, b1, b2, b3⟩ := high_bit 32 (fun j hj => by
      rw [Nat.testBit_lt_two_pow (show s < 2 ^ j from Nat.lt_of_lt_of_le (show s < 2 ^ 32 by omega) (Nat.pow_le_pow_right (by decide) hj)), Nat.testBit_lt_two_pow (show g < 2 ^ j from Nat.lt_of_lt_of_le (show g < 2 ^ 32 by omega) (Nat.pow_le_pow_right (by decide) hj))]) hs
    have hiD : i < hD H := by
      rcases Nat.lt_or_ge i (hD H) with c | c
      · exact c
      · have := hbits i hi c
        rw [eG, bt_nI (by omega) hi, b2] at this; cases this
    have := a4 i hiD (by rw [eG, bt_nI (by omega) hi]; exact b2) (nI s) (sub_iff.mp z.1) (fun k hk hk2 => by rw [eG, bt_nI (by omega) hk2, bt_nI (by omega) hk2]; exact b3 k hk) (by rw [bt_nI (by omega) hi]; exact b1)
    have := sEn_le z.2
    omega
end WY
section MM
variable {h h' : xH} {m d p n : Nat} {H : HS}
theorem bit_nI : ∀ k, k ≤ 14 → i_shl 1 (nI k) = nI (2 ^ k) := by decide +kernel
theorem m_ways1 (q : MH h m H) (ok : HOk H) (hn : 20000 ≤ n) (hp : p < hP H) (hd : d < hD H) : f_X7_waysOf n h m (nI p) (nI d) 1 = some (sLeast H p d) := by
  have h14 := ok.1
  have hpw : 2 ^ hD H ≤ 2 ^ 14 := Nat.pow_le_pow_right (by decide) h14
  have hpw1 : 1 ≤ 2 ^ hD H := Nat.one_le_two_pow
  unfold f_X7_waysOf
  simp only [q.ob, m_shuttable q ok (show 20 ≤ n by omega), q.rr, q.ldR ok hp, m_canOpen q ok hd, Option.bind_some]
  unfold sLeast sStands
  cases !bt (hO H) d && sOpens H d (hR H p)
  · rw [if_pos (show bI false = 0 from rfl)]; rfl
  · rw [if_neg (show ¬ bI true = 0 by decide), if_pos rfl]
    have step : ∀ k (v5 : Int32) i, i < 2 ^ hD H → f_X7_waysOf_L36 n h m 1 (sShutM H) (k + 1) v5 (nI i) = if wq H i then some (.inl (nI i)) else f_X7_waysOf_L36 n h m 1 (sShutM H) k v5 (nI (i + 1)) := by
      intro k v5 i hi
      rw [f_X7_waysOf_L36]
      simp only [q.D, q.ob, m_isEnough q ok (show 20 ≤ n by omega), Option.bind_some, nI_1]
      rw [bit_nI _ h14, if_neg (nI_ge hi (by omega))]
      unfold wq
      by_cases c : nI i &&& (sShutM H ^^^ (-1)) = 0
      · rw [if_pos c, decide_eq_true c]
        cases sEn H (nI i)
        · rw [if_pos (show bI false = 0 from rfl)]; rfl
        · rw [if_neg (show ¬ bI true = 0 by decide), if_pos (by decide)]; rfl
      · rw [if_neg c, decide_eq_false c]; rfl
    have fin : ∀ k (v5 : Int32), f_X7_waysOf_L36 n h m 1 (sShutM H) (k + 1) v5 (nI (2 ^ hD H)) = some (.inr v5) := by
      intro k v5
      rw [f_X7_waysOf_L36]
      simp only [q.D, Option.bind_some]
      rw [bit_nI _ h14, if_pos (nI_le (Nat.le_refl _) (by omega))]
    by_cases c : hLn H ≤ sW H (sShutM H)
    · rw [if_pos c]
      obtain ⟨g, g1, g2, g3, g4, g5⟩ := gl_least ok c
      obtain ⟨b, e, r⟩ := lp (L := fun k (_ : Unit) i => f_X7_waysOf_L36 n h m 1 (sShutM H) k 0 (nI i)) (I := fun i _ => i ≤ g) (R := fun b => b = .inl (nI g)) (2 ^ hD H) (fun k s hs => absurd hs (by omega)) (fun k s i hi hs => by
        show (∃ b, f_X7_waysOf_L36 n h m 1 (sShutM H) (k + 1) 0 (nI i) = some b ∧ _) ∨ _
        rw [step k 0 i hi]
        by_cases e : i = g
        · subst e; left; exact ⟨_, by rw [if_pos g4], rfl⟩
        · right; exact ⟨(), by rw [if_neg (by rw [g5 i (by omega)]; decide)], by omega⟩) (2 ^ hD H - 1) 1 n () (by omega) (by omega) g1
      rw [show f_X7_waysOf_L36 n h m 1 (sShutM H) n 0 1 = some b from e, r, g3]
      rfl
    · rw [if_neg c]
      obtain ⟨b, e, r⟩ := lp (L := fun k (_ : Unit) i => f_X7_waysOf_L36 n h m 1 (sShutM H) k 0 (nI i)) (I := fun i _ => True) (R := fun b => b = .inr 0) (2 ^ hD H) (fun k s hs => ⟨_, fin k 0, rfl⟩) (fun k s i hi hs => by
        right
        show ∃ s', f_X7_waysOf_L36 n h m 1 (sShutM H) (k + 1) 0 (nI i) = _ ∧ _
        rw [step k 0 i hi, wq_no ok c]
        exact ⟨(), rfl, trivial⟩) (2 ^ hD H - 1) 1 n () (by omega) (by omega) trivial
      rw [show f_X7_waysOf_L36 n h m 1 (sShutM H) n 0 1 = some b from e, r]
      rfl
def sMany (H : HS) : Nat := smB (fun s => if wq H s then 1 else 0) (2 ^ hD H)
theorem m_ways0 (q : MH h m H) (ok : HOk H) (hn : 20000 ≤ n) (hp : p < hP H) (hd : d < hD H) : f_X7_waysOf n h m (nI p) (nI d) 0 = some (if sStands H p d then nI (sMany H) else 0) := by
  have h14 := ok.1
  have hpw : 2 ^ hD H ≤ 2 ^ 14 := Nat.pow_le_pow_right (by decide) h14
  have hpw1 : 1 ≤ 2 ^ hD H := Nat.one_le_two_pow
  unfold f_X7_waysOf
  simp only [q.ob, m_shuttable q ok (show 20 ≤ n by omega), q.rr, q.ldR ok hp, m_canOpen q ok hd, Option.bind_some]
  unfold sStands
  cases !bt (hO H) d && sOpens H d (hR H p)
  · rw [if_pos (show bI false = 0 from rfl)]; rfl
  · rw [if_neg (show ¬ bI true = 0 by decide), if_pos rfl]
    obtain ⟨b, e, r⟩ := lp (L := fun k (s : Nat) i => f_X7_waysOf_L36 n h m 0 (sShutM H) k (nI s) (nI i)) (I := fun i s => s = smB (fun s => if wq H s then 1 else 0) i) (R := fun b => b = .inr (nI (sMany H))) (2 ^ hD H) (fun k s hs => by
      refine ⟨_, ?_, rfl⟩
      show f_X7_waysOf_L36 n h m 0 (sShutM H) (k + 1) (nI s) (nI (2 ^ hD H)) = _
      rw [f_X7_waysOf_L36]
      simp only [q.D, Option.bind_some]
      rw [bit_nI _ h14, if_pos (nI_le (Nat.le_refl _) (by omega)), hs]
      rfl) (fun k s i hi hs => by
      right
      refine ⟨s + (if wq H i then 1 else 0), ?_, by rw [hs]; rfl⟩
      show f_X7_waysOf_L36 n h m 0 (sShutM H) (k + 1) (nI s) (nI i) = f_X7_waysOf_L36 n h m 0 (sShutM H) k (nI (s + (if wq H i then 1 else 0))) (nI (i + 1))
      rw [f_X7_waysOf_L36]
      simp only [q.D, q.ob, m_isEnough q ok (show 20 ≤ n by omega), Option.bind_some, nI_1]
      rw [bit_nI _ h14, if_neg (nI_ge hi (by omega))]
      unfold wq
      by_cases c : nI i &&& (sShutM H ^^^ (-1)) = 0
      · rw [if_pos c, decide_eq_true c]
        cases sEn H (nI i)
        · rw [if_pos (show bI false = 0 from rfl)]; rfl
        · rw [if_neg (show ¬ bI true = 0 by decide), if_neg (by decide)]; rfl
      · rw [if_neg c, decide_eq_false c]; rfl) (2 ^ hD H - 1) 1 n 0 (by omega) (by omega) (by
        show 0 = 0 + (if wq H 0 then 1 else 0)
        rw [wq_0 ok]; rfl)
    rw [show f_X7_waysOf_L36 n h m 0 (sShutM H) n 0 1 = some b from e, r]
    rfl
end MM
