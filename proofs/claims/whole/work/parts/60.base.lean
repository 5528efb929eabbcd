/-! Pure part: bits (began as rows of kit/laws/BITS.to-paste), then the house. -/
def bt (x : Int32) (i : Nat) : Bool := x.toBitVec.getLsbD i
theorem b_ext {x y : Int32} (h : ∀ i, i < 32 → bt x i = bt y i) : x = y := Int32.toBitVec_inj.mp (BitVec.eq_of_getLsbD_eq (fun i hi => h i hi))
theorem b_or (x y : Int32) (i : Nat) : bt (x ||| y) i = (bt x i || bt y i) := by unfold bt; rw [Int32.toBitVec_or, BitVec.getLsbD_or]
theorem b_and (x y : Int32) (i : Nat) : bt (x &&& y) i = (bt x i && bt y i) := by unfold bt; rw [Int32.toBitVec_and, BitVec.getLsbD_and]
theorem b_xor (x y : Int32) (i : Nat) : bt (x ^^^ y) i = (bt x i ^^ bt y i) := by unfold bt; rw [Int32.toBitVec_xor, BitVec.getLsbD_xor]
theorem b_big {x : Int32} {i : Nat} (h : 32 ≤ i) : bt x i = false := BitVec.getLsbD_of_ge _ _ h
theorem b_255 (i : Nat) : bt 255 i = decide (i < 8) := by
  rcases Nat.lt_or_ge i 32 with h | h
  · exact (by decide +kernel : ∀ i, i < 32 → bt 255 i = decide (i < 8)) i h
  · rw [b_big h, decide_eq_false (by omega)]
theorem b_65535 (i : Nat) : bt 65535 i = decide (i < 16) := by
  rcases Nat.lt_or_ge i 32 with h | h
  · exact (by decide +kernel : ∀ i, i < 32 → bt 65535 i = decide (i < 16)) i h
  · rw [b_big h, decide_eq_false (by omega)]
theorem b_m1 : ∀ i, i < 32 → bt (-1) i = true := by decide +kernel
theorem b_0 (i : Nat) : bt 0 i = false := BitVec.getLsbD_zero
theorem s_l : ∀ n, n < 32 → ((nI n &&& 31).toBitVec.smod 32).toNat = n := by decide +kernel
theorem s_u : ∀ n, n < 32 → (((nI n).toUInt32 &&& Int32.toUInt32 31).toBitVec % 32).toNat = n := by decide +kernel
theorem b_shl (n : Nat) (hn : n < 32) (x : Int32) {i : Nat} (hi : i < 32) : bt (x <<< (nI n &&& 31)) i = (decide (n ≤ i) && bt x (i - n)) := by
  unfold bt
  rw [Int32.toBitVec_shiftLeft]
  show (x.toBitVec <<< ((nI n &&& 31).toBitVec.smod 32).toNat).getLsbD i = _
  rw [s_l n hn, BitVec.getLsbD_shiftLeft]
  rcases Nat.lt_or_ge i n with h | h
  · simp [h, Nat.not_le.mpr h]
  · simp [hi, h, Nat.not_lt.mpr h]
theorem b_ushr (n : Nat) (hn : n < 32) (x : Int32) (i : Nat) : bt ((x.toUInt32 >>> ((nI n).toUInt32 &&& Int32.toUInt32 31)).toInt32) i = bt x (n + i) := by
  show (x.toUInt32 >>> ((nI n).toUInt32 &&& Int32.toUInt32 31)).toBitVec.getLsbD i = x.toUInt32.toBitVec.getLsbD (n + i)
  rw [UInt32.toBitVec_shiftRight]
  show (x.toUInt32.toBitVec >>> (((nI n).toUInt32 &&& Int32.toUInt32 31).toBitVec % 32).toNat).getLsbD i = _
  rw [s_u n hn, BitVec.getLsbD_ushiftRight]
theorem b_sshr (n : Nat) (hn : n < 32) (x : Int32) {i : Nat} (hi : i < 32) : bt (x >>> (nI n &&& 31)) i = if n + i < 32 then bt x (n + i) else bt x 31 := by
  unfold bt
  rw [Int32.toBitVec_shiftRight]
  show (x.toBitVec.sshiftRight ((nI n &&& 31).toBitVec.smod 32).toNat).getLsbD i = _
  rw [s_l n hn, BitVec.getLsbD_sshiftRight, BitVec.msb_eq_getLsbD_last]
  simp [hi]
theorem b_shl8 (x : Int32) {i : Nat} (hi : i < 32) : bt (x <<< ((8 : Int32) &&& 31)) i = (decide (8 ≤ i) && bt x (i - 8)) := b_shl 8 (by omega) x hi
theorem b_shl16 (x : Int32) {i : Nat} (hi : i < 32) : bt (x <<< ((16 : Int32) &&& 31)) i = (decide (16 ≤ i) && bt x (i - 16)) := b_shl 16 (by omega) x hi
theorem b_shl24 (x : Int32) {i : Nat} (hi : i < 32) : bt (x <<< ((24 : Int32) &&& 31)) i = (decide (24 ≤ i) && bt x (i - 24)) := b_shl 24 (by omega) x hi
theorem b_sshr8 (x : Int32) {i : Nat} (hi : i < 32) : bt (x >>> ((8 : Int32) &&& 31)) i = if 8 + i < 32 then bt x (8 + i) else bt x 31 := b_sshr 8 (by omega) x hi
theorem b_1 : ∀ i, i < 32 → bt 1 i = decide (i = 0) := by decide +kernel
theorem b_not (x : Int32) {i : Nat} (hi : i < 32) : bt (x ^^^ (-1)) i = !bt x i := by rw [b_xor, b_m1 i hi]; cases bt x i <;> rfl
theorem b_ishl {n : Nat} (hn : n < 32) (x : Int32) {i : Nat} (hi : i < 32) : bt (i_shl x (nI n)) i = (decide (n ≤ i) && bt x (i - n)) := b_shl n hn x hi
theorem b_bit {n : Nat} (hn : n < 32) {i : Nat} (hi : i < 32) : bt (i_shl 1 (nI n)) i = decide (i = n) := by
  rw [b_ishl hn 1 hi, b_1 (i - n) (by omega)]
  by_cases h : i = n
  · subst h; simp
  · by_cases h2 : n ≤ i
    · simp [h, h2]; omega
    · simp [h, h2]
theorem b_ishr {n : Nat} (hn : n < 32) (x : Int32) {i : Nat} (hi : i < 32) : bt (i_shr x (nI n)) i = if n + i < 32 then bt x (n + i) else bt x 31 := b_sshr n hn x hi
theorem b_and1 (y : Int32) : y &&& 1 = 0 ↔ bt y 0 = false := by
  constructor
  · intro h
    have := congrArg (fun z => bt z 0) h
    simp only [b_and, b_1 0 (by omega), b_0] at this
    simpa using this
  · intro h
    apply b_ext
    intro i hi
    rw [b_and, b_1 i hi, b_0]
    by_cases h0 : i = 0
    · subst h0; rw [h]; rfl
    · simp [h0]
theorem b_has (x : Int32) {k : Nat} (hk : k < 32) : (i_shr x (nI k)) &&& 1 = 0 ↔ bt x k = false := by
  rw [b_and1, b_ishr hk x (by omega)]
  simp [hk]
theorem b_get (x : Int32) {k : Nat} (hk : k < 32) : (i_shr x (nI k)) &&& 1 = if bt x k then 1 else 0 := by
  cases h : bt x k
  · rw [(b_has x hk).mpr h]; rfl
  · apply b_ext
    intro i hi
    rw [b_and, b_1 i hi, b_ishr hk x hi]
    by_cases h0 : i = 0
    · subst h0; simp [hk, h]; decide
    · have : bt (if true = true then (1 : Int32) else 0) i = decide (i = 0) := b_1 i hi
      rw [this]
      simp [h0]
/-- bits c many from i on, of those that f has, come to a -/
def orB (f : Nat → Bool) : Nat → Nat → Int32 → Int32
  | 0, _, a => a
  | c + 1, i, a => orB f c (i + 1) (if f i then a ||| i_shl 1 (nI i) else a)
theorem orB_bt {f : Nat → Bool} : ∀ (c i : Nat) (a : Int32), i + c ≤ 32 → ∀ k, k < 32 → bt (orB f c i a) k = (bt a k || (decide (i ≤ k) && decide (k < i + c) && f k))
  | 0, i, a, _, k, hk => by
    show bt a k = _
    by_cases h : i ≤ k
    · simp [show ¬ k < i by omega]
    · simp [h]
  | c + 1, i, a, h, k, hk => by
    show bt (orB f c (i + 1) _) k = _
    rw [orB_bt c (i + 1) _ (by omega) k hk]
    by_cases hf : f i
    · rw [if_pos hf, b_or, b_bit (by omega) hk]
      by_cases e : k = i
      · subst e; simp [hf]
      · by_cases h1 : i ≤ k
        · simp [e, h1, show i + 1 ≤ k by omega, show (k < i + 1 + c) = (k < i + (c + 1)) by congr 1; omega]
        · simp [e, h1, show ¬ i + 1 ≤ k by omega]
    · rw [if_neg hf]
      by_cases e : k = i
      · subst e; simp [hf]
      · by_cases h1 : i ≤ k
        · simp [h1, show i + 1 ≤ k by omega, show (k < i + 1 + c) = (k < i + (c + 1)) by congr 1; omega]
        · simp [h1, show ¬ i + 1 ≤ k by omega]
/-! the house: how many doors, how many people, which are open, law, wind, seed, openings, kinds, rooms a, rooms b, where people are -/
abbrev HS : Type := Nat × Nat × Int32 × Int32 × Int32 × Int32 × Int32 × (Nat → Int32) × (Nat → Int32) × (Nat → Int32) × (Nat → Int32)
abbrev hD (H : HS) : Nat := H.1
abbrev hP (H : HS) : Nat := H.2.1
abbrev hO (H : HS) : Int32 := H.2.2.1
abbrev hL (H : HS) : Int32 := H.2.2.2.1
abbrev hW (H : HS) : Int32 := H.2.2.2.2.1
abbrev hS (H : HS) : Int32 := H.2.2.2.2.2.1
abbrev hN (H : HS) : Int32 := H.2.2.2.2.2.2.1
abbrev hK (H : HS) : Nat → Int32 := H.2.2.2.2.2.2.2.1
abbrev hA (H : HS) : Nat → Int32 := H.2.2.2.2.2.2.2.2.1
abbrev hB (H : HS) : Nat → Int32 := H.2.2.2.2.2.2.2.2.2.1
abbrev hR (H : HS) : Nat → Int32 := H.2.2.2.2.2.2.2.2.2.2
/-- an int cell of n ints -/
def At (h : xH) (a n : Nat) (f : Nat → Int32) : Prop := x_at h a = some (.inl (.int, n, .inl f))
def Ob (h : xH) (a ci : Nat) (fs : List Value) : Prop := x_at h a = some (.inr (ci, fs))
/-- the class's House at b: its fields (its rows at b + 1 .. b + 4) -/
def hf (b : Nat) (H : HS) (k : Nat) : Value := match k with
  | 0 => .ref (b + 1)
  | 1 => .ref (b + 2)
  | 2 => .ref (b + 3)
  | 3 => .ref (b + 4)
  | 4 => .int (nI (hD H))
  | 5 => .int (hO H)
  | 6 => .int (nI (hP H))
  | 7 => .int (hL H)
  | 8 => .int (hW H)
  | 9 => .int (hS H)
  | _ => .int (hN H)
def HAt (h : xH) (b : Nat) (H : HS) : Prop := (∀ k, k < 11 → x_get h b 0 k = some (hf b H k)) ∧ ∃ fk fa fb fr : Nat → Int32,
  At h (b + 1) 14 fk ∧ At h (b + 2) 14 fa ∧ At h (b + 3) 14 fb ∧ At h (b + 4) 4 fr ∧ (∀ j, j < hD H → fk j = hK H j ∧ fa j = hA H j ∧ fb j = hB H j) ∧ ∀ p, p < hP H → fr p = hR H p
def HOk (H : HS) : Prop := hD H ≤ 14 ∧ hP H ≤ 4 ∧ (∀ j, j < hD H → (∃ k, k < 6 ∧ hK H j = nI k) ∧ (∃ k, k < 8 ∧ hA H j = nI k) ∧ (∃ k, k < 8 ∧ hB H j = nI k) ∧ (hK H j = 1 → hA H j = hB H j)) ∧ (∀ p, p < hP H → ∃ k, k < 8 ∧ hR H p = nI k) ∧ (∃ k, 1 ≤ k ∧ k ≤ 4 ∧ hL H = nI k) ∧ (∃ k, k ≤ 99 ∧ hW H = nI k) ∧ ∀ k, hD H ≤ k → k < 32 → bt (hO H) k = false
theorem Ob.get {h : xH} {a ci k : Nat} {fs : List Value} {v : Value} (ho : Ob h a ci fs) (hv : fs[k]? = some v) : x_get h a ci k = some v := by
  unfold x_get
  rw [show x_at h a = some (.inr (ci, fs)) from ho]
  simp [hv]
theorem Ob.gI {h : xH} {a ci k : Nat} {fs : List Value} {x : Int32} (ho : Ob h a ci fs) (hv : fs[k]? = some (.int x)) : x_gI h a ci k = some x := by
  unfold x_gI
  rw [ho.get hv]
theorem Ob.gR {h : xH} {a ci k x : Nat} {fs : List Value} (ho : Ob h a ci fs) (hv : fs[k]? = some (.ref x)) : x_gR h a ci k = some x := by
  unfold x_gR
  rw [ho.get hv]
theorem Ob.ob {h : xH} {a ci : Nat} {fs : List Value} (ho : Ob h a ci fs) : x_ob h a ci = some () := by
  unfold x_ob
  rw [show x_at h a = some (.inr (ci, fs)) from ho]
  simp
theorem At.ld {h : xH} {a n : Nat} {f : Nat → Int32} (ha : At h a n f) {j : Nat} (hj : j < n) (hn : n < 2 ^ 31) : x_ld h a (nI j) = some (f j) := by
  unfold x_ld
  rw [show x_at h a = some (.inl (.int, n, .inl f)) from ha]
  show (if nI j < 0 ∨ n ≤ (nI j).toNatClampNeg then none else some (f (nI j).toNatClampNeg)) = _
  rw [nI_clamp (by omega), if_neg]
  intro q
  rcases q with q | q
  · exact nI_pos (by omega) q
  · omega
theorem g_I {h : xH} {a ci k : Nat} {x : Int32} (g : x_get h a ci k = some (.int x)) : x_gI h a ci k = some x := by unfold x_gI; rw [g]
theorem g_R {h : xH} {a ci k x : Nat} (g : x_get h a ci k = some (.ref x)) : x_gR h a ci k = some x := by unfold x_gR; rw [g]
theorem g_N {h : xH} {a ci k : Nat} (g : x_get h a ci k = some .null) : x_gN h a ci k = some false := by unfold x_gN; rw [g]
theorem g_Y {h : xH} {a ci k x : Nat} (g : x_get h a ci k = some (.ref x)) : x_gN h a ci k = some true := by unfold x_gN; rw [g]
theorem g_ob {h : xH} {a ci k : Nat} {v : Value} (g : x_get h a ci k = some v) : x_ob h a ci = some () := by
  unfold x_get at g
  unfold x_ob
  split at g
  next o ho =>
    by_cases hc : o.1 = ci
    · simp [hc]
    · rw [if_neg hc] at g; cases g
  next => cases g
theorem g_lt {h : xH} {a : Nat} {e : xE} (g : x_at h a = some e) : a < h.length + 16 := by
  have := x_at.spec g
  have := (List.getElem?_eq_some_iff.mp this.2).1
  omega
theorem g_at {h : xH} {a ci k : Nat} {v : Value} (g : x_get h a ci k = some v) : ∃ fs, x_at h a = some (.inr (ci, fs)) ∧ fs[k]? = some v := by
  obtain ⟨fs, h1, h2, h3⟩ := x_get.spec g
  exact ⟨fs, by unfold x_at; rw [if_neg (by omega)]; exact h2, h3⟩
/-- what may differ: fields F, rows P -/
def Fr (F : Nat → Nat → Prop) (P : Nat → Prop) (h h' : xH) : Prop := (∀ a ci k v, ¬ F a k → x_get h a ci k = some v → x_get h' a ci k = some v) ∧ ∀ a e, ¬ P a → x_at h a = some (.inl e) → x_at h' a = some (.inl e)
theorem Fr.rfl {F : Nat → Nat → Prop} {P : Nat → Prop} {h : xH} : Fr F P h h := ⟨fun _ _ _ _ _ g => g, fun _ _ _ g => g⟩
theorem Fr.trans {F : Nat → Nat → Prop} {P : Nat → Prop} {h h1 h2 : xH} (a : Fr F P h h1) (b : Fr F P h1 h2) : Fr F P h h2 := ⟨fun x ci k v n g => b.1 x ci k v n (a.1 x ci k v n g), fun x e n g => b.2 x e n (a.2 x e n g)⟩
theorem Fr.mono {F G : Nat → Nat → Prop} {P Q : Nat → Prop} {h h1 : xH} (a : Fr F P h h1) (hF : ∀ x k, F x k → G x k) (hP : ∀ x, P x → Q x) : Fr G Q h h1 := ⟨fun x ci k v n g => a.1 x ci k v (fun z => n (hF x k z)) g, fun x e n g => a.2 x e (fun z => n (hP x z)) g⟩
theorem x_at_set {h : xH} {a : Nat} (ha : x_at h a ≠ none) (e1 : xE) (a' : Nat) : x_at (h.set (a - 16) e1) a' = if a' = a then some e1 else x_at h a' := by
  cases hh : x_at h a with
  | none => exact absurd hh ha
  | some e0 =>
    obtain ⟨h1, h2⟩ := x_at.spec hh
    have hl := (List.getElem?_eq_some_iff.mp h2).1
    unfold x_at
    by_cases h16 : a' < 16
    · rw [if_pos h16, if_pos h16, if_neg (by omega)]
    · rw [if_neg h16, if_neg h16, List.getElem?_set]
      by_cases e : a' = a
      · subst e; rw [if_pos rfl, if_pos rfl, if_pos hl]
      · rw [if_neg (by omega), if_neg e]
theorem w_put {h : xH} {a ci k : Nat} {v0 : Value} (g : x_get h a ci k = some v0) (v : Value) : ∃ h', x_put h a ci k v = some h' ∧ x_get h' a ci k = some v ∧ Fr (fun x j => x = a ∧ j = k) (fun _ => False) h h' := by
  obtain ⟨fs, h1, h2⟩ := g_at g
  have hk := (List.getElem?_eq_some_iff.mp h2).1
  have hn : x_at h a ≠ none := by rw [h1]; exact fun z => by cases z
  refine ⟨h.set (a - 16) (.inr (ci, fs.set k v)), ?_, ?_, ?_, ?_⟩
  · unfold x_put; rw [h1]; exact if_pos ⟨rfl, hk⟩
  · unfold x_get; rw [x_at_set hn, if_pos rfl]
    show (if ci = ci then (fs.set k v)[k]? else none) = _
    rw [if_pos rfl, List.getElem?_set, if_pos rfl, if_pos hk]
  · intro x cj j w hne gx
    obtain ⟨f2, g1, g2⟩ := g_at gx
    unfold x_get
    rw [x_at_set hn]
    by_cases e : x = a
    · subst e
      rw [h1] at g1
      cases g1
      rw [if_pos rfl]
      show (if ci = ci then (fs.set k v)[j]? else none) = _
      rw [if_pos rfl, List.getElem?_set, if_neg (fun z => hne ⟨rfl, z.symm⟩)]
      exact g2
    · rw [if_neg e, g1]
      show (if cj = cj then f2[j]? else none) = _
      rw [if_pos rfl]; exact g2
  · intro x e _ gx
    rw [x_at_set hn, if_neg]
    · exact gx
    · intro z; subst z; rw [h1] at gx; cases gx
theorem w_arr {h : xH} {a : Nat} {e0 : FieldType × vp_A} (g : x_at h a = some (.inl e0)) (e1 : FieldType × vp_A) : x_at (h.set (a - 16) (.inl e1)) a = some (.inl e1) ∧ Fr (fun _ _ => False) (fun x => x = a) h (h.set (a - 16) (.inl e1)) := by
  have hn : x_at h a ≠ none := by rw [g]; exact fun z => by cases z
  refine ⟨by rw [x_at_set hn, if_pos rfl], ?_, ?_⟩
  · intro x cj j w _ gx
    obtain ⟨f2, g1, g2⟩ := g_at gx
    unfold x_get
    rw [x_at_set hn, if_neg, g1]
    · show (if cj = cj then f2[j]? else none) = _
      rw [if_pos rfl]; exact g2
    · intro z; subst z; rw [g] at g1; cases g1
  · intro x e hne gx
    rw [x_at_set hn, if_neg hne]
    exact gx
theorem w_st {h : xH} {a n j : Nat} {f : Nat → Int32} (g : At h a n f) (hj : j < n) (hn : n < 2 ^ 31) (x : Int32) : ∃ h', x_st h a (nI j) x = some h' ∧ At h' a n (upd f j x) ∧ Fr (fun _ _ => False) (fun y => y = a) h h' := by
  obtain ⟨h1, h2⟩ := w_arr g (.int, n, .inl (upd f j x))
  refine ⟨_, ?_, h1, h2⟩
  unfold x_st
  rw [show x_at h a = some (.inl (.int, n, .inl f)) from g]
  show (if nI j < 0 ∨ n ≤ (nI j).toNatClampNeg then none else _) = _
  rw [if_neg (nI_in hj hn), nI_clamp (by omega)]
/-- a long cell -/
def AtL (h : xH) (a n : Nat) (f : Nat → Int64) : Prop := x_at h a = some (.inl (.long, n, .inr (.inl f)))
theorem AtL.ld {h : xH} {a n : Nat} {f : Nat → Int64} (ha : AtL h a n f) {j : Nat} (hj : j < n) (hn : n < 2 ^ 31) : x_ldL h a (nI j) = some (f j) := by
  unfold x_ldL
  rw [show x_at h a = some (.inl (.long, n, .inr (.inl f))) from ha]
  show (if nI j < 0 ∨ n ≤ (nI j).toNatClampNeg then none else some (f (nI j).toNatClampNeg)) = _
  rw [if_neg (nI_in hj hn), nI_clamp (by omega)]
theorem w_stL {h : xH} {a n j : Nat} {f : Nat → Int64} (g : AtL h a n f) (hj : j < n) (hn : n < 2 ^ 31) (x : Int64) : ∃ h', x_stL h a (nI j) x = some h' ∧ AtL h' a n (vp_updL f j x) ∧ Fr (fun _ _ => False) (fun y => y = a) h h' := by
  obtain ⟨h1, h2⟩ := w_arr g (.long, n, .inr (.inl (vp_updL f j x)))
  refine ⟨_, ?_, h1, h2⟩
  unfold x_stL
  rw [show x_at h a = some (.inl (.long, n, .inr (.inl f))) from g]
  show (if nI j < 0 ∨ n ≤ (nI j).toNatClampNeg then none else _) = _
  rw [if_neg (nI_in hj hn), nI_clamp (by omega)]
/-- a cell of references -/
def AtQ (h : xH) (a n : Nat) (ty : FieldType) (f : Nat → Option Nat) : Prop := x_at h a = some (.inl (ty, n, .inr (.inr (.inr (.inr f)))))
theorem AtQ.ld {h : xH} {a n r : Nat} {ty : FieldType} {f : Nat → Option Nat} (ha : AtQ h a n ty f) (hty : ty.isReference = true) {j : Nat} (hj : j < n) (hn : n < 2 ^ 31) (hf : f j = some r) : x_ldQ h a (nI j) = some r := by
  unfold x_ldQ
  rw [show x_at h a = some (.inl (ty, n, .inr (.inr (.inr (.inr f))))) from ha]
  show (if ty.isReference = true then (if nI j < 0 ∨ n ≤ (nI j).toNatClampNeg then none else f (nI j).toNatClampNeg) else none) = _
  rw [if_pos hty, if_neg (nI_in hj hn), nI_clamp (by omega), hf]
/-- loops, by what holds at each turn (I), until D -/
theorem lp {σ β : Type} (L : Nat → σ → Nat → Option β) (I : Nat → σ → Prop) (R : β → Prop) (D : Nat) (h1 : ∀ k s, I D s → ∃ b, L (k + 1) s D = some b ∧ R b) (h2 : ∀ k s i, i < D → I i s → (∃ b, L (k + 1) s i = some b ∧ R b) ∨ ∃ s', L (k + 1) s i = L k s' (i + 1) ∧ I (i + 1) s') : ∀ (c i k : Nat) (s : σ), i + c = D → c < k → I i s → ∃ b, L k s i = some b ∧ R b
  | _, _, 0, _, _, hk, _ => absurd hk (Nat.not_lt_zero _)
  | 0, i, k + 1, s, hi, _, hs => by
    have : i = D := by omega
    subst this
    exact h1 k s hs
  | c + 1, i, k + 1, s, hi, hk, hs => by
    rcases h2 k s i (by omega) hs with h | ⟨s', e, hs'⟩
    · exact h
    · rw [e]
      exact lp L I R D h1 h2 c (i + 1) k s' (by omega) (by omega) hs'
theorem lp0 {σ β : Type} {L : Nat → σ → Nat → Option β} {I : Nat → σ → Prop} {R : β → Prop} {D n : Nat} {s : σ} (hn : D < n) (hs : I 0 s) (h1 : ∀ k s, I D s → ∃ b, L (k + 1) s D = some b ∧ R b) (h2 : ∀ k s i, i < D → I i s → (∃ b, L (k + 1) s i = some b ∧ R b) ∨ ∃ s', L (k + 1) s i = L k s' (i + 1) ∧ I (i + 1) s') : ∃ b, L n s 0 = some b ∧ R b := lp L I R D h1 h2 D 0 n s (by omega) hn hs
/-- the same where a fold answers: what each turn makes of it is known -/
theorem lpE {σ β : Type} {L : Nat → σ → Nat → Option β} (g : Nat → σ) {D n : Nat} {fin : β} (hn : D < n) (h1 : ∀ k, L (k + 1) (g D) D = some fin) (h2 : ∀ k i, i < D → L (k + 1) (g i) i = L k (g (i + 1)) (i + 1)) : L n (g 0) 0 = some fin := by
  obtain ⟨b, e, r⟩ := lp0 (L := L) (I := fun i s => s = g i) (R := fun b => b = fin) hn rfl (fun k s hs => ⟨_, by rw [hs]; exact h1 k, rfl⟩) (fun k s i hi hs => Or.inr ⟨_, by rw [hs]; exact h2 k i hi, rfl⟩)
  rw [e, r]
