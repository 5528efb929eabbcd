/-! LASTS: the most openings, by turns (lV); the class's table. -/
def mxN (f : Nat → Nat) : Nat → Nat
  | 0 => 0
  | i + 1 => max (mxN f i) (f i)
theorem mxN_le {f : Nat → Nat} {m : Nat} : ∀ i, (∀ j, j < i → f j ≤ m) → mxN f i ≤ m
  | 0, _ => Nat.zero_le _
  | i + 1, h => by
    have h1 := mxN_le (f := f) i (fun j hj => h j (by omega))
    have h2 := h i (by omega)
    show max (mxN f i) (f i) ≤ m
    omega
theorem mxN_ge {f : Nat → Nat} : ∀ i j, j < i → f j ≤ mxN f i
  | 0, j, h => absurd h (Nat.not_lt_zero _)
  | i + 1, j, h => by
    show f j ≤ max (mxN f i) (f i)
    by_cases e : j = i
    · subst e; omega
    · have := mxN_ge (f := f) i j (by omega); omega
theorem mxN_congr {f g : Nat → Nat} : ∀ i, (∀ j, j < i → f j = g j) → mxN f i = mxN g i
  | 0, _ => rfl
  | i + 1, h => by
    show max (mxN f i) (f i) = max (mxN g i) (g i)
    rw [mxN_congr i (fun j hj => h j (by omega)), h i (by omega)]
theorem mxN_min {f : Nat → Nat} {m : Nat} : ∀ i, mxN (fun y => min m (f y)) i = min m (mxN f i)
  | 0 => by show 0 = min m 0; omega
  | i + 1 => by
    show max (mxN (fun y => min m (f y)) i) (min m (f i)) = min m (max (mxN f i) (f i))
    rw [mxN_min i]
    omega
theorem mxN_tail {f : Nat → Nat} (i : Nat) : ∀ c, (∀ j, i ≤ j → j < i + c → f j = 0) → mxN f (i + c) = mxN f i
  | 0, _ => rfl
  | c + 1, h => by
    show max (mxN f (i + c)) (f (i + c)) = _
    rw [mxN_tail i c (fun j h1 h2 => h j h1 (by omega)), h (i + c) (by omega) (by omega)]
    omega
def lB (o t i j r : Nat) (f : Nat → Nat → Nat → Nat) (a b : Nat) : Nat :=
  max (max (if i < o then f (a + 1) b r + 1 else 0) (if j < t then f a (b + 1) r + 1 else 0)) (if 0 < r then f a b (r - 1) + 1 else 0)
def lT (L o t : Nat) (f : Nat → Nat → Nat → Nat) (i j r y : Nat) : Nat := if y ≤ j ∧ L - 2 * y ≤ i then lB o t i j r f (i - (L - 2 * y)) (j - y) else 0
def lS (L o t : Nat) (f : Nat → Nat → Nat → Nat) (i j r : Nat) : Nat := mxN (lT L o t f i j r) ((L + 1) / 2 + 1)
def lV (L o t : Nat) : Nat → Nat → Nat → Nat → Nat
  | 0 => fun _ _ _ => 0
  | k + 1 => lS L o t (lV L o t k)
theorem lB_min {o t i j r k a b : Nat} {f : Nat → Nat → Nat → Nat} : lB o t i j r (fun a b c => min k (f a b c)) a b = min (k + 1) (lB o t i j r f a b) := by
  unfold lB
  by_cases h1 : i < o <;> by_cases h2 : j < t <;> by_cases h3 : 0 < r <;> simp only [h1, h2, h3, if_true, if_false] <;> omega
theorem lS_min {L o t i j r k : Nat} {f : Nat → Nat → Nat → Nat} : lS L o t (fun a b c => min k (f a b c)) i j r = min (k + 1) (lS L o t f i j r) := by
  unfold lS
  rw [← mxN_min]
  apply mxN_congr
  intro y _
  unfold lT
  by_cases h : y ≤ j ∧ L - 2 * y ≤ i
  · rw [if_pos h, if_pos h, lB_min]
  · rw [if_neg h, if_neg h]; omega
theorem lV_min (L o t : Nat) : ∀ k i j r, lV L o t k i j r = min k (lV L o t (k + 1) i j r)
  | 0, i, j, r => by show 0 = min 0 _; omega
  | k + 1, i, j, r => by
    have e : lV L o t k = fun a b c => min k (lV L o t (k + 1) a b c) := by funext a b c; exact lV_min L o t k a b c
    have e2 : lV L o t (k + 1) i j r = lS L o t (fun a b c => min k (lV L o t (k + 1) a b c)) i j r := congrArg (fun f => lS L o t f i j r) e
    rw [e2, lS_min]
    rfl
theorem lV_le (L o t k i j r : Nat) : lV L o t k i j r ≤ k := by rw [lV_min]; omega
theorem lV_99 (L o t i j r : Nat) : lV L o t 99 i j r = min 99 (lS L o t (lV L o t 99) i j r) := lV_min L o t 99 i j r
theorem lS_ge1 {L o t i j r y : Nat} {f : Nat → Nat → Nat → Nat} (hy : 2 * y ≤ L + 1) (h1 : y ≤ j) (h2 : L - 2 * y ≤ i) (h3 : i < o) : f (i - (L - 2 * y) + 1) (j - y) r + 1 ≤ lS L o t f i j r := by
  unfold lS
  refine Nat.le_trans ?_ (mxN_ge (f := lT L o t f i j r) ((L + 1) / 2 + 1) y (by omega))
  unfold lT
  rw [if_pos (show y ≤ j ∧ L - 2 * y ≤ i from ⟨h1, h2⟩)]
  unfold lB
  rw [if_pos h3]
  omega
theorem lS_ge2 {L o t i j r y : Nat} {f : Nat → Nat → Nat → Nat} (hy : 2 * y ≤ L + 1) (h1 : y ≤ j) (h2 : L - 2 * y ≤ i) (h3 : j < t) : f (i - (L - 2 * y)) (j - y + 1) r + 1 ≤ lS L o t f i j r := by
  unfold lS
  refine Nat.le_trans ?_ (mxN_ge (f := lT L o t f i j r) ((L + 1) / 2 + 1) y (by omega))
  unfold lT
  rw [if_pos (show y ≤ j ∧ L - 2 * y ≤ i from ⟨h1, h2⟩)]
  unfold lB
  rw [if_pos h3]
  omega
def cfP (L o t i j : Nat) : Prop := (L = 1 ∧ 0 < i + j ∧ i + j < o + t) ∨ (L = 2 ∧ 0 < j ∧ j < t)
theorem lV_cf (L o t r : Nat) : ∀ k i j, i ≤ o → j ≤ t → cfP L o t i j → k ≤ lV L o t k i j r
  | 0, _, _, _, _, _ => Nat.zero_le _
  | k + 1, i, j, hi, hj, hc => by
    show k + 1 ≤ lS L o t (lV L o t k) i j r
    rcases hc with ⟨rfl, c1, c2⟩ | ⟨rfl, c1, c2⟩
    · by_cases h0 : 1 ≤ i
      · by_cases h1 : i < o
        · have g := lS_ge1 (L := 1) (o := o) (t := t) (i := i) (j := j) (r := r) (y := 0) (f := lV 1 o t k) (by omega) (by omega) (by omega) h1
          have ih := lV_cf 1 o t r k (i - (1 - 2 * 0) + 1) (j - 0) (by omega) (by omega) (Or.inl ⟨rfl, by omega, by omega⟩)
          omega
        · have g := lS_ge2 (L := 1) (o := o) (t := t) (i := i) (j := j) (r := r) (y := 0) (f := lV 1 o t k) (by omega) (by omega) (by omega) (by omega)
          have ih := lV_cf 1 o t r k (i - (1 - 2 * 0)) (j - 0 + 1) (by omega) (by omega) (Or.inl ⟨rfl, by omega, by omega⟩)
          omega
      · by_cases h1 : i < o
        · have g := lS_ge1 (L := 1) (o := o) (t := t) (i := i) (j := j) (r := r) (y := 1) (f := lV 1 o t k) (by omega) (by omega) (by omega) h1
          have ih := lV_cf 1 o t r k (i - (1 - 2 * 1) + 1) (j - 1) (by omega) (by omega) (Or.inl ⟨rfl, by omega, by omega⟩)
          omega
        · have g := lS_ge2 (L := 1) (o := o) (t := t) (i := i) (j := j) (r := r) (y := 1) (f := lV 1 o t k) (by omega) (by omega) (by omega) (by omega)
          have ih := lV_cf 1 o t r k (i - (1 - 2 * 1)) (j - 1 + 1) (by omega) (by omega) (Or.inl ⟨rfl, by omega, by omega⟩)
          omega
    · have g := lS_ge2 (L := 2) (o := o) (t := t) (i := i) (j := j) (r := r) (y := 1) (f := lV 2 o t k) (by omega) (by omega) (by omega) c2
      have ih := lV_cf 2 o t r k (i - (2 - 2 * 1)) (j - 1 + 1) (by omega) (by omega) (Or.inr ⟨rfl, by omega, by omega⟩)
      omega
/-! counts of doors -/
def c1 (H : HS) (d : Nat) : Nat := if hK H d = 5 then 0 else if hK H d = 4 then 0 else if hK H d = 2 then 0 else 1
def c2 (H : HS) (d : Nat) : Nat := if hK H d = 2 then 1 else 0
def c1o (H : HS) (ob : Int32) (d : Nat) : Nat := if bt ob d then c1 H d else 0
def c2o (H : HS) (ob : Int32) (d : Nat) : Nat := if bt ob d then c2 H d else 0
def c5 (H : HS) (ob : Int32) (d : Nat) : Nat := if hK H d = 5 then (if bt ob d then 0 else 1) else 0
def c4 (H : HS) (ob : Int32) (d : Nat) : Nat := if hK H d = 4 then (if bt ob d then 0 else 1) else 0
theorem c_all (H : HS) (ob : Int32) (d : Nat) : c1 H d + c2 H d + c5 H ob d + c4 H ob d ≤ 1 := by
  unfold c1 c2 c5 c4
  by_cases h5 : hK H d = 5
  · simp only [h5, if_true, show ¬ ((5 : Int32) = 4) by decide, show ¬ ((5 : Int32) = 2) by decide, if_false]
    split <;> omega
  · by_cases h4 : hK H d = 4
    · simp only [h4, if_true, show ¬ ((4 : Int32) = 5) by decide, show ¬ ((4 : Int32) = 2) by decide, if_false]
      split <;> omega
    · simp only [h5, h4, if_false]
      split <;> omega
theorem c_sum (H : HS) (ob : Int32) : ∀ i, smB (c1 H) i + smB (c2 H) i + smB (c5 H ob) i + smB (c4 H ob) i ≤ i
  | 0 => Nat.le_refl _
  | i + 1 => by
    have := c_sum H ob i
    have := c_all H ob i
    show smB (c1 H) i + c1 H i + (smB (c2 H) i + c2 H i) + (smB (c5 H ob) i + c5 H ob i) + (smB (c4 H ob) i + c4 H ob i) ≤ i + 1
    omega
theorem c1o_le (H : HS) (ob : Int32) (i : Nat) : smB (c1o H ob) i ≤ smB (c1 H) i := smB_mono i (fun j _ => by unfold c1o; split <;> omega)
theorem c2o_le (H : HS) (ob : Int32) (i : Nat) : smB (c2o H ob) i ≤ smB (c2 H) i := smB_mono i (fun j _ => by unfold c2o; split <;> omega)
def sLasts (H : HS) (ob : Int32) (L more : Nat) : Nat := lV L (more + smB (c1 H) (hD H)) (smB (c2 H) (hD H)) 99 (more + smB (c1o H ob) (hD H)) (smB (c2o H ob) (hD H)) (smB (c5 H ob) (hD H) + smB (c4 H ob) (hD H))
theorem sLasts_le (H : HS) (ob : Int32) (L more : Nat) : sLasts H ob L more ≤ 99 := lV_le _ _ _ _ _ _ _
/-! small helps -/
theorem one_add (a : Nat) : (1 : Int32) + nI a = nI (a + 1) := by rw [Nat.add_comm a 1]; exact nI_add 1 a
theorem x_max_nI {a b : Nat} (ha : a < 2 ^ 31) (hb : b < 2 ^ 31) : x_max (nI a) (nI b) = nI (max a b) := by
  unfold x_max
  by_cases h : a < b
  · rw [if_pos (nI_lt h hb), Nat.max_eq_right (by omega)]
  · rw [if_neg (nI_nlt (by omega) ha), Nat.max_eq_left (by omega)]
theorem x_min_nI {a b : Nat} (ha : a < 2 ^ 31) (hb : b < 2 ^ 31) : x_min (nI a) (nI b) = nI (min b a) := by
  unfold x_min
  by_cases h : b < a
  · rw [if_pos (nI_lt h ha), Nat.min_eq_left (by omega)]
  · rw [if_neg (nI_nlt (by omega) hb), Nat.min_eq_right (by omega)]
theorem opt1 {c P : Prop} [Decidable c] [Decidable P] (hc : c ↔ ¬ P) {A : Option Int32} {acc x : Nat} (hA : P → A = some (nI (max acc x))) : (if c then some (nI acc) else A) = some (nI (max acc (if P then x else 0))) := by
  by_cases h : P
  · rw [if_neg (fun z => hc.mp z h), if_pos h, hA h]
  · rw [if_pos (hc.mpr h), if_neg h, Nat.max_eq_left (Nat.zero_le _)]
theorem mr {x c n : Nat} (h : c < n) : (x * n + c) / n = x ∧ (x * n + c) % n = c := by
  constructor
  · rw [Nat.add_comm, Nat.add_mul_div_right _ _ (by omega), Nat.div_eq_of_lt h, Nat.zero_add]
  · rw [Nat.add_comm, Nat.add_mul_mod_self_right, Nat.mod_eq_of_lt h]
theorem mr_lt {x c n m : Nat} (h : c < n) (hx : x < m) : x * n + c < m * n := by
  have : (x + 1) * n ≤ m * n := Nat.mul_le_mul_right n hx
  rw [Nat.succ_mul] at this
  omega
def pl (o I a b c : Nat) : Nat := (b * (o + 1) + a) * (I + 1) + c
theorem pl_lt {o t I a b c : Nat} (ha : a ≤ o) (hb : b ≤ t) (hc : c ≤ I) : pl o I a b c < (t + 1) * (o + 1) * (I + 1) := mr_lt (by omega) (mr_lt (by omega) (by omega))
theorem pl_inj {o I a b c a' b' c' : Nat} (ha : a ≤ o) (hc : c ≤ I) (ha' : a' ≤ o) (hc' : c' ≤ I) (e : pl o I a b c = pl o I a' b' c') : a = a' ∧ b = b' ∧ c = c' := by
  unfold pl at e
  have e1 := (mr (x := b * (o + 1) + a) (c := c) (n := I + 1) (by omega))
  have e2 := (mr (x := b' * (o + 1) + a') (c := c') (n := I + 1) (by omega))
  rw [e] at e1
  have ex : b * (o + 1) + a = b' * (o + 1) + a' := e1.1.symm.trans e2.1
  have ec : c = c' := e1.2.symm.trans e2.2
  have f1 := (mr (x := b) (c := a) (n := o + 1) (by omega))
  have f2 := (mr (x := b') (c := a') (n := o + 1) (by omega))
  rw [ex] at f1
  exact ⟨f1.2.symm.trans f2.2, f1.1.symm.trans f2.1, ec⟩
theorem pl_1344 : ∀ s, s < 15 → ∀ t, t < 15 - s → ∀ r, r < 15 - s - t → (t + 1) * (20 + s + 1) * (r + 1) ≤ 1344 := by decide +kernel
theorem pl_size {more s t r : Nat} (hm : more ≤ 20) (h : s + t + r ≤ 14) : (t + 1) * (more + s + 1) * (r + 1) ≤ 1344 :=
  Nat.le_trans (Nat.mul_le_mul_right _ (Nat.mul_le_mul_left _ (by omega))) (pl_1344 s (by omega) t (by omega) r (by omega))
def uN (v : Nat → Nat) (k x : Nat) : Nat → Nat := fun j => if j = k then x else v j
/-- the class's Lasting at b, its table at e -/
def LAt (h : xH) (b e : Nat) (v : Nat → Nat) (fb : Nat → Int32) : Prop := x_get h b 1 0 = some (.ref e) ∧ (∀ k, 1 ≤ k → k < 7 → x_get h b 1 k = some (.int (nI (v k)))) ∧ At h e 1344 fb
def FrL (b e : Nat) (h h' : xH) : Prop := Fr (fun a _ => a = b) (fun a => a = e) h h'
section LL
variable {h h' : xH} {b e n : Nat} {v v' : Nat → Nat} {fb : Nat → Int32} {H : HS}
theorem FrL.trans {h1 h2 : xH} (f : FrL b e h h1) (g : FrL b e h1 h2) : FrL b e h h2 := Fr.trans f g
theorem FrL.rfl : FrL b e h h := Fr.rfl
theorem LAt.congr (q : LAt h b e v fb) (hv : ∀ k, 1 ≤ k → k < 7 → v k = v' k) : LAt h b e v' fb := ⟨q.1, fun k h1 h2 => by rw [← hv k h1 h2]; exact q.2.1 k h1 h2, q.2.2⟩
theorem LAt.put (q : LAt h b e v fb) {k : Nat} (h1 : 1 ≤ k) (h7 : k < 7) (x : Nat) : ∃ h', x_put h b 1 k (.int (nI x)) = some h' ∧ LAt h' b e (uN v k x) fb ∧ FrL b e h h' := by
  obtain ⟨h', e1, g, f⟩ := w_put (q.2.1 k h1 h7) (.int (nI x))
  refine ⟨h', e1, ⟨f.1 _ _ _ _ (fun z => by omega) q.1, fun j j1 j7 => ?_, f.2 _ _ (fun z => z) q.2.2⟩, Fr.mono f (fun _ _ z => z.1) (fun _ z => z.elim)⟩
  by_cases z : j = k
  · subst z; rw [g]; simp [uN]
  · rw [f.1 _ _ _ _ (fun w => z w.2) (q.2.1 j j1 j7)]; simp [uN, z]
theorem LAt.g (q : LAt h b e v fb) {k : Nat} (h1 : 1 ≤ k) (h7 : k < 7) : x_gI h b 1 k = some (nI (v k)) := g_I (q.2.1 k h1 h7)
theorem LAt.r (q : LAt h b e v fb) : x_gR h b 1 0 = some e := g_R q.1
theorem LAt.ob (q : LAt h b e v fb) : x_ob h b 1 = some () := g_ob q.1
theorem LAt.st (q : LAt h b e v fb) {j : Nat} (hj : j < 1344) (x : Int32) : ∃ h', x_st h e (nI j) x = some h' ∧ LAt h' b e v (upd fb j x) ∧ FrL b e h h' := by
  obtain ⟨h', e1, g, f⟩ := w_st q.2.2 hj (by decide) x
  exact ⟨h', e1, ⟨f.1 _ _ _ _ (fun z => z) q.1, fun k j1 j7 => f.1 _ _ _ _ (fun z => z) (q.2.1 k j1 j7), g⟩, Fr.mono f (fun _ _ z => z.elim) (fun _ z => z)⟩
theorem HAt.frL {hb : Nat} (q : HAt h hb H) (f : FrL b e h h') (hx : (b < hb ∨ hb + 5 ≤ b) ∧ (e < hb ∨ hb + 5 ≤ e)) : HAt h' hb H := q.fr f (fun _ z => by omega) (fun a h1 h2 z => by omega)
def cv (H : HS) (ob : Int32) (L more i : Nat) (k : Nat) : Nat := match k with
  | 1 => L
  | 2 => more + smB (c1 H) i
  | 3 => smB (c2 H) i
  | 4 => smB (c5 H ob) i + smB (c4 H ob) i
  | 5 => more + smB (c1o H ob) i
  | _ => smB (c2o H ob) i
theorem k7 {k : Nat} (h1 : 1 ≤ k) (h7 : k < 7) : k = 1 ∨ k = 2 ∨ k = 3 ∨ k = 4 ∨ k = 5 ∨ k = 6 := by omega
theorem l_cd1 {hb i k L more : Nat} {ob : Int32} (q : LAt h b e (cv H ob L more i) fb) (qh : HAt h hb H) (ok : HOk H) (hi : i < hD H) : ∃ h', f_X1_countDoors_L28 b hb ob (k + 1) (nI i) h = f_X1_countDoors_L28 b hb ob k (nI (i + 1)) h' ∧ LAt h' b e (cv H ob L more (i + 1)) fb ∧ FrL b e h h' := by
  have h14 := ok.1
  have hx : (i_shr ob (nI i)) &&& 1 = nI (if bt ob i then 1 else 0) := by rw [b_get ob (by omega)]; split <;> rfl
  have h1x : (1 : Int32) - nI (if bt ob i then 1 else 0) = nI (if bt ob i then 0 else 1) := by split <;> decide
  rw [f_X1_countDoors_L28]
  simp only [qh.D, qh.rk, qh.ldK ok hi, Option.bind_some, nI_1, hx, h1x, q.g (k := 4) (by decide) (by decide), q.g (k := 3) (by decide) (by decide), q.g (k := 2) (by decide) (by decide), nI_add]
  rw [if_neg (nI_ge hi (by omega))]
  by_cases h5 : hK H i = 5
  · rw [if_pos h5]
    obtain ⟨ha, e1, q1, f1⟩ := q.put (k := 4) (by decide) (by decide) (cv H ob L more i 4 + if bt ob i then 0 else 1)
    rw [e1]
    refine ⟨ha, rfl, q1.congr (fun k a1 a7 => ?_), f1⟩
    rcases k7 a1 a7 with rfl | rfl | rfl | rfl | rfl | rfl <;> simp [uN, cv, smB, c1, c2, c5, c4, c1o, c2o, h5] <;> omega
  · rw [if_neg h5]
    by_cases h4 : hK H i = 4
    · rw [if_pos h4]
      obtain ⟨ha, e1, q1, f1⟩ := q.put (k := 4) (by decide) (by decide) (cv H ob L more i 4 + if bt ob i then 0 else 1)
      rw [e1]
      refine ⟨ha, rfl, q1.congr (fun k a1 a7 => ?_), f1⟩
      rcases k7 a1 a7 with rfl | rfl | rfl | rfl | rfl | rfl <;> simp [uN, cv, smB, c1, c2, c5, c4, c1o, c2o, h4] <;> omega
    · rw [if_neg h4]
      by_cases h2 : hK H i = 2
      · rw [if_pos h2]
        obtain ⟨ha, e1, q1, f1⟩ := q.put (k := 3) (by decide) (by decide) (cv H ob L more i 3 + 1)
        obtain ⟨hc, e2, q2, f2⟩ := q1.put (k := 6) (by decide) (by decide) (cv H ob L more i 6 + if bt ob i then 1 else 0)
        have g6 : x_gI ha b 1 6 = some (nI (cv H ob L more i 6)) := q1.g (k := 6) (by decide) (by decide)
        simp only [e1, Option.bind_some, g6, nI_add, e2]
        refine ⟨hc, rfl, q2.congr (fun k a1 a7 => ?_), f1.trans f2⟩
        rcases k7 a1 a7 with rfl | rfl | rfl | rfl | rfl | rfl <;> simp [uN, cv, smB, c1, c2, c5, c4, c1o, c2o, h2]
      · rw [if_neg h2]
        obtain ⟨ha, e1, q1, f1⟩ := q.put (k := 2) (by decide) (by decide) (cv H ob L more i 2 + 1)
        obtain ⟨hc, e2, q2, f2⟩ := q1.put (k := 5) (by decide) (by decide) (cv H ob L more i 5 + if bt ob i then 1 else 0)
        have g5 : x_gI ha b 1 5 = some (nI (cv H ob L more i 5)) := q1.g (k := 5) (by decide) (by decide)
        simp only [e1, Option.bind_some, g5, nI_add, e2]
        refine ⟨hc, rfl, q2.congr (fun k a1 a7 => ?_), f1.trans f2⟩
        rcases k7 a1 a7 with rfl | rfl | rfl | rfl | rfl | rfl <;> simp [uN, cv, smB, c1, c2, c5, c4, c1o, c2o, h2, h4, h5] <;> omega
theorem l_countDoors {hb L more : Nat} {ob : Int32} (q : LAt h b e v fb) (hv : v 1 = L) (qh : HAt h hb H) (ok : HOk H) (hn : 20 ≤ n) (hx : (b < hb ∨ hb + 5 ≤ b) ∧ (e < hb ∨ hb + 5 ≤ e)) : ∃ h', f_X1_countDoors n h b hb ob (nI more) = some h' ∧ LAt h' b e (cv H ob L more (hD H)) fb ∧ FrL b e h h' := by
  have h14 := ok.1
  obtain ⟨ha1, e1, q1, f1⟩ := q.put (k := 2) (by decide) (by decide) more
  obtain ⟨ha2, e2, q2, f2⟩ := q1.put (k := 5) (by decide) (by decide) more
  obtain ⟨ha3, e3, q3, f3⟩ := q2.put (k := 3) (by decide) (by decide) 0
  obtain ⟨ha4, e4, q4, f4⟩ := q3.put (k := 6) (by decide) (by decide) 0
  obtain ⟨ha5, e5, q5, f5⟩ := q4.put (k := 4) (by decide) (by decide) 0
  have f := f1.trans (f2.trans (f3.trans (f4.trans f5)))
  have q6 : LAt ha5 b e (cv H ob L more 0) fb := q5.congr (fun k a1 a7 => by
    rcases k7 a1 a7 with rfl | rfl | rfl | rfl | rfl | rfl <;> simp [uN, cv, smB, hv])
  have := lp0 (L := fun k (s : xH) i => f_X1_countDoors_L28 b hb ob k (nI i) s) (I := fun i s => LAt s b e (cv H ob L more i) fb ∧ FrL b e h s) (R := fun s => LAt s b e (cv H ob L more (hD H)) fb ∧ FrL b e h s) (D := hD H) (n := n) (s := ha5) (by omega) ⟨q6, f⟩
    (fun k s hs => by
      refine ⟨s, ?_, hs⟩
      show f_X1_countDoors_L28 b hb ob (k + 1) (nI (hD H)) s = _
      rw [f_X1_countDoors_L28]
      simp only [(qh.frL hs.2 hx).D, Option.bind_some]
      rw [if_pos (nI_le (Nat.le_refl _) (by omega))])
    (fun k s i hi hs => by
      right
      obtain ⟨h2, g1, g2, g3⟩ := l_cd1 (k := k) hs.1 (qh.frL hs.2 hx) ok hi
      exact ⟨h2, g1, g2, hs.2.trans g3⟩)
  obtain ⟨s, es, r1, r2⟩ := this
  refine ⟨s, ?_, r1, r2⟩
  unfold f_X1_countDoors
  rw [e1, Option.bind_some, e2, Option.bind_some, show (0 : Int32) = nI 0 from rfl, e3, Option.bind_some, e4, Option.bind_some, e5, Option.bind_some, show f_X1_countDoors_L28 b hb ob n (nI 0) ha5 = some s from es]
  rfl
def cfB (L o t i j : Nat) : Bool := (decide (L = 1) && decide (0 < i + j) && decide (i + j < o + t)) || (decide (L = 2) && decide (0 < j) && decide (j < t))
theorem cfB_iff {L o t i j : Nat} : cfB L o t i j = true ↔ cfP L o t i j := by
  unfold cfB cfP
  simp only [Bool.or_eq_true, Bool.and_eq_true, decide_eq_true_eq, and_assoc]
theorem l_changes (q : LAt h b e v fb) {i j : Nat} (hL : v 1 ≤ 4) (h2 : v 2 ≤ 34) (h3 : v 3 ≤ 14) (hi : i ≤ v 2) (hj : j ≤ v 3) : f_X1_changesForever h b (nI i) (nI j) = some (bI (cfB (v 1) (v 2) (v 3) i j)) := by
  unfold f_X1_changesForever cfB
  simp only [q.g (k := 1) (by decide) (by decide), q.g (k := 2) (by decide) (by decide), q.g (k := 3) (by decide) (by decide), Option.bind_some, nI_add]
  by_cases a1 : v 1 = 1
  · rw [if_pos (by rw [a1]; rfl)]
    by_cases a2 : 0 < i + j
    · rw [if_neg (nI_nle a2 (by omega))]
      by_cases a3 : i + j < v 2 + v 3
      · rw [if_neg (nI_ge a3 (by omega))]; simp [a1, a2, a3, bI]
      · rw [if_pos (nI_le (by omega) (by omega))]; simp [a1, a2, a3, bI]
    · rw [if_pos (show nI (i + j) ≤ 0 by rw [show i + j = 0 by omega]; decide)]; simp [a1, a2, bI]
  · rw [if_neg (show ¬ nI (v 1) = 1 from fun z => a1 ((nI_eq (by omega) (by omega)).mp (show nI (v 1) = nI 1 from z)))]
    by_cases a4 : v 1 = 2
    · rw [if_pos (by rw [a4]; rfl)]
      by_cases a2 : 0 < j
      · rw [if_neg (nI_nle a2 (by omega))]
        by_cases a3 : j < v 3
        · rw [if_neg (nI_ge a3 (by omega))]; simp [a4, a2, a3, bI]
        · rw [if_pos (nI_le (by omega) (by omega))]; simp [a4, a2, a3, bI]
      · rw [if_pos (show nI j ≤ 0 by rw [show j = 0 by omega]; decide)]; simp [a4, a2, bI]
    · rw [if_neg (show ¬ nI (v 1) = 2 from fun z => a4 ((nI_eq (by omega) (by omega)).mp (show nI (v 1) = nI 2 from z)))]; simp [a1, a4, bI]
theorem l_placeOf (q : LAt h b e v fb) (a c r : Nat) : f_X1_placeOf h b (nI a) (nI c) (nI r) = some (nI (pl (v 2) (v 4) a c r)) := by
  unfold f_X1_placeOf pl
  simp only [q.g (k := 2) (by decide) (by decide), q.g (k := 4) (by decide) (by decide), Option.bind_some, nI_1, pk_mul, nI_add]
theorem l_noted (q : LAt h b e v fb) {a c r : Nat} (hp : pl (v 2) (v 4) a c r < 1344) : f_X1_noted h b (nI a) (nI c) (nI r) = some (fb (pl (v 2) (v 4) a c r)) := by
  unfold f_X1_noted
  simp only [q.ob, l_placeOf q, q.r, Option.bind_some]
  rw [if_neg (nI_pos (by omega)), if_neg (show ¬ (1344 : Int32) ≤ nI _ from nI_ge (b := 1344) hp (by decide)), q.2.2.ld hp (by decide)]
  rfl
theorem l_mf1 (q : LAt h b e v fb) {i j r y k acc : Nat} {F : Nat → Nat → Nat → Nat} (hL : v 1 ≤ 4) (h2 : v 2 ≤ 34) (h3 : v 3 ≤ 14) (h4 : v 4 ≤ 14) (hi : i ≤ v 2) (hj : j ≤ v 3) (hr : r ≤ v 4) (sz : (v 3 + 1) * (v 2 + 1) * (v 4 + 1) ≤ 1344) (hy : y ≤ j) (hy2 : 2 * y ≤ v 1 + 1) (hF : ∀ a b c, F a b c ≤ 99) (hacc : acc ≤ 100)
    (hs : v 1 - 2 * y ≤ i → (i < v 2 → fb (pl (v 2) (v 4) (i - (v 1 - 2 * y) + 1) (j - y) r) = nI (F (i - (v 1 - 2 * y) + 1) (j - y) r)) ∧ (j < v 3 → fb (pl (v 2) (v 4) (i - (v 1 - 2 * y)) (j - y + 1) r) = nI (F (i - (v 1 - 2 * y)) (j - y + 1) r)) ∧ (0 < r → fb (pl (v 2) (v 4) (i - (v 1 - 2 * y)) (j - y) (r - 1)) = nI (F (i - (v 1 - 2 * y)) (j - y) (r - 1)))) :
    f_X1_mostFrom_L6 h b (nI i) (nI j) (nI r) (k + 1) (nI acc) (nI y) = f_X1_mostFrom_L6 h b (nI i) (nI j) (nI r) k (nI (max acc (lT (v 1) (v 2) (v 3) F i j r y))) (nI (y + 1)) := by
  have sb : x_max 0 (nI (v 1) - nI (2 * y)) = nI (v 1 - 2 * y) := by rw [← nI_2m]; exact sgl_beside _ hL _ (by omega)
  rw [f_X1_mostFrom_L6]
  simp only [q.g (k := 1) (by decide) (by decide), q.g (k := 2) (by decide) (by decide), q.g (k := 3) (by decide) (by decide), q.ob, Option.bind_some, nI_1, nI_2m, f_X6_singlesBeside, sb, pk_sub hy]
  rw [if_neg (nI_nlt hy2 (by omega)), if_neg (nI_nlt hy (by omega))]
  by_cases hc : v 1 - 2 * y ≤ i
  · obtain ⟨s1, s2, s3⟩ := hs hc
    simp only [pk_sub hc, nI_1]
    rw [if_neg (nI_pos (by omega))]
    have d1 : nI (v 2) ≤ nI i ↔ ¬ i < v 2 := by rw [nI_leI (by omega) (by omega)]; omega
    have d2 : nI (v 3) ≤ nI j ↔ ¬ j < v 3 := by rw [nI_leI (by omega) (by omega)]; omega
    rw [opt1 (P := i < v 2) (x := F (i - (v 1 - 2 * y) + 1) (j - y) r + 1) d1 ?_, Option.bind_some, opt1 (P := j < v 3) (x := F (i - (v 1 - 2 * y)) (j - y + 1) r + 1) d2 ?_, Option.bind_some]
    · unfold lT
      rw [if_pos (show y ≤ j ∧ v 1 - 2 * y ≤ i from ⟨hy, hc⟩)]
      unfold lB
      by_cases c3 : 0 < r
      · rw [if_neg (nI_nle c3 (by omega)), show nI r - 1 = nI (r - 1) from pk_sub (b := 1) c3]
        rw [l_noted q (Nat.lt_of_lt_of_le (pl_lt (t := v 3) (by omega) (by omega) (by omega)) sz), Option.bind_some, s3 c3, one_add, x_max_nI (by have := hF (i - (v 1 - 2 * y) + 1) (j - y) r; have := hF (i - (v 1 - 2 * y)) (j - y + 1) r; split <;> split <;> omega) (by have := hF (i - (v 1 - 2 * y)) (j - y) (r - 1); omega)]
        simp only [Option.bind_some, if_pos c3, Nat.max_assoc]
      · rw [if_pos (show nI r ≤ 0 by rw [show r = 0 by omega]; decide)]
        simp only [if_neg c3, Nat.max_assoc, Nat.max_zero]
    · intro c2'
      rw [l_noted q (Nat.lt_of_lt_of_le (pl_lt (t := v 3) (by omega) (by omega) (by omega)) sz), Option.bind_some, s2 c2', one_add, x_max_nI (by have := hF (i - (v 1 - 2 * y) + 1) (j - y) r; split <;> omega) (by have := hF (i - (v 1 - 2 * y)) (j - y + 1) r; omega)]
    · intro c1'
      rw [l_noted q (Nat.lt_of_lt_of_le (pl_lt (t := v 3) (by omega) (by omega) (by omega)) sz), Option.bind_some, s1 c1', one_add, x_max_nI (by omega) (by have := hF (i - (v 1 - 2 * y) + 1) (j - y) r; omega)]
  · rw [if_pos (pk_sneg (by omega) (by omega))]
    unfold lT
    rw [if_neg (fun z => hc z.2), Nat.max_eq_left (Nat.zero_le _)]
end LL
