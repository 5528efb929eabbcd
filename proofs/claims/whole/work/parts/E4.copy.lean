/-! copy: the pieces. -/
def strB (z : Nat) (p n : Int32) : Bool := !decide (p < 0) && !decide (n < 0) && !decide (nI z < n) && !decide (nI z - n < p)
theorem strB_ok {z : Nat} {p n : Int32} (hz : z ≤ 40) (e : strB z p n = true) : ∃ s m, p = nI s ∧ n = nI m ∧ s + m ≤ z := by
  unfold strB at e
  simp only [Bool.and_eq_true, Bool.not_eq_true', decide_eq_false_iff_not] at e
  obtain ⟨⟨⟨e1, e2⟩, e3⟩, e4⟩ := e
  rw [lt0] at e1 e2
  have e3' : ¬ (z : Int) < n.toInt := fun y => e3 ((Nlt (k := z) (by omega) n).mpr y)
  have hn : n = nI n.toInt.toNat := Int32.toInt_inj.mp (by rw [nI_toInt (by omega)]; omega)
  have hm : n.toInt.toNat ≤ z := by omega
  rw [hn, nI_sub' hm] at e4
  have e4' : ¬ ((z - n.toInt.toNat : Nat) : Int) < p.toInt := fun y => e4 ((Nlt (k := z - n.toInt.toNat) (by omega) p).mpr y)
  exact ⟨p.toInt.toNat, n.toInt.toNat, Int32.toInt_inj.mp (by rw [nI_toInt (by omega)]; omega), hn, by omega⟩
section Mk
variable {h h' g g' : xH} {w w' : Nat → Nat} {A : AS} {D : DS} {n : Nat}
theorem c_str {a z : Nat} (e : x_gI h a 4 1 = some (nI z)) (p m : Int32) : f_X4_hasStretch h a p m = some (bI (strB z p m)) := by
  unfold f_X4_hasStretch strB
  rw [e]
  by_cases c1 : p < 0
  · rw [if_pos c1, decide_eq_true c1]; rfl
  · rw [if_neg c1, decide_eq_false c1]
    by_cases c2 : m < 0
    · rw [if_pos c2, decide_eq_true c2]; rfl
    · rw [if_neg c2, decide_eq_false c2, Option.bind_some]
      by_cases c3 : nI z < m
      · rw [if_pos c3, decide_eq_true c3]; rfl
      · rw [if_neg c3, decide_eq_false c3, Option.bind_some]
        by_cases c4 : nI z - m < p
        · rw [if_pos c4, decide_eq_true c4]; rfl
        · rw [if_neg c4, decide_eq_false c4]; rfl
theorem m_cp1 {ja s m : Nat} {v2 v4 : Int32} {ga gv : Nat → Int64} {fo : Nat → Option Nat} (r4 : x_get g 64 7 4 = some (.ref 77)) (r3 : x_get g 64 7 3 = some (.ref 68)) (hj : ja < 8) (qo : AtQ g 68 8 (.array .long) fo) (ho : fo ja = some (69 + ja)) (aa : AtL g (69 + ja) 40 ga) (av : AtL g 77 40 gv) (hs : s + m ≤ 40) (hn : 50 ≤ n) : ∃ g' gv', f_X7_copy_L191 64 (nI ja) v2 (nI s) v4 (nI m) n 0 g = some g' ∧ AtL g' 77 40 gv' ∧ (∀ y, y < m → gv' y = ga (s + y)) ∧ Fr (fun _ _ => False) (fun a => a = 77) g g' := by
  have := lp0 (L := fun k (st : xH) i => f_X7_copy_L191 64 (nI ja) v2 (nI s) v4 (nI m) k (nI i) st) (I := fun i st => (∃ gv', AtL st 77 40 gv' ∧ ∀ y, y < i → gv' y = ga (s + y)) ∧ Fr (fun _ _ => False) (fun a => a = 77) g st) (R := fun st => (∃ gv', AtL st 77 40 gv' ∧ ∀ y, y < m → gv' y = ga (s + y)) ∧ Fr (fun _ _ => False) (fun a => a = 77) g st) (D := m) (n := n) (s := g) (by omega) ⟨⟨gv, av, fun y hy => absurd hy (Nat.not_lt_zero _)⟩, Fr.rfl⟩
    (fun k st hs => by
      refine ⟨st, ?_, hs⟩
      show f_X7_copy_L191 64 (nI ja) v2 (nI s) v4 (nI m) (k + 1) (nI m) st = _
      rw [f_X7_copy_L191, if_pos (nI_le (Nat.le_refl _) (by omega))])
    (fun k st i hi hst => by
      right
      obtain ⟨⟨gv', a1, a2⟩, f⟩ := hst
      obtain ⟨h1, e1, b1, f1⟩ := w_stL a1 (j := i) (by omega) (by decide) (ga (s + i))
      refine ⟨h1, ?_, ⟨_, b1, fun y hy => ?_⟩, f.trans f1⟩
      · show f_X7_copy_L191 64 (nI ja) v2 (nI s) v4 (nI m) (k + 1) (nI i) st = f_X7_copy_L191 64 (nI ja) v2 (nI s) v4 (nI m) k (nI (i + 1)) h1
        have q1 := f.2 _ _ (fun z => by omega) qo
        have q2 : AtL st (69 + ja) 40 ga := f.2 _ _ (fun z => by omega) aa
        rw [f_X7_copy_L191, if_neg (nI_ge hi (by omega)), g_R (f.1 _ _ _ _ (fun z => z) r4), Option.bind_some, g_R (f.1 _ _ _ _ (fun z => z) r3), Option.bind_some, AtQ.ld q1 rfl hj (by decide) ho, Option.bind_some, nI_add, AtL.ld q2 (show s + i < 40 by omega) (by decide), Option.bind_some, e1, Option.bind_some, Option.bind_some, nI_1]
      · by_cases z : y = i
        · rw [z, uL_s]
        · rw [uL_n z]; exact a2 y (by omega))
  obtain ⟨st, e, ⟨gv', r1, r2⟩, r3⟩ := this
  exact ⟨st, gv', e, r1, r2, r3⟩
theorem m_cp2 {jb d m : Nat} {gb gv : Nat → Int64} {fo : Nat → Option Nat} (r4 : x_get g 64 7 4 = some (.ref 77)) (r3 : x_get g 64 7 3 = some (.ref 68)) (hj : jb < 8) (qo : AtQ g 68 8 (.array .long) fo) (ho : fo jb = some (69 + jb)) (ab : AtL g (69 + jb) 40 gb) (av : AtL g 77 40 gv) (hs : d + m ≤ 40) (hn : 50 ≤ n) : ∃ g' gb', f_X7_copy_L225 64 (nI jb) (nI d) (nI m) n 0 g = some g' ∧ AtL g' (69 + jb) 40 gb' ∧ (∀ y, gb' y = if d ≤ y ∧ y < d + m then gv (y - d) else gb y) ∧ Fr (fun _ _ => False) (fun a => a = 69 + jb) g g' := by
  have := lp0 (L := fun k (st : xH) i => f_X7_copy_L225 64 (nI jb) (nI d) (nI m) k (nI i) st) (I := fun i st => (∃ gb', AtL st (69 + jb) 40 gb' ∧ ∀ y, gb' y = if d ≤ y ∧ y < d + i then gv (y - d) else gb y) ∧ Fr (fun _ _ => False) (fun a => a = 69 + jb) g st) (R := fun st => (∃ gb', AtL st (69 + jb) 40 gb' ∧ ∀ y, gb' y = if d ≤ y ∧ y < d + m then gv (y - d) else gb y) ∧ Fr (fun _ _ => False) (fun a => a = 69 + jb) g st) (D := m) (n := n) (s := g) (by omega) ⟨⟨gb, ab, fun y => by rw [if_neg (by omega)]⟩, Fr.rfl⟩
    (fun k st hs => by
      refine ⟨st, ?_, hs⟩
      show f_X7_copy_L225 64 (nI jb) (nI d) (nI m) (k + 1) (nI m) st = _
      rw [f_X7_copy_L225, if_pos (nI_le (Nat.le_refl _) (by omega))])
    (fun k st i hi hst => by
      right
      obtain ⟨⟨gb', a1, a2⟩, f⟩ := hst
      obtain ⟨h1, e1, b1, f1⟩ := w_stL a1 (j := d + i) (by omega) (by decide) (gv i)
      refine ⟨h1, ?_, ⟨_, b1, fun y => ?_⟩, f.trans f1⟩
      · show f_X7_copy_L225 64 (nI jb) (nI d) (nI m) (k + 1) (nI i) st = f_X7_copy_L225 64 (nI jb) (nI d) (nI m) k (nI (i + 1)) h1
        have q1 := f.2 _ _ (fun z => by omega) qo
        have q2 : AtL st 77 40 gv := f.2 _ _ (fun z => by omega) av
        rw [f_X7_copy_L225, if_neg (nI_ge hi (by omega)), g_R (f.1 _ _ _ _ (fun z => z) r3), Option.bind_some, AtQ.ld q1 rfl hj (by decide) ho, Option.bind_some, g_R (f.1 _ _ _ _ (fun z => z) r4), Option.bind_some, AtL.ld q2 (show i < 40 by omega) (by decide), Option.bind_some, nI_add, e1, Option.bind_some, Option.bind_some, nI_1]
      · by_cases z : y = d + i
        · rw [z, uL_s, if_pos (by omega), show d + i - d = i by omega]
        · rw [uL_n z, a2 y]
          by_cases z2 : d ≤ y ∧ y < d + i
          · rw [if_pos z2, if_pos (by omega)]
          · rw [if_neg z2, if_neg (by omega)])
  obtain ⟨st, e, ⟨gv', r1, r2⟩, r3⟩ := this
  exact ⟨st, gv', e, r1, r2, r3⟩
theorem c_cpy {a b s d m : Nat} {fa fb : Nat → Int64} (qa : AtL h a 40 fa) (qb : AtL h b 40 fb) (hs : s + m ≤ 40) (hd : d + m ≤ 40) : ∃ h', x_cpyL h a (nI s) b (nI d) (nI m) = some h' ∧ AtL h' b 40 (va_cpy fa fb s d m) ∧ Fr (fun _ _ => False) (fun y => y = b) h h' := by
  obtain ⟨r1, r2⟩ := w_arr (e1 := (.long, 40, .inr (.inl (va_cpy fa fb s d m)))) qb
  refine ⟨_, ?_, r1, r2⟩
  unfold x_cpyL
  rw [qa, qb]
  dsimp only
  rw [nI_clamp (show s < 2 ^ 31 by omega), nI_clamp (show d < 2 ^ 31 by omega), nI_clamp (show m < 2 ^ 31 by omega), if_neg]
  rintro (z | z | z | z | z)
  · exact nI_pos (by omega) z
  · exact nI_pos (by omega) z
  · exact nI_pos (by omega) z
  · omega
  · omega
end Mk
