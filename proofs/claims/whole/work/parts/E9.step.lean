/-! One round of the law's loop. -/
def Gd (D : DS) (w : Nat → Nat) (e : Option ((Sum (Int32 × xH) xH) × Nat × Nat)) : Prop := ∃ hz cc ss, e = some (.inr hz, cc, ss) ∧ tC D w + cc ≤ 171940 ∧ tS D w + ss ≤ 227378
section Mk
variable {h h' g g' : xH} {w w' : Nat → Nat} {A : AS} {D D' : DS} {n : Nat} {K Z : xH → Option ((Sum (Int32 × xH) xH) × Nat × Nat)}
theorem gd_ite {c : Prop} [Decidable c] {a b : Option ((Sum (Int32 × xH) xH) × Nat × Nat)} (h1 : c → Gd D w a) (h2 : ¬ c → Gd D w b) : Gd D w (if c then a else b) := by
  by_cases z : c
  · rw [if_pos z]; exact h1 z
  · rw [if_neg z]; exact h2 z
theorem gd_add {e : Option ((Sum (Int32 × xH) xH) × Nat × Nat)} {c s : Nat} (q : Gd D' w' e) (h1 : tC D w + c ≤ tC D' w') (h2 : tS D w + s ≤ tS D' w') : Gd D w (x_add c s e) := by
  obtain ⟨hz, cc, ss, e1, e2, e3⟩ := q
  exact ⟨hz, c + cc, s + ss, by rw [e1, xad], by omega, by omega⟩
theorem fx_0 : fx D 4 D := ⟨Nat.le_add_right _ _, Nat.le_add_right _ _⟩
theorem ls_S {X : Option (Int32 × xH)} {Y : xH → Option (Int32 × xH)} (j : JJ h D w A) (b : BSt h D w A X Y) (ih : ∀ h2 D' w' A', JJ h2 D' w' A' → fx D 4 D' → Gd D' w' (K h2)) : Gd D w ((x_ob h 16 6).bind fun _ => X.bind fun q => (x_ob q.2 64 7).bind fun _ => (Y q.2).bind fun q' => if q.1 = q'.1 then K q'.2 else Z q'.2) := by
  obtain ⟨r, h1, h2, A', e1, e2, e3, j2⟩ := b.step j
  rw [j.1.ob, Option.bind_some, e1, Option.bind_some]
  dsimp only
  rw [e3, Option.bind_some, e2, Option.bind_some]
  dsimp only
  rw [if_pos rfl]
  exact ih h2 D w A' j2 fx_0
theorem ls_V {X : Option Int32} {Y : xH → Option Int32} (j : JJ h D w A) (b : BVl w A X Y) (ih : ∀ h2 D' w' A', JJ h2 D' w' A' → fx D 4 D' → Gd D' w' (K h2)) : Gd D w ((x_ob h 16 6).bind fun _ => X.bind fun q => (x_ob h 64 7).bind fun _ => (Y h).bind fun q' => if q = q' then K h else Z h) := by
  obtain ⟨r, e1, e2⟩ := b.step j
  rw [j.1.ob, Option.bind_some, e1, Option.bind_some, j.2.1.ob, Option.bind_some, e2, Option.bind_some, if_pos rfl]
  exact ih h D w A j fx_0
theorem ls_L {X : Option Int64} {Y : xH → Option Int64} (j : JJ h D w A) (b : BVl w A X Y) (ih : ∀ h2 D' w' A', JJ h2 D' w' A' → fx D 4 D' → Gd D' w' (K h2)) : Gd D w ((x_ob h 16 6).bind fun _ => X.bind fun q => (x_ob h 64 7).bind fun _ => (Y h).bind fun q' => if lg_cmp q q' = 0 then K h else Z h) := by
  obtain ⟨r, e1, e2⟩ := b.step j
  have e0 : lg_cmp r r = 0 := by
    have a1 : ¬ lg_cmp r r < 0 := fun z => Int64.lt_irrefl ((lg_lt r r).mp z)
    have a2 : ¬ 0 < lg_cmp r r := fun z => Int64.lt_irrefl ((lg_gt r r).mp z)
    exact Int32.le_antisymm (Int32.not_lt.mp a2) (Int32.not_lt.mp a1)
  rw [j.1.ob, Option.bind_some, e1, Option.bind_some, j.2.1.ob, Option.bind_some, e2, Option.bind_some, if_pos e0]
  exact ih h D w A j fx_0
theorem ls_M {X : Option (Int32 × xH)} {Y : xH → Option ((Int32 × xH) × Nat × Nat)} (j : JJ h D w A) (b : BMt h D A X Y) (ih : ∀ h2 D' w' A', JJ h2 D' w' A' → fx D 4 D' → Gd D' w' (K h2)) : Gd D w ((x_ob h 16 6).bind fun _ => X.bind fun q => (x_ob q.2 64 7).bind fun _ => (Y q.2).bind fun q' => x_add q'.2.1 q'.2.2 (if q.1 = q'.1.1 then K q'.1.2 else Z q'.1.2)) := by
  obtain ⟨r, h1, h2, w', A', c, s, e1, e2, e3, j2, k1, k2⟩ := b.step j
  rw [j.1.ob, Option.bind_some, e1, Option.bind_some]
  dsimp only
  rw [e3, Option.bind_some, e2, Option.bind_some]
  dsimp only
  rw [if_pos rfl]
  exact gd_add (ih h2 D w' A' j2 fx_0) k1 k2
theorem ls_G {X : Option ((Int32 × xH) × Nat × Nat)} {Y : xH → Option ((Int32 × xH) × Nat × Nat)} (j : JJ h D w A) (b : JGt h D w A 4 X Y) (ih : ∀ h2 D' w' A', JJ h2 D' w' A' → fx D 4 D' → Gd D' w' (K h2)) : Gd D w ((x_ob h 16 6).bind fun _ => X.bind fun q => x_add q.2.1 q.2.2 ((x_ob q.1.2 64 7).bind fun _ => (Y q.1.2).bind fun q' => x_add q'.2.1 q'.2.2 (if q.1.1 = q'.1.1 then K q'.1.2 else Z q'.1.2))) := by
  obtain ⟨r, h1, h2, D1, w2, A', c, s, c', s', e1, e2, e3, j2, f, k1, k2⟩ := b.step
  obtain ⟨hz, cc, ss, y1, y2, y3⟩ := ih h2 D1 w2 A' j2 f
  rw [j.1.ob, Option.bind_some, e1, Option.bind_some]
  dsimp only
  rw [e3, Option.bind_some, e2, Option.bind_some]
  dsimp only
  rw [if_pos rfl, y1, xad, xad]
  exact ⟨hz, _, _, rfl, by omega, by omega⟩
end Mk
theorem scr_ok {S : Nat × (Nat → Int32)} {i : Nat} (hS : S.1 ≤ 3072) (h : 6 * i + 6 ≤ S.1) {d : Nat} (hd : d < 6) : x_scr S (nI (6 * i) + nI d) = some (S.2 (6 * i + d)) := by
  unfold x_scr
  rw [nI_add, nI_clamp (show 6 * i + d < 2 ^ 31 by omega), if_neg]
  rintro (z | z)
  · exact nI_pos (by omega) z
  · omega
