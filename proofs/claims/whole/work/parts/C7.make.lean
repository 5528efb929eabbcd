/-! Things made: colours of new cells, and what they cost. -/
def Lv (h : xH) (a : Nat) : Prop := (∃ e, x_at h a = some (.inl e)) ∨ ∃ ci k v, x_get h a ci k = some v
noncomputable def nrm (h : xH) (w : Nat → Nat) (a : Nat) : Nat := @ite Nat (Lv h a) (Classical.propDecidable _) (w a) 0
def Nz (h : xH) (w : Nat → Nat) : Prop := ∀ a, w a ≠ 0 → Lv h a
noncomputable def ptl (w : Nat → Nat) (i c : Nat) : Nat := @ite Nat (∃ a, w a = i) (Classical.propDecidable _) c 0
noncomputable def mC (w : Nat → Nat) : Nat := ptl w 1 36 + ptl w 2 36 + ptl w 3 2 + ptl w 4 2
noncomputable def mS (w : Nat → Nat) : Nat := ptl w 1 1277 + ptl w 2 1277 + ptl w 3 40960 + ptl w 4 12000
section Mk
variable {h h' g g' : xH} {w w' : Nat → Nat} {A : AS} {D : DS} {F : Nat → Nat → Prop} {P : Nat → Prop}
theorem Lv.fr {a : Nat} (l : Lv h a) (f : Fr F P h h') (hF : ∀ k, ¬ F a k) (hP : ¬ P a) : Lv h' a := by
  rcases l with ⟨e, l⟩ | ⟨ci, k, v, l⟩
  · exact Or.inl ⟨e, f.2 _ _ hP l⟩
  · exact Or.inr ⟨ci, k, v, f.1 _ _ _ _ (hF k) l⟩
theorem Lv.lt {a : Nat} (l : Lv h a) : a < h.length + 16 := by
  rcases l with ⟨e, l⟩ | ⟨ci, k, v, l⟩
  · exact g_lt l
  · obtain ⟨fs, z, -⟩ := g_at l
    exact g_lt z
theorem nrm_lv {a : Nat} (l : Lv h a) : nrm h w a = w a := if_pos l
theorem nrm_nz : Nz h (nrm h w) := fun a z => Classical.byContradiction fun l => z (if_neg l)
theorem nrm_ne {i : Nat} (hi : i ≠ 0) (q : ∀ a, w a ≠ i) : ∀ a, nrm h w a ≠ i := fun a z => by
  by_cases l : Lv h a
  · exact q a ((nrm_lv l).symm.trans z)
  · exact hi (z.symm.trans (if_neg l))
theorem nrm_0 {a : Nat} (q : w a = 0) : nrm h w a = 0 := by
  by_cases l : Lv h a
  · rw [nrm_lv l]; exact q
  · exact if_neg l
theorem MH.lv {m a : Nat} {H : HS} (q : MH h m H) (ha : cellM m a) : Lv h a := by
  obtain ⟨q1, ⟨fo, q2, -⟩, fd, fr, q3, q4, -⟩ := q
  rcases ha with rfl | ⟨h1, h2⟩
  · exact Or.inr ⟨7, 9, _, q1 9 (by decide) (by decide)⟩
  · by_cases e1 : a = m + 17
    · rw [e1]; exact Or.inl ⟨_, q2⟩
    · by_cases e2 : a = m + 32
      · rw [e2]; exact Or.inl ⟨_, q4⟩
      · have := q3 (a - (m + 18)) (by omega)
        rw [show m + 18 + (a - (m + 18)) = a by omega] at this
        exact Or.inl ⟨_, this⟩
theorem MIk.rc {K : Option HS} (q : MIk h w K) (h1 : ∀ a, Lv h a → w a = 1 → w' a = 1) (hn : (∀ a, w a ≠ 1) → ∀ a, w' a ≠ 1) : MIk h w' K := by
  cases K with
  | none => exact ⟨q.1, hn q.2⟩
  | some H =>
    obtain ⟨o, q1, q2, q3⟩ := q
    exact ⟨o, q1, q2, fun a ha => h1 a (q2.lv ha) (q3 a ha)⟩
theorem MIy.rc (q : MIy h w) (h1 : ∀ a, Lv h a → w a = 2 → w' a = 2) (hn : (∀ a, w a ≠ 2) → ∀ a, w' a ≠ 2) : MIy h w' := by
  rcases q with q | ⟨o, T, q1, q2, q3⟩
  · exact Or.inl ⟨q.1, hn q.2⟩
  · exact Or.inr ⟨o, T, q1, q2, fun a ha => h1 a (q2.lv ha) (q3 a ha)⟩
theorem MIq.rc (q : MIq h w) (h1 : ∀ a, Lv h a → w a = 3 → w' a = 3) (hn : (∀ a, w a ≠ 3) → ∀ a, w' a ≠ 3) : MIq h w' := by
  obtain ⟨q1, q2, q3, q4, q5⟩ := q
  refine ⟨q1, q2, q3, q4, ?_⟩
  rcases q5 with ⟨a1, a2, a3⟩ | ⟨af, ab, fF, fB, a1, a2, a3, a4, a5, a6, a7⟩
  · exact Or.inl ⟨a1, a2, hn a3⟩
  · exact Or.inr ⟨af, ab, fF, fB, a1, a2, a3, a4, a5, h1 _ (Or.inl ⟨_, a3⟩) a6, h1 _ (Or.inl ⟨_, a4⟩) a7⟩
theorem MIw.rc (q : MIw h w) (h1 : ∀ a, Lv h a → w a = 4 → w' a = 4) (hn : (∀ a, w a ≠ 4) → ∀ a, w' a ≠ 4) : MIw h w' := by
  obtain ⟨q1, q5⟩ := q
  refine ⟨q1, ?_⟩
  rcases q5 with ⟨a1, a2, a3⟩ | ⟨af, ab, fF, fB, a1, a2, a3, a4, a5, a6, a7⟩
  · exact Or.inl ⟨a1, a2, hn a3⟩
  · exact Or.inr ⟨af, ab, fF, fB, a1, a2, a3, a4, a5, h1 _ (Or.inl ⟨_, a3⟩) a6, h1 _ (Or.inl ⟨_, a4⟩) a7⟩
theorem MIn.norm (q : MIn h w A) : MIn h (nrm h w) A := by
  have r : ∀ {i : Nat} (a : Nat), Lv h a → w a = i → nrm h w a = i := fun a l e => (nrm_lv l).trans e
  obtain ⟨q0, q1, q2, q3, q4, q5, q6, q7, q8, q9⟩ := q
  exact ⟨q0, q1, q2, q3, q4, q5.rc (fun a => r a) (nrm_ne (by decide)), q6.rc (fun a => r a) (nrm_ne (by decide)), q7.rc (fun a => r a) (nrm_ne (by decide)), q8.rc (fun a => r a) (nrm_ne (by decide)), fun a ha => nrm_0 (q9 a ha)⟩
theorem MIk.ex {K : Option HS} (q : MIk h w K) (e : ∃ a, w a = 1) : ∃ a, Lv h a ∧ w a = 1 := by
  cases K with
  | none => obtain ⟨a, e⟩ := e; exact absurd e (q.2 a)
  | some H =>
    obtain ⟨o, q1, q2, q3⟩ := q
    exact ⟨o, q2.lv (Or.inl rfl), q3 o (Or.inl rfl)⟩
theorem MIy.ex (q : MIy h w) (e : ∃ a, w a = 2) : ∃ a, Lv h a ∧ w a = 2 := by
  rcases q with q | ⟨o, T, q1, q2, q3⟩
  · obtain ⟨a, e⟩ := e; exact absurd e (q.2 a)
  · exact ⟨o, q2.lv (Or.inl rfl), q3 o (Or.inl rfl)⟩
theorem MIq.ex (q : MIq h w) (e : ∃ a, w a = 3) : ∃ a, Lv h a ∧ w a = 3 := by
  obtain ⟨q1, q2, q3, q4, q5⟩ := q
  rcases q5 with ⟨a1, a2, a3⟩ | ⟨af, ab, fF, fB, a1, a2, a3, a4, a5, a6, a7⟩
  · obtain ⟨a, e⟩ := e; exact absurd e (a3 a)
  · exact ⟨af, Or.inl ⟨_, a3⟩, a6⟩
theorem MIw.ex (q : MIw h w) (e : ∃ a, w a = 4) : ∃ a, Lv h a ∧ w a = 4 := by
  obtain ⟨q1, q5⟩ := q
  rcases q5 with ⟨a1, a2, a3⟩ | ⟨af, ab, fF, fB, a1, a2, a3, a4, a5, a6, a7⟩
  · obtain ⟨a, e⟩ := e; exact absurd e (a3 a)
  · exact ⟨af, Or.inl ⟨_, a3⟩, a6⟩
theorem ptl_le {i c : Nat} (e : (∃ a, w a = i) → ∃ a, w' a = i) : ptl w i c ≤ ptl w' i c := by
  unfold ptl
  by_cases z : ∃ a, w a = i
  · rw [if_pos z, if_pos (e z)]; exact Nat.le_refl _
  · rw [if_neg z]; exact Nat.zero_le _
theorem ptl_0 {i c : Nat} (e : ∀ a, w a ≠ i) : ptl w i c = 0 := by
  unfold ptl
  exact if_neg fun ⟨a, z⟩ => e a z
theorem ptl_1 {i c : Nat} (e : ∃ a, w a = i) : ptl w i c = c := by
  unfold ptl
  exact if_pos e
theorem ptl_max {i c : Nat} : ptl w i c ≤ c := by
  unfold ptl
  split
  · exact Nat.le_refl _
  · exact Nat.zero_le _
theorem mC_max : mC w ≤ 76 := by
  have a1 : ptl w 1 36 ≤ 36 := ptl_max
  have a2 : ptl w 2 36 ≤ 36 := ptl_max
  have a3 : ptl w 3 2 ≤ 2 := ptl_max
  have a4 : ptl w 4 2 ≤ 2 := ptl_max
  unfold mC
  omega
theorem mS_max : mS w ≤ 55514 := by
  have a1 : ptl w 1 1277 ≤ 1277 := ptl_max
  have a2 : ptl w 2 1277 ≤ 1277 := ptl_max
  have a3 : ptl w 3 40960 ≤ 40960 := ptl_max
  have a4 : ptl w 4 12000 ≤ 12000 := ptl_max
  unfold mS
  omega
theorem MIn.grow (q : MIn h w A) (l : ∀ a, Lv h a → w a ≠ 0 → w' a = w a) : ∀ i c, 1 ≤ i → i ≤ 4 → ptl w i c ≤ ptl w' i c := fun i c h1 h4 => by
  obtain ⟨q0, q1, q2, q3, q4, q5, q6, q7, q8, q9⟩ := q
  refine ptl_le fun e => ?_
  have k : ∃ a, Lv h a ∧ w a = i := by
    rcases (show i = 1 ∨ i = 2 ∨ i = 3 ∨ i = 4 by omega) with rfl | rfl | rfl | rfl
    · exact q5.ex e
    · exact q6.ex e
    · exact q7.ex e
    · exact q8.ex e
  obtain ⟨a, la, e⟩ := k
  exact ⟨a, (l a la (by omega)).trans e⟩
theorem mCS_le (q : ∀ i c, 1 ≤ i → i ≤ 4 → ptl w i c ≤ ptl w' i c) : mC w ≤ mC w' ∧ mS w ≤ mS w' := ⟨Nat.add_le_add (Nat.add_le_add (Nat.add_le_add (q 1 _ (by decide) (by decide)) (q 2 _ (by decide) (by decide))) (q 3 _ (by decide) (by decide))) (q 4 _ (by decide) (by decide)), Nat.add_le_add (Nat.add_le_add (Nat.add_le_add (q 1 _ (by decide) (by decide)) (q 2 _ (by decide) (by decide))) (q 3 _ (by decide) (by decide))) (q 4 _ (by decide) (by decide))⟩
def kC (i : Nat) : Nat := if i ≤ 2 then 36 else 2
def kS (i : Nat) : Nat := if i ≤ 2 then 1277 else if i = 3 then 40960 else 12000
theorem mCS_mk {i : Nat} (h1 : 1 ≤ i) (h4 : i ≤ 4) (q : ∀ i c, 1 ≤ i → i ≤ 4 → ptl w i c ≤ ptl w' i c) (e : ∀ a, w a ≠ i) (e' : ∃ a, w' a = i) : mC w + kC i ≤ mC w' ∧ mS w + kS i ≤ mS w' := by
  have a1 := q 1 36 (by decide) (by decide)
  have a2 := q 2 36 (by decide) (by decide)
  have a3 := q 3 2 (by decide) (by decide)
  have a4 := q 4 2 (by decide) (by decide)
  have b1 := q 1 1277 (by decide) (by decide)
  have b2 := q 2 1277 (by decide) (by decide)
  have b3 := q 3 40960 (by decide) (by decide)
  have b4 := q 4 12000 (by decide) (by decide)
  have z0 : ∀ c, ptl w i c = 0 := fun c => ptl_0 e
  have z1 : ∀ c, ptl w' i c = c := fun c => ptl_1 e'
  unfold mC mS kC kS
  rcases (show i = 1 ∨ i = 2 ∨ i = 3 ∨ i = 4 by omega) with rfl | rfl | rfl | rfl
  · have := z0 36; have := z0 1277; have := z1 36; have := z1 1277
    simp only [show (1 : Nat) ≤ 2 by decide, if_true]; omega
  · have := z0 36; have := z0 1277; have := z1 36; have := z1 1277
    simp only [show (2 : Nat) ≤ 2 by decide, if_true]; omega
  · have := z0 2; have := z0 40960; have := z1 2; have := z1 40960
    simp only [show ¬ (3 : Nat) ≤ 2 by decide, if_true, if_false]; omega
  · have := z0 2; have := z0 12000; have := z1 2; have := z1 12000
    simp only [show ¬ (4 : Nat) ≤ 2 by decide, show ¬ (4 : Nat) = 3 by decide, if_false]; omega
/-- the reference's step that may make things -/
def MX (g : xH) (w : Nat → Nat) (g' : xH) (w' : Nat → Nat) (A' : AS) (c s : Nat) : Prop := MIn g' w' A' ∧ FrR w' g g' ∧ (∀ a, w a ≠ 0 → w' a = w a) ∧ (∀ a, Lv g a → 100 ≤ a → w a = 0 → w' a = 0) ∧ mC w + c ≤ mC w' ∧ mS w + s ≤ mS w'
theorem MX.of (q : MIn g' w A) (f : FrR w g g') : MX g w g' w A 0 0 := ⟨q, f, fun _ _ => rfl, fun _ _ _ e => e, Nat.le_refl _, Nat.le_refl _⟩
theorem MX.trans {g1 g2 : xH} {w1 w2 : Nat → Nat} {A1 A2 : AS} {c1 s1 c2 s2 : Nat} (x : MX g w g1 w1 A1 c1 s1) (y : MX g1 w1 g2 w2 A2 c2 s2) : MX g w g2 w2 A2 (c1 + c2) (s1 + s2) := by
  obtain ⟨x1, x2, x3, x4, x5, x6⟩ := x
  obtain ⟨y1, y2, y3, y4, y5, y6⟩ := y
  have up : ∀ a, mAd w1 a → mAd w2 a := fun a z => by
    rcases z with z | z
    · exact Or.inl z
    · exact Or.inr (by rw [y3 a z]; exact z)
  refine ⟨y1, (Fr.mono x2 (fun a _ => up a) up).trans y2, fun a z => ?_, fun a l h1 z => ?_, by omega, by omega⟩
  · rw [y3 a (by rw [x3 a z]; exact z), x3 a z]
  · have z1 := x4 a l h1 z
    have nm : ¬ mAd w1 a := fun m => by
      rcases m with m | m
      · omega
      · exact m z1
    exact y4 a (l.fr x2 (fun _ => nm) nm) h1 z1
theorem MX.st {g1 : xH} {A1 A2 : AS} {c s : Nat} (x : MX g w g1 w' A1 c s) {g2 : xH} (m : MIn g2 w' A2) (f : FrR w' g1 g2) : MX g w g2 w' A2 c s := x.trans (MX.of m f)
def MGt (g : xH) (w : Nat → Nat) (Y : Option ((Int32 × xH) × Nat × Nat)) (r : Int32) (A' : AS) : Prop := ∃ g' w' c s, Y = some ((r, g'), c, s) ∧ MX g w g' w' A' c s
def BMt (h : xH) (D : DS) (A : AS) (X : Option (Int32 × xH)) (Y : xH → Option ((Int32 × xH) × Nat × Nat)) : Prop := ∃ r A', CSt h D X r A' ∧ (∀ g w, Nz g w → MIn g w A → MGt g w (Y g) r A') ∧ AOk A'
/-- the tally -/
noncomputable def tC (D : DS) (w : Nat → Nat) : Nat := P1 D.2.2.2.2.1 + P2 D.2.2.2.1 + mC w
noncomputable def tS (D : DS) (w : Nat → Nat) : Nat := P1 D.2.2.2.2.1 + P2 D.2.2.2.1 + mS w
theorem CI.dl (q : CI h D A) : Lv h (dp D) ∧ Lv h (ds D) ∧ Lv h (dq D) := by
  obtain ⟨v, fg, w, fA, fp, fs, fq, q1, q2, q3, q4, q5⟩ := q.2.2.2.2.2.2.1
  exact ⟨Or.inl ⟨_, q1.2.2.2.2⟩, Or.inl ⟨_, q4.2.2.2.2.2.2.1⟩, Or.inl ⟨_, q4.2.2.2.2.2.2.2⟩⟩
def fx (D : DS) (k : Nat) (D' : DS) : Prop := D'.2.2.2.2.2.1 ≤ D.2.2.2.2.2.1 + k ∧ max D'.2.2.2.2.2.2 1 ≤ max D.2.2.2.2.2.2 1 + k * 16384
theorem BMt.step {X : Option (Int32 × xH)} {Y : xH → Option ((Int32 × xH) × Nat × Nat)} (j : JJ h D w A) (b : BMt h D A X Y) : ∃ r h1 h2 w' A' c s, X = some (r, h1) ∧ Y h1 = some ((r, h2), c, s) ∧ x_ob h1 64 7 = some () ∧ JJ h2 D w' A' ∧ tC D w + c ≤ tC D w' ∧ tS D w + s ≤ tS D w' := by
  obtain ⟨jc, jm, jw, -⟩ := j
  obtain ⟨r, A', ⟨h1, e1, c1, f1⟩, my, ok⟩ := b
  have m1 : MIn h1 w A := jm.frC jc.dn jw f1
  have gr := mCS_le (m1.grow (w' := nrm h1 w) fun a l _ => nrm_lv l)
  obtain ⟨h2, w', c, s, e2, m2, f2, x1, x2, x3, x4⟩ := my h1 (nrm h1 w) nrm_nz m1.norm
  obtain ⟨l1, l2, l3⟩ := c1.dl
  have z : ∀ a, Lv h1 a → ¬ fixd a → w a = 0 → w' a = 0 := fun a l nf e => by
    by_cases h100 : 100 ≤ a
    · exact x2 a l h100 (nrm_0 e)
    · exact m2.col a (by omega)
  have jw' : w' (dp D) = 0 ∧ w' (ds D) = 0 ∧ w' (dq D) = 0 := ⟨z _ l1 jc.dn.1 jw.1, z _ l2 jc.dn.2.1 jw.2.1, z _ l3 jc.dn.2.2 jw.2.2⟩
  exact ⟨r, h1, h2, w', A', c, s, e1, e2, m1.ob, ⟨c1.frR jw' m2.col f2, m2, jw', ok⟩, by unfold tC; omega, by unfold tS; omega⟩
def refMM (h : xH) (p : Int32) : Option ((Int32 × xH) × Nat × Nat) := (x_ob h 64 7).bind fun _ => (f_X7_refuse h 64 p).bind fun q3 => some ((q3.1, q3.2), 0, 0)
theorem mm_refuse (q : MIn g w A) {i : Nat} (hi : i < 5) {p : Int32} (hp : -p = nI (2 + i)) : MGt g w (refMM g p) p (ref1 A i) := by
  obtain ⟨g', e, m, f⟩ := m_refuse q hi hp
  refine ⟨g', w, 0, 0, ?_, MX.of m f⟩
  unfold refMM
  rw [q.ob, Option.bind_some] at e ⊢
  cases z : f_X7_refuse g 64 p with
  | none => rw [z] at e; cases e
  | some x =>
    rw [z, Option.bind_some] at e
    rw [Option.bind_some]
    cases e
    rfl
variable {X : Option (Int32 × xH)} {Y : xH → Option ((Int32 × xH) × Nat × Nat)}
theorem bm_ref (q : CI h D A) (ok : AOk A) {i : Nat} (hi : i < 5) {p : Int32} (hp : -2 - p = nI i) (hp2 : -p = nI (2 + i)) (eX : X = refC h p) (eY : ∀ g w, MIn g w A → Y g = refMM g p) : BMt h D A X Y := by
  refine ⟨p, ref1 A i, ?_, fun g w _ qg => ?_, ok.ref i⟩
  · rw [eX]; exact c_refuse q hi hp
  · rw [eY g w qg]; exact mm_refuse qg hi hp2
theorem bm_ref2 (q : CI h D A) (ok : AOk A) (eX : X = refC h (-2)) (eY : ∀ g w, MIn g w A → Y g = refMM g (-2)) : BMt h D A X Y := bm_ref q ok (i := 0) (by decide) (by decide) (by decide) eX eY
theorem bm_ref3 (q : CI h D A) (ok : AOk A) (eX : X = refC h (-3)) (eY : ∀ g w, MIn g w A → Y g = refMM g (-3)) : BMt h D A X Y := bm_ref q ok (i := 1) (by decide) (by decide) (by decide) eX eY
theorem bm_ref4 (q : CI h D A) (ok : AOk A) (eX : X = refC h (-4)) (eY : ∀ g w, MIn g w A → Y g = refMM g (-4)) : BMt h D A X Y := bm_ref q ok (i := 2) (by decide) (by decide) (by decide) eX eY
theorem bm_ref5 (q : CI h D A) (ok : AOk A) (eX : X = refC h (-5)) (eY : ∀ g w, MIn g w A → Y g = refMM g (-5)) : BMt h D A X Y := bm_ref q ok (i := 3) (by decide) (by decide) (by decide) eX eY
end Mk
