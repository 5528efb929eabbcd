/-! The reference's side of the state. Colours w of cells made later: 1 kept, 2 tried, 3 far and by, 4 lasts and before. -/
def cellM (o a : Nat) : Prop := a = o ∨ (o + 17 ≤ a ∧ a < o + 33)
def refM (k : Nat) : Nat := match k with
  | 0 => 65
  | 1 => 66
  | 2 => 67
  | 3 => 68
  | 4 => 77
  | 5 => 78
  | _ => 80
def MIb (h : xH) : Prop := ∀ k, (k < 6 ∨ k = 8) → x_get h 64 7 k = some (.ref (refM k))
def MS1 (f0 f1 f2 f5 : Nat → Int32) (g : Nat → Nat → Int64) (j : Nat) (s : SH) : Prop := (s.1 = -1 → f0 j = 0) ∧ (∀ k, k < 5 → s.1 = nI k → f0 j = 1 ∧ f1 j = nI k ∧ f2 j = s.2.1 ∧ ∀ i, i < 40 → g j i = s.2.2 i) ∧ ∀ d, d < 14 → s.1 = nI (10 + d) → f0 j = 2 ∧ f5 j = nI d
def MSA (h : xH) (f0 f1 f2 f5 : Nat → Int32) (g : Nat → Nat → Int64) : Prop := At h 65 8 f0 ∧ At h 66 8 f1 ∧ At h 67 8 f2 ∧ At h 78 8 f5 ∧ (∃ fo, AtQ h 68 8 (.array .long) fo ∧ ∀ j, j < 8 → fo j = some (69 + j)) ∧ (∀ j, j < 8 → AtL h (69 + j) 40 (g j)) ∧ ∃ gv, AtL h 77 40 gv
def MIs (h : xH) (S : Nat → SH) : Prop := ∃ f0 f1 f2 f5 g, MSA h f0 f1 f2 f5 g ∧ ∀ j, j < 8 → MS1 f0 f1 f2 f5 g j (S j)
def MTp (h : xH) (t : TP) : Prop := ∃ v fb ft, MT h 64 v fb ft ∧ v 7 = nI t.1 ∧ TB t fb
def MIr (h : xH) (r : Nat → Int32) : Prop := ∃ fr, At h 80 8 fr ∧ ∀ i, i < 5 → fr (2 + i) = r i
def MIk (h : xH) (w : Nat → Nat) (K : Option HS) : Prop := match K with
  | none => x_get h 64 7 18 = some .null ∧ ∀ a, w a ≠ 1
  | some H => ∃ o, x_get h 64 7 18 = some (.ref o) ∧ MH h o H ∧ ∀ a, cellM o a → w a = 1
def MIy (h : xH) (w : Nat → Nat) : Prop := (x_get h 64 7 19 = some .null ∧ ∀ a, w a ≠ 2) ∨ ∃ o T, x_get h 64 7 19 = some (.ref o) ∧ MH h o T ∧ ∀ a, cellM o a → w a = 2
def MIq (h : xH) (w : Nat → Nat) : Prop := x_get h 64 7 29 = some (.ref 98) ∧ x_get h 64 7 31 = some (.ref 99) ∧ (∃ x30 em x33, x_get h 64 7 30 = some (.int x30) ∧ x_get h 64 7 32 = some (.int (nI em)) ∧ x_get h 64 7 33 = some (.int x33)) ∧ (∃ fg fe, At h 98 4 fg ∧ At h 99 512 fe) ∧ ((x_get h 64 7 27 = some .null ∧ x_get h 64 7 28 = some .null ∧ ∀ a, w a ≠ 3) ∨ ∃ af ab fF fB, x_get h 64 7 27 = some (.ref af) ∧ x_get h 64 7 28 = some (.ref ab) ∧ At h af 20480 fF ∧ At h ab 20480 fB ∧ af ≠ ab ∧ w af = 3 ∧ w ab = 3)
def MIw (h : xH) (w : Nat → Nat) : Prop := (∃ u : Nat → Nat, ∀ k, 36 ≤ k → k < 40 → x_get h 64 7 k = some (.int (nI (u k)))) ∧ ((x_get h 64 7 34 = some .null ∧ x_get h 64 7 35 = some .null ∧ ∀ a, w a ≠ 4) ∨ ∃ a b f g, x_get h 64 7 34 = some (.ref a) ∧ x_get h 64 7 35 = some (.ref b) ∧ At h a 6000 f ∧ At h b 6000 g ∧ a ≠ b ∧ w a = 4 ∧ w b = 4)
def MIn (h : xH) (w : Nat → Nat) (A : AS) : Prop := MIb h ∧ MH h 64 (zH A) ∧ MIs h (zS A) ∧ MTp h (zT A) ∧ MIr h (zR A) ∧ MIk h w (zK A) ∧ MIy h w ∧ MIq h w ∧ MIw h w ∧ ∀ a, a < 100 → w a = 0
def mAd (w : Nat → Nat) (a : Nat) : Prop := (64 ≤ a ∧ a < 100) ∨ w a ≠ 0
def FrR (w : Nat → Nat) (h h' : xH) : Prop := Fr (fun a _ => mAd w a) (fun a => mAd w a) h h'
section MIn
variable {h h' : xH} {w : Nat → Nat} {A : AS} {F : Nat → Nat → Prop} {P : Nat → Prop}
theorem MIb.fr (q : MIb h) (f : Fr F P h h') (hF : ∀ k, (k < 6 ∨ k = 8) → ¬ F 64 k) : MIb h' := fun k hk => f.1 _ _ _ _ (hF k hk) (q k hk)
theorem MSA.fr {f0 f1 f2 f5 : Nat → Int32} {g : Nat → Nat → Int64} (q : MSA h f0 f1 f2 f5 g) (f : Fr F P h h') (hP : ∀ a, 65 ≤ a → a < 79 → ¬ P a) : MSA h' f0 f1 f2 f5 g := by
  obtain ⟨q1, q2, q3, q4, ⟨fo, q5, q6⟩, q7, gv, q8⟩ := q
  exact ⟨f.2 _ _ (hP _ (by omega) (by omega)) q1, f.2 _ _ (hP _ (by omega) (by omega)) q2, f.2 _ _ (hP _ (by omega) (by omega)) q3, f.2 _ _ (hP _ (by omega) (by omega)) q4, ⟨fo, f.2 _ _ (hP _ (by omega) (by omega)) q5, q6⟩, fun j hj => f.2 _ _ (hP _ (by omega) (by omega)) (q7 j hj), gv, f.2 _ _ (hP _ (by omega) (by omega)) q8⟩
theorem MIs.fr {S : Nat → SH} (q : MIs h S) (f : Fr F P h h') (hP : ∀ a, 65 ≤ a → a < 79 → ¬ P a) : MIs h' S := by
  obtain ⟨f0, f1, f2, f5, g, q1, q2⟩ := q
  exact ⟨f0, f1, f2, f5, g, q1.fr f hP, q2⟩
theorem MTp.fr {t : TP} (q : MTp h t) (f : Fr F P h h') (hF : ∀ k, (k = 6 ∨ k = 25 ∨ k = 7 ∨ (20 ≤ k ∧ k < 25) ∨ k = 26) → ¬ F 64 k) (hP : ¬ P 79 ∧ ¬ P 97) : MTp h' t := by
  obtain ⟨v, fb, ft, ⟨q1, q2, q3, q4, q5⟩, q6⟩ := q
  exact ⟨v, fb, ft, ⟨f.1 _ _ _ _ (hF _ (by omega)) q1, f.1 _ _ _ _ (hF _ (by omega)) q2, fun k hk => f.1 _ _ _ _ (hF _ (by omega)) (q3 k hk), f.2 _ _ hP.1 q4, f.2 _ _ hP.2 q5⟩, q6⟩
theorem MIr.fr {r : Nat → Int32} (q : MIr h r) (f : Fr F P h h') (hP : ¬ P 80) : MIr h' r := by
  obtain ⟨fr, q1, q2⟩ := q
  exact ⟨fr, f.2 _ _ hP q1, q2⟩
theorem MIk.fr {K : Option HS} (q : MIk h w K) (f : Fr F P h h') (h18 : ¬ F 64 18) (hF : ∀ a k, w a = 1 → ¬ F a k) (hP : ∀ a, w a = 1 → ¬ P a) : MIk h' w K := by
  cases K with
  | none => exact ⟨f.1 _ _ _ _ h18 q.1, q.2⟩
  | some H =>
    obtain ⟨o, q1, q2, q3⟩ := q
    exact ⟨o, f.1 _ _ _ _ h18 q1, q2.fr f (fun k _ _ => hF _ _ (q3 _ (Or.inl rfl))) (fun a z1 z2 => hP _ (q3 _ (Or.inr ⟨z1, z2⟩))), q3⟩
theorem MIy.fr (q : MIy h w) (f : Fr F P h h') (h19 : ¬ F 64 19) (hF : ∀ a k, w a = 2 → ¬ F a k) (hP : ∀ a, w a = 2 → ¬ P a) : MIy h' w := by
  rcases q with q | ⟨o, T, q1, q2, q3⟩
  · exact Or.inl ⟨f.1 _ _ _ _ h19 q.1, q.2⟩
  · exact Or.inr ⟨o, T, f.1 _ _ _ _ h19 q1, q2.fr f (fun k _ _ => hF _ _ (q3 _ (Or.inl rfl))) (fun a z1 z2 => hP _ (q3 _ (Or.inr ⟨z1, z2⟩))), q3⟩
theorem MIq.fr (q : MIq h w) (f : Fr F P h h') (hF : ∀ k, 27 ≤ k → k < 34 → ¬ F 64 k) (hP : ¬ P 98 ∧ ¬ P 99) (hw : ∀ a, w a = 3 → ¬ P a) : MIq h' w := by
  obtain ⟨q1, q2, ⟨x30, em, x33, q3, q4, q5⟩, ⟨fg, fe, q6, q7⟩, q8⟩ := q
  refine ⟨f.1 _ _ _ _ (hF _ (by omega) (by omega)) q1, f.1 _ _ _ _ (hF _ (by omega) (by omega)) q2, ⟨x30, em, x33, f.1 _ _ _ _ (hF _ (by omega) (by omega)) q3, f.1 _ _ _ _ (hF _ (by omega) (by omega)) q4, f.1 _ _ _ _ (hF _ (by omega) (by omega)) q5⟩, ⟨fg, fe, f.2 _ _ hP.1 q6, f.2 _ _ hP.2 q7⟩, ?_⟩
  rcases q8 with ⟨a1, a2, an⟩ | ⟨af, ab, fF, fB, a1, a2, a3, a4, a5, a6, a7⟩
  · exact Or.inl ⟨f.1 _ _ _ _ (hF _ (by omega) (by omega)) a1, f.1 _ _ _ _ (hF _ (by omega) (by omega)) a2, an⟩
  · exact Or.inr ⟨af, ab, fF, fB, f.1 _ _ _ _ (hF _ (by omega) (by omega)) a1, f.1 _ _ _ _ (hF _ (by omega) (by omega)) a2, f.2 _ _ (hw _ a6) a3, f.2 _ _ (hw _ a7) a4, a5, a6, a7⟩
theorem MIw.fr (q : MIw h w) (f : Fr F P h h') (hF : ∀ k, 34 ≤ k → k < 40 → ¬ F 64 k) (hw : ∀ a, w a = 4 → ¬ P a) : MIw h' w := by
  obtain ⟨⟨u, q1⟩, q2⟩ := q
  refine ⟨⟨u, fun k h1 h2 => f.1 _ _ _ _ (hF _ (by omega) (by omega)) (q1 k h1 h2)⟩, ?_⟩
  rcases q2 with ⟨a1, a2, an⟩ | ⟨a, b, f1, g1, a1, a2, a3, a4, a5, a6, a7⟩
  · exact Or.inl ⟨f.1 _ _ _ _ (hF _ (by omega) (by omega)) a1, f.1 _ _ _ _ (hF _ (by omega) (by omega)) a2, an⟩
  · exact Or.inr ⟨a, b, f1, g1, f.1 _ _ _ _ (hF _ (by omega) (by omega)) a1, f.1 _ _ _ _ (hF _ (by omega) (by omega)) a2, f.2 _ _ (hw _ a6) a3, f.2 _ _ (hw _ a7) a4, a5, a6, a7⟩
theorem MIn.col (q : MIn h w A) : ∀ a, a < 100 → w a = 0 := q.2.2.2.2.2.2.2.2.2
theorem w_ne {i a b : Nat} (c : ∀ a, a < 100 → w a = 0) (hi : 0 < i) (e : w a = i) (hb : b < 100) : a ≠ b := fun z => by
  have := c b hb
  rw [← z, e] at this
  omega
/-- the house -/
theorem MIn.now {H : HS} (q : MIn h w A) (qh : MH h' 64 H) (f : FrH 64 h h') : MIn h' w (setH A H) ∧ FrR w h h' := by
  have c := q.col
  have g : ∀ {i a : Nat}, 0 < i → w a = i → 100 ≤ a := fun hi e => by
    apply Classical.byContradiction
    intro z
    have := c _ (Nat.lt_of_not_le z)
    omega
  obtain ⟨q0, q1, q2, q3, q4, q5, q6, q7, q8, q9⟩ := q
  exact ⟨⟨q0.fr f (fun _ _ z => by omega), qh, q2.fr f (fun _ _ _ z => by omega), q3.fr f (fun _ _ z => by omega) ⟨fun z => by omega, fun z => by omega⟩, q4.fr f (fun z => by omega), q5.fr f (fun z => by omega) (fun _ _ e z => by have := g (by decide) e; omega) (fun _ e z => by have := g (by decide) e; omega), q6.fr f (fun z => by omega) (fun _ _ e z => by have := g (by decide) e; omega) (fun _ e z => by have := g (by decide) e; omega), q7.fr f (fun _ _ _ z => by omega) ⟨fun z => by omega, fun z => by omega⟩ (fun _ e z => by have := g (by decide) e; omega), q8.fr f (fun _ _ _ z => by omega) (fun _ e z => by have := g (by decide) e; omega), q9⟩, Fr.mono f (fun a _ z => Or.inl (by omega)) (fun a z => Or.inl (by omega))⟩
/-- refusals -/
theorem MIn.refs {r : Nat → Int32} (q : MIn h w A) (qr : MIr h' r) (f : Fr (fun _ _ => False) (fun y => y = 80) h h') : MIn h' w (setR A r) ∧ FrR w h h' := by
  have c := q.col
  have g : ∀ {i a : Nat}, 0 < i → w a = i → 100 ≤ a := fun hi e => by
    apply Classical.byContradiction
    intro z
    have := c _ (Nat.lt_of_not_le z)
    omega
  obtain ⟨q0, q1, q2, q3, q4, q5, q6, q7, q8, q9⟩ := q
  exact ⟨⟨q0.fr f (fun _ _ z => z), q1.fr f (fun _ _ _ z => z) (fun _ _ _ z => by omega), q2.fr f (fun _ _ _ z => by omega), q3.fr f (fun _ _ z => z) ⟨fun z => by omega, fun z => by omega⟩, qr, q5.fr f (fun z => z) (fun _ _ e z => z) (fun _ e z => by have := g (by decide) e; omega), q6.fr f (fun z => z) (fun _ _ e z => z) (fun _ e z => by have := g (by decide) e; omega), q7.fr f (fun _ _ _ z => z) ⟨fun z => by omega, fun z => by omega⟩ (fun _ e z => by have := g (by decide) e; omega), q8.fr f (fun _ _ _ z => z) (fun _ e z => by have := g (by decide) e; omega), q9⟩, Fr.mono f (fun a _ z => z.elim) (fun a z => Or.inl (by omega))⟩
/-- shelves -/
theorem MIn.shelf {j : Nat} {s : SH} (q : MIn h w A) (qs : MIs h' (fun i => if i = j then s else zS A i)) (f : Fr (fun _ _ => False) (fun y => 65 ≤ y ∧ y < 79) h h') : MIn h' w (setS A j s) ∧ FrR w h h' := by
  have c := q.col
  have g : ∀ {i a : Nat}, 0 < i → w a = i → 100 ≤ a := fun hi e => by
    apply Classical.byContradiction
    intro z
    have := c _ (Nat.lt_of_not_le z)
    omega
  obtain ⟨q0, q1, q2, q3, q4, q5, q6, q7, q8, q9⟩ := q
  exact ⟨⟨q0.fr f (fun _ _ z => z), q1.fr f (fun _ _ _ z => z) (fun _ _ _ z => by omega), qs, q3.fr f (fun _ _ z => z) ⟨fun z => by omega, fun z => by omega⟩, q4.fr f (fun z => by omega), q5.fr f (fun z => z) (fun _ _ e z => z) (fun _ e z => by have := g (by decide) e; omega), q6.fr f (fun z => z) (fun _ _ e z => z) (fun _ e z => by have := g (by decide) e; omega), q7.fr f (fun _ _ _ z => z) ⟨fun z => by omega, fun z => by omega⟩ (fun _ e z => by have := g (by decide) e; omega), q8.fr f (fun _ _ _ z => z) (fun _ e z => by have := g (by decide) e; omega), q9⟩, Fr.mono f (fun a _ z => z.elim) (fun a z => Or.inl (by omega))⟩
/-- house and tape -/
theorem MIn.tape {t : TP} {H : HS} (q : MIn h w A) (qh : MH h' 64 H) (qt : MTp h' t) (f : FrNH 64 h h') : MIn h' w (setH (setT A t) H) ∧ FrR w h h' := by
  have c := q.col
  have g : ∀ {i a : Nat}, 0 < i → w a = i → 100 ≤ a := fun hi e => by
    apply Classical.byContradiction
    intro z
    have := c _ (Nat.lt_of_not_le z)
    omega
  obtain ⟨q0, q1, q2, q3, q4, q5, q6, q7, q8, q9⟩ := q
  exact ⟨⟨q0.fr f (fun _ _ z => by omega), qh, q2.fr f (fun _ _ _ z => by omega), qt, q4.fr f (fun z => by omega), q5.fr f (fun z => by omega) (fun _ _ e z => by have := g (by decide) e; omega) (fun _ e z => by have := g (by decide) e; omega), q6.fr f (fun z => by omega) (fun _ _ e z => by have := g (by decide) e; omega) (fun _ e z => by have := g (by decide) e; omega), q7.fr f (fun _ _ _ z => by omega) ⟨fun z => by omega, fun z => by omega⟩ (fun _ e z => by have := g (by decide) e; omega), q8.fr f (fun _ _ _ z => by omega) (fun _ e z => by have := g (by decide) e; omega), q9⟩, Fr.mono f (fun a _ z => Or.inl (by omega)) (fun a z => Or.inl (by omega))⟩
theorem MIn.H (q : MIn h w A) : MH h 64 (zH A) := q.2.1
theorem MIn.ob (q : MIn h w A) : x_ob h 64 7 = some () := q.2.1.ob
theorem MIn.g (q : MIn h w A) {k : Nat} (hk : k < 6 ∨ k = 8) : x_gR h 64 7 k = some (refM k) := g_R (q.1 k hk)
/-- a step of the reference's side -/
def MSt (h : xH) (w : Nat → Nat) (X : Option (Int32 × xH)) (r : Int32) (A' : AS) : Prop := ∃ h', X = some (r, h') ∧ MIn h' w A' ∧ FrR w h h'
theorem MSt.here {X : Option (Int32 × xH)} {r : Int32} (q : MIn h w A) (e : X = some (r, h)) : MSt h w X r A := ⟨h, e, q, Fr.rfl⟩
theorem m_refuse (q : MIn h w A) {i : Nat} (hi : i < 5) {p : Int32} (hp : -p = nI (2 + i)) : MSt h w ((x_ob h 64 7).bind fun _ => (f_X7_refuse h 64 p).bind fun q3 => some (q3.1, q3.2)) p (ref1 A i) := by
  obtain ⟨fr, q1, q2⟩ := q.2.2.2.2.1
  obtain ⟨h1, e1, a1, f1⟩ := w_st q1 (j := 2 + i) (by omega) (by decide) (fr (2 + i) + 1)
  obtain ⟨c1, c2⟩ := q.refs (r := upd (zR A) i (zR A i + 1)) ⟨_, a1, fun k hk => by
    by_cases e : k = i
    · rw [e, pk_us, pk_us, q2 i hi]
    · rw [pk_un (by omega), pk_un e, q2 k hk]⟩ f1
  refine ⟨h1, ?_, c1, c2⟩
  unfold f_X7_refuse
  rw [q.ob, Option.bind_some, show x_gR h 64 7 8 = some 80 from q.g (k := 8) (by omega), Option.bind_some, hp, At.ld q1 (by omega) (by decide), Option.bind_some, e1, Option.bind_some, Option.bind_some]
end MIn
/-- both sides -/
def JJ (h : xH) (D : DS) (w : Nat → Nat) (A : AS) : Prop := CI h D A ∧ MIn h w A ∧ (w (dp D) = 0 ∧ w (ds D) = 0 ∧ w (dq D) = 0) ∧ AOk A
