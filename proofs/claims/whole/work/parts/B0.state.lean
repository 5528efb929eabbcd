/-! The state of both, and the class's side of it. -/
abbrev SH : Type := Int32 × Int32 × (Nat → Int64)
def SHk (s : SH) : Prop := (s.1 = -1 ∧ s.2.1 = 0) ∨ (∃ k z, k < 5 ∧ z ≤ 40 ∧ s.1 = nI k ∧ s.2.1 = nI z) ∨ ∃ d, d < 14 ∧ s.1 = nI (10 + d) ∧ s.2.1 = 0
abbrev AS : Type := HS × Option HS × (Nat → SH) × (Nat → Int32) × TP
def zH (A : AS) : HS := A.1
def zK (A : AS) : Option HS := A.2.1
def zS (A : AS) : Nat → SH := A.2.2.1
def zR (A : AS) : Nat → Int32 := A.2.2.2.1
def zT (A : AS) : TP := A.2.2.2.2
def setH (A : AS) (H : HS) : AS := (H, zK A, zS A, zR A, zT A)
def setK (A : AS) (K : HS) : AS := (zH A, some K, zS A, zR A, zT A)
def setS (A : AS) (j : Nat) (s : SH) : AS := (zH A, zK A, (fun i => if i = j then s else zS A i), zR A, zT A)
def setR (A : AS) (f : Nat → Int32) : AS := (zH A, zK A, zS A, f, zT A)
def setT (A : AS) (t : TP) : AS := (zH A, zK A, zS A, zR A, t)
def AOk (A : AS) : Prop := HOk (zH A) ∧ (∀ K, zK A = some K → HOk K) ∧ (∀ j, j < 8 → SHk (zS A j)) ∧ TOk (zT A) ∧ ∀ j, j < 8 → ∀ d, d < 14 → (zS A j).1 = nI (10 + d) → d < hD (zH A)
/-- refusal number i+2 -/
def ref1 (A : AS) (i : Nat) : AS := setR A (upd (zR A) i (zR A i + 1))
/-- where the class's search keeps its arrays: ap as aq, their lengths, stamp, base -/
abbrev DS : Type := Nat × Nat × Nat × Nat × Nat × Nat × Nat
def dp (D : DS) : Nat := D.1
def ds (D : DS) : Nat := D.2.1
def dq (D : DS) : Nat := D.2.2.1
def fixd (a : Nat) : Prop := (16 ≤ a ∧ a < 42) ∨ (45 ≤ a ∧ a < 100)
def DOk (D : DS) : Prop := ¬ fixd (dp D) ∧ ¬ fixd (ds D) ∧ ¬ fixd (dq D)
def cAd (D : DS) (a : Nat) : Prop := (16 ≤ a ∧ a < 42) ∨ (45 ≤ a ∧ a < 64) ∨ a = dp D ∨ a = ds D ∨ a = dq D
def FrC (D : DS) (h h' : xH) : Prop := Fr (fun a _ => cAd D a) (fun a => cAd D a) h h'
def cf (A : AS) (k : Nat) : Value := match k with
  | 0 => .ref 17
  | 1 => .ref 22
  | 2 => .ref 27
  | 3 => .int (bI (zK A).isSome)
  | 4 => .ref 32
  | 5 => .ref 33
  | 6 => .ref 35
  | 7 => .ref 45
  | _ => .ref 47
def CB (h : xH) (A : AS) : Prop := ∀ k, k < 9 → x_get h 16 6 k = some (cf A k)
def CS1 (h : xH) (j : Nat) (s : SH) : Prop := x_get h (48 + 2 * j) 4 0 = some (.int s.1) ∧ x_get h (48 + 2 * j) 4 1 = some (.int s.2.1) ∧ x_get h (48 + 2 * j) 4 2 = some (.ref (49 + 2 * j)) ∧ ∃ f, AtL h (49 + 2 * j) 40 f ∧ ((∃ k, k < 5 ∧ s.1 = nI k) → ∀ i, i < 40 → f i = s.2.2 i)
def CS (h : xH) (S : Nat → SH) : Prop := (∃ fo, AtQ h 32 8 (.object "WhoOpensOne$Shelf") fo ∧ ∀ j, j < 8 → fo j = some (48 + 2 * j)) ∧ ∀ j, j < 8 → CS1 h j (S j)
def CT (h : xH) (t : TP) : Prop := ∃ v fb, TAt h 33 v fb ∧ v 1 = nI t.1 ∧ TB t fb
def CK (h : xH) (K : Option HS) : Prop := ∃ K', HAt h 27 K' ∧ ∀ x, K = some x → K' = x
def CL (h : xH) : Prop := ∃ v fb, LAt h 45 46 v fb
def CQ (h : xH) (D : DS) : Prop := ∃ v fg, SG h 35 (dp D) (ds D) (dq D) D.2.2.2.1 D.2.2.2.2.1 D.2.2.2.2.2.1 D.2.2.2.2.2.2 v fg
def CI (h : xH) (D : DS) (A : AS) : Prop := CB h A ∧ HAt h 17 (zH A) ∧ (∃ T, HAt h 22 T) ∧ CK h (zK A) ∧ CS h (zS A) ∧ CT h (zT A) ∧ CQ h D ∧ CL h ∧ At h 47 5 (zR A) ∧ DOk D
section CI
variable {h h' : xH} {D : DS} {A : AS} {F : Nat → Nat → Prop} {P : Nat → Prop}
theorem CB.fr (q : CB h A) (f : Fr F P h h') (hF : ∀ k, ¬ F 16 k) : CB h' A := fun k hk => f.1 _ _ _ _ (hF k) (q k hk)
theorem CS1.fr {j : Nat} {s : SH} (q : CS1 h j s) (f : Fr F P h h') (hF : ∀ k, ¬ F (48 + 2 * j) k) (hP : ¬ P (49 + 2 * j)) : CS1 h' j s := by
  obtain ⟨q1, q2, q3, g, q4, q5⟩ := q
  exact ⟨f.1 _ _ _ _ (hF _) q1, f.1 _ _ _ _ (hF _) q2, f.1 _ _ _ _ (hF _) q3, g, f.2 _ _ hP q4, q5⟩
theorem CS.fr {S : Nat → SH} (q : CS h S) (f : Fr F P h h') (hF : ∀ a k, 48 ≤ a → a < 64 → ¬ F a k) (hP : ∀ a, (a = 32 ∨ (48 ≤ a ∧ a < 64)) → ¬ P a) : CS h' S := by
  obtain ⟨⟨fo, q1, q2⟩, q3⟩ := q
  exact ⟨⟨fo, f.2 _ _ (hP _ (Or.inl rfl)) q1, q2⟩, fun j hj => (q3 j hj).fr f (fun k => hF _ _ (by omega) (by omega)) (hP _ (by omega))⟩
theorem CT.fr {t : TP} (q : CT h t) (f : Fr F P h h') (hF : ∀ k, ¬ F 33 k) (hP : ¬ P 34) : CT h' t := by
  obtain ⟨v, fb, ⟨q1, q2, q3⟩, q4⟩ := q
  exact ⟨v, fb, ⟨f.1 _ _ _ _ (hF _) q1, fun k h1 h2 => f.1 _ _ _ _ (hF _) (q2 k h1 h2), f.2 _ _ hP q3⟩, q4⟩
theorem CK.fr {K : Option HS} (q : CK h K) (f : Fr F P h h') (hF : ∀ k, ¬ F 27 k) (hP : ∀ a, 27 < a → a < 32 → ¬ P a) : CK h' K := by
  obtain ⟨K', q1, q2⟩ := q
  exact ⟨K', q1.fr f hF hP, q2⟩
theorem CL.fr (q : CL h) (f : Fr F P h h') (hF : ∀ k, ¬ F 45 k) (hP : ¬ P 46) : CL h' := by
  obtain ⟨v, fb, q1, q2, q3⟩ := q
  exact ⟨v, fb, f.1 _ _ _ _ (hF _) q1, fun k h1 h2 => f.1 _ _ _ _ (hF _) (q2 k h1 h2), f.2 _ _ hP q3⟩
theorem CQ.fr (q : CQ h D) (f : Fr F P h h') (hF : ∀ k, ¬ F 35 k ∧ ¬ F 37 k) (hP : ∀ a, (35 ≤ a ∧ a < 42) → ¬ P a) (h1 : ¬ P (dp D)) (h2 : ¬ P (ds D)) (h3 : ¬ P (dq D)) : CQ h' D := by
  obtain ⟨v, fg, w, fA, fp, fs, fq, q1, q2, q3, q4, q5⟩ := q
  exact ⟨v, fg, w, fA, fp, fs, fq, q1.fr f (fun k => (hF k).2) (fun a z1 z2 => hP a (by omega)) h1, q2, q3, q4.fr f (fun k => (hF k).1) (hP _ (by omega)) h2 h3, q5⟩
theorem CI.dn (q : CI h D A) : (¬ fixd (dp D) ∧ ¬ fixd (ds D) ∧ ¬ fixd (dq D)) := q.2.2.2.2.2.2.2.2.2
/-- the house now -/
theorem CI.now {H : HS} (q : CI h D A) (qh : HAt h' 17 H) (f : FrB 17 5 h h') : CI h' D (setH A H) ∧ FrC D h h' := by
  have dn := q.dn
  unfold fixd at dn
  obtain ⟨q0, q1, ⟨T, q2⟩, q3, q4, q5, q6, q7, q8, q9⟩ := q
  refine ⟨⟨fun k hk => ?_, qh, ⟨T, q2.fr f (fun _ z => by omega) (fun _ _ _ z => by omega)⟩, q3.fr f (fun _ z => by omega) (fun _ _ _ z => by omega), q4.fr f (fun _ _ _ _ z => by omega) (fun _ _ z => by omega), q5.fr f (fun _ z => by omega) (fun z => by omega), q6.fr f (fun _ => ⟨fun z => by omega, fun z => by omega⟩) (fun _ _ z => by omega) (fun z => by omega) (fun z => by omega) (fun z => by omega), q7.fr f (fun _ z => by omega) (fun z => by omega), f.2 _ _ (fun z => by omega) q8, q9⟩, Fr.mono f (fun a _ z => Or.inl (by omega)) (fun a z => Or.inl (by omega))⟩
  have := q0.fr f (fun _ z => by omega) k hk
  exact this
/-- the trial house -/
theorem CI.trial {H : HS} (q : CI h D A) (qh : HAt h' 22 H) (f : FrB 22 5 h h') : CI h' D A ∧ FrC D h h' := by
  have dn := q.dn
  unfold fixd at dn
  obtain ⟨q0, q1, ⟨T, q2⟩, q3, q4, q5, q6, q7, q8, q9⟩ := q
  exact ⟨⟨q0.fr f (fun _ z => by omega), q1.fr f (fun _ z => by omega) (fun _ _ _ z => by omega), ⟨H, qh⟩, q3.fr f (fun _ z => by omega) (fun _ _ _ z => by omega), q4.fr f (fun _ _ _ _ z => by omega) (fun _ _ z => by omega), q5.fr f (fun _ z => by omega) (fun z => by omega), q6.fr f (fun _ => ⟨fun z => by omega, fun z => by omega⟩) (fun _ _ z => by omega) (fun z => by omega) (fun z => by omega) (fun z => by omega), q7.fr f (fun _ z => by omega) (fun z => by omega), f.2 _ _ (fun z => by omega) q8, q9⟩, Fr.mono f (fun a _ z => Or.inl (by omega)) (fun a z => Or.inl (by omega))⟩
/-- refusals -/
theorem CI.refs {g : Nat → Int32} (q : CI h D A) (qh : At h' 47 5 g) (f : Fr (fun _ _ => False) (fun y => y = 47) h h') : CI h' D (setR A g) ∧ FrC D h h' := by
  have dn := q.dn
  unfold fixd at dn
  obtain ⟨q0, q1, ⟨T, q2⟩, q3, q4, q5, q6, q7, q8, q9⟩ := q
  exact ⟨⟨q0.fr f (fun _ z => z), q1.fr f (fun _ z => z) (fun _ _ _ z => by omega), ⟨T, q2.fr f (fun _ z => z) (fun _ _ _ z => by omega)⟩, q3.fr f (fun _ z => z) (fun _ _ _ z => by omega), q4.fr f (fun _ _ _ _ z => z) (fun _ _ z => by omega), q5.fr f (fun _ z => z) (fun z => by omega), q6.fr f (fun _ => ⟨fun z => z, fun z => z⟩) (fun _ _ z => by omega) (fun z => by omega) (fun z => by omega) (fun z => by omega), q7.fr f (fun _ z => z) (fun z => by omega), qh, q9⟩, Fr.mono f (fun a _ z => z.elim) (fun a z => Or.inr (Or.inl (by omega)))⟩
/-- one shelf -/
theorem CI.shelf {j : Nat} {s : SH} (q : CI h D A) (hj : j < 8) (qs : CS1 h' j s) (f : Fr (fun a _ => a = 48 + 2 * j) (fun y => y = 49 + 2 * j) h h') : CI h' D (setS A j s) ∧ FrC D h h' := by
  have dn := q.dn
  unfold fixd at dn
  obtain ⟨q0, q1, ⟨T, q2⟩, q3, ⟨⟨fo, q4, q4b⟩, q4c⟩, q5, q6, q7, q8, q9⟩ := q
  refine ⟨⟨fun k hk => ?_, q1.fr f (fun _ z => by omega) (fun _ _ _ z => by omega), ⟨T, q2.fr f (fun _ z => by omega) (fun _ _ _ z => by omega)⟩, q3.fr f (fun _ z => by omega) (fun _ _ _ z => by omega), ⟨⟨fo, f.2 _ _ (fun z => by omega) q4, q4b⟩, fun i hi => ?_⟩, q5.fr f (fun _ z => by omega) (fun z => by omega), q6.fr f (fun _ => ⟨fun z => by omega, fun z => by omega⟩) (fun _ _ z => by omega) (fun z => by omega) (fun z => by omega) (fun z => by omega), q7.fr f (fun _ z => by omega) (fun z => by omega), f.2 _ _ (fun z => by omega) q8, q9⟩, Fr.mono f (fun a _ z => Or.inr (Or.inl (by omega))) (fun a z => Or.inr (Or.inl (by omega)))⟩
  · exact q0.fr f (fun _ z => by omega) k hk
  · show CS1 h' i (if i = j then s else zS A i)
    by_cases e : i = j
    · rw [if_pos e, e]; exact qs
    · rw [if_neg e]
      exact (q4c i hi).fr f (fun _ z => by omega) (fun z => by omega)
/-- the tape -/
theorem CI.tape {t : TP} (q : CI h D A) (qt : CT h' t) (f : Fr (fun a _ => a = 33) (fun y => y = 34) h h') : CI h' D (setT A t) ∧ FrC D h h' := by
  have dn := q.dn
  unfold fixd at dn
  obtain ⟨q0, q1, ⟨T, q2⟩, q3, q4, q5, q6, q7, q8, q9⟩ := q
  exact ⟨⟨q0.fr f (fun _ z => by omega), q1.fr f (fun _ z => by omega) (fun _ _ _ z => by omega), ⟨T, q2.fr f (fun _ z => by omega) (fun _ _ _ z => by omega)⟩, q3.fr f (fun _ z => by omega) (fun _ _ _ z => by omega), q4.fr f (fun _ _ _ _ z => by omega) (fun _ _ z => by omega), qt, q6.fr f (fun _ => ⟨fun z => by omega, fun z => by omega⟩) (fun _ _ z => by omega) (fun z => by omega) (fun z => by omega) (fun z => by omega), q7.fr f (fun _ z => by omega) (fun z => by omega), f.2 _ _ (fun z => by omega) q8, q9⟩, Fr.mono f (fun a _ z => Or.inl (by omega)) (fun a z => Or.inl (by omega))⟩
/-- the lasting tables -/
theorem CI.last (q : CI h D A) (qt : CL h') (f : FrL 45 46 h h') : CI h' D A ∧ FrC D h h' := by
  have dn := q.dn
  unfold fixd at dn
  obtain ⟨q0, q1, ⟨T, q2⟩, q3, q4, q5, q6, q7, q8, q9⟩ := q
  exact ⟨⟨q0.fr f (fun _ z => by omega), q1.fr f (fun _ z => by omega) (fun _ _ _ z => by omega), ⟨T, q2.fr f (fun _ z => by omega) (fun _ _ _ z => by omega)⟩, q3.fr f (fun _ z => by omega) (fun _ _ _ z => by omega), q4.fr f (fun _ _ _ _ z => by omega) (fun _ _ z => by omega), q5.fr f (fun _ z => by omega) (fun z => by omega), q6.fr f (fun _ => ⟨fun z => by omega, fun z => by omega⟩) (fun _ _ z => by omega) (fun z => by omega) (fun z => by omega) (fun z => by omega), qt, f.2 _ _ (fun z => by omega) q8, q9⟩, Fr.mono f (fun a _ z => Or.inr (Or.inl (by omega))) (fun a z => Or.inr (Or.inl (by omega)))⟩
theorem CI.g0 (q : CI h D A) : x_gR h 16 6 0 = some 17 := g_R (q.1 0 (by decide))
theorem CI.g1 (q : CI h D A) : x_gR h 16 6 1 = some 22 := g_R (q.1 1 (by decide))
theorem CI.g2 (q : CI h D A) : x_gR h 16 6 2 = some 27 := g_R (q.1 2 (by decide))
theorem CI.g3 (q : CI h D A) : x_gI h 16 6 3 = some (bI (zK A).isSome) := g_I (q.1 3 (by decide))
theorem CI.g4 (q : CI h D A) : x_gR h 16 6 4 = some 32 := g_R (q.1 4 (by decide))
theorem CI.g5 (q : CI h D A) : x_gR h 16 6 5 = some 33 := g_R (q.1 5 (by decide))
theorem CI.g6 (q : CI h D A) : x_gR h 16 6 6 = some 35 := g_R (q.1 6 (by decide))
theorem CI.g7 (q : CI h D A) : x_gR h 16 6 7 = some 45 := g_R (q.1 7 (by decide))
theorem CI.g8 (q : CI h D A) : x_gR h 16 6 8 = some 47 := g_R (q.1 8 (by decide))
theorem CI.ob (q : CI h D A) : x_ob h 16 6 = some () := g_ob (q.1 0 (by decide))
theorem CI.H (q : CI h D A) : HAt h 17 (zH A) := q.2.1
/-- a step of the class's side -/
def CSt (h : xH) (D : DS) (X : Option (Int32 × xH)) (r : Int32) (A' : AS) : Prop := ∃ h', X = some (r, h') ∧ CI h' D A' ∧ FrC D h h'
theorem CSt.id {X : Option (Int32 × xH)} {r : Int32} (q : CI h D A) (e : X = some (r, h)) : CSt h D X r A := ⟨h, e, q, Fr.rfl⟩
theorem c_refuse (q : CI h D A) {i : Nat} (hi : i < 5) {p : Int32} (hp : -2 - p = nI i) : CSt h D ((x_ob h 16 6).bind fun _ => (f_X6_refuse h 16 p).bind fun q3 => some (q3.1, q3.2)) p (ref1 A i) := by
  obtain ⟨h1, e1, a1, f1⟩ := w_st q.2.2.2.2.2.2.2.2.1 hi (by decide) (zR A i + 1)
  obtain ⟨c1, c2⟩ := q.refs a1 f1
  refine ⟨h1, ?_, c1, c2⟩
  unfold f_X6_refuse
  rw [q.ob, Option.bind_some, Option.bind_some, hp, if_neg (show ¬ nI i < 0 from nI_pos (by omega)), if_neg (show ¬ (5 : Int32) ≤ nI i from nI_ge (b := 5) hi (by decide)), q.g8, Option.bind_some, At.ld q.2.2.2.2.2.2.2.2.1 hi (by decide), Option.bind_some, e1, Option.bind_some, Option.bind_some]
end CI
