/-! The reference makes: an object, tables. -/
def zI (n : Nat) : xE := .inl (.int, n, .inl (fun _ => 0))
def zL (n : Nat) : xE := .inl (.long, n, .inr (.inl (fun _ => 0)))
def nul7 : List Value := [.null, .null, .null, .null, .null, .null, .null, .int 0, .null, .int 0, .null, .int 0, .int 0, .null, .int 0, .int 0, .int 0, .int 0, .null, .null, .int 0, .int 0, .int 0, .int 0, .int 0, .null, .int 0, .null, .null, .null, .int 0, .null, .int 0, .int 0, .null, .null, .int 0, .int 0, .int 0, .int 0]
def mFl (m : Nat) : List Value := [.ref (m + 1), .ref (m + 2), .ref (m + 3), .ref (m + 4), .ref (m + 13), .ref (m + 14), .ref (m + 15), .int 0, .ref (m + 16), .int 0, .ref (m + 17), .int 0, .int 0, .ref (m + 32), .int 2, .int 0, .int 0, .int 1, .null, .null, .int 0, .int 0, .int 0, .int 0, .int 0, .ref (m + 33), .int 0, .null, .null, .ref (m + 34), .int 0, .ref (m + 35), .int 0, .int 0, .null, .null, .int 0, .int 0, .int 0, .int 0]
def rwE (m : Nat) : xE := .inl (.array .long, 8, .inr (.inr (.inr (.inr (fun i => if i < 8 then some (m + 5 + i) else none)))))
def drE (m : Nat) : xE := .inl (.array .int, 14, .inr (.inr (.inr (.inr (fun i => if i < 14 then some (m + 18 + i) else none)))))
def mCl (m : Nat) : xH := [zI 8, zI 8, zI 8, rwE m, zL 40, zL 40, zL 40, zL 40, zL 40, zL 40, zL 40, zL 40, zL 40, zI 8, zI 250, zI 8, drE m, zI 3, zI 3, zI 3, zI 3, zI 3, zI 3, zI 3, zI 3, zI 3, zI 3, zI 3, zI 3, zI 3, zI 3, zI 4, zI 3, zI 4, zI 512]
def new7 (m : Nat) : xH := .inr (7, mFl m) :: mCl m
section Mk
variable {h h' g g' : xH} {w w' : Nat → Nat} {A : AS} {D : DS} {F : Nat → Nat → Prop} {P : Nat → Prop} {n : Nat}
theorem at_old {L : xH} {a : Nat} {e : xE} (q : x_at h a = some e) : x_at (h ++ L) a = some e := by
  obtain ⟨h1, h2⟩ := x_at.spec q
  unfold x_at
  rw [if_neg (by omega), List.getElem?_append_left (by rw [List.getElem?_eq_some_iff] at h2; exact h2.1)]
  exact h2
theorem at_new {L : xH} {j : Nat} {e : xE} (q : L[j]? = some e) : x_at (h ++ L) (h.length + 16 + j) = some e := by
  unfold x_at
  rw [if_neg (by omega), List.getElem?_append_right (by omega), show h.length + 16 + j - 16 - h.length = j by omega]
  exact q
theorem fr_app {L : xH} : Fr F P h (h ++ L) := ⟨fun a ci k v _ q => by
    obtain ⟨fs, e1, e2⟩ := g_at q
    exact Ob.get (fs := fs) (at_old e1) e2, fun a e _ q => at_old q⟩
theorem put7 {L : xH} {fs : List Value} {k : Nat} {v : Value} (hf : fs.length = 40) (hk : k < 40) : x_put (h ++ (.inr (7, fs) :: L)) (h.length + 16) 7 k v = some (h ++ (.inr (7, fs.set k v) :: L)) := by
  have e : x_at (h ++ (.inr (7, fs) :: L)) (h.length + 16) = some (.inr (7, fs)) := at_new (j := 0) rfl
  unfold x_put
  rw [e]
  simp only [hf, hk, and_self, if_true]
  rw [show h.length + 16 - 16 = h.length by omega]
  simp
theorem set7 {fs : List Value} {k : Nat} {v : Value} (hf : fs.length = 40) : (fs.set k v).length = 40 := by rw [List.length_set]; exact hf
theorem mnL7 {L : xH} {o : xE} (hl : L.length = 3) : x_mnL (h ++ (o :: L)) 8 40 = h ++ (o :: (L ++ (rwE (h.length + 16) :: List.replicate 8 (zL 40)))) := by
  unfold x_mnL rwE zL
  rw [List.append_assoc, List.append_assoc]
  simp only [List.length_append, List.length_cons, hl, List.cons_append, List.nil_append]
theorem mnI7 {L : xH} {o : xE} (hl : L.length = 16) : x_mnI (h ++ (o :: L)) 14 3 = h ++ (o :: (L ++ (drE (h.length + 16) :: List.replicate 14 (zI 3)))) := by
  unfold x_mnI drE zI
  rw [List.append_assoc, List.append_assoc]
  simp only [List.length_append, List.length_cons, hl, List.cons_append, List.nil_append]
theorem app7 {L : xH} {o e : xE} : (h ++ (o :: L)) ++ [e] = h ++ (o :: (L ++ [e])) := by rw [List.append_assoc, List.cons_append]
theorem len7 {L : xH} {o : xE} : (h ++ (o :: L)).length + 16 = h.length + 16 + (L.length + 1) := by rw [List.length_append, List.length_cons]; omega
theorem x7_init : f_X7_init (h ++ [.inr (7, nul7)]) (h.length + 16) = some (h ++ new7 (h.length + 16), 35, 1237) := by
  have z : nul7.length = 40 := rfl
  unfold f_X7_init
  rw [app7, put7 z (by decide), Option.bind_some, app7, len7, put7 (set7 z) (by decide), Option.bind_some, app7, len7]
  rw [put7 (set7 (set7 z)) (by decide), Option.bind_some, mnL7 rfl, len7, len7]
  have z3 : ∀ {a b c}, (((nul7.set 0 a).set 1 b).set 2 c).length = 40 := set7 (set7 (set7 z))
  rw [put7 z3 (by decide), Option.bind_some, app7, len7, put7 (set7 z3) (by decide), Option.bind_some, app7, len7, put7 (set7 (set7 z3)) (by decide), Option.bind_some, app7, len7]
  have z6 : ∀ {a b c d e f}, ((((((nul7.set 0 a).set 1 b).set 2 c).set 3 d).set 4 e).set 5 f).length = 40 := set7 (set7 (set7 z3))
  rw [put7 z6 (by decide), Option.bind_some, app7, len7, put7 (set7 z6) (by decide), Option.bind_some, mnI7 rfl, len7, put7 (set7 (set7 z6)) (by decide), Option.bind_some, app7, len7]
  have z9 : ∀ {a b c d e f g i j}, (((((((((nul7.set 0 a).set 1 b).set 2 c).set 3 d).set 4 e).set 5 f).set 6 g).set 8 i).set 10 j).length = 40 := set7 (set7 (set7 z6))
  rw [put7 z9 (by decide), Option.bind_some, put7 (set7 z9) (by decide), Option.bind_some, put7 (set7 (set7 z9)) (by decide), Option.bind_some, app7, len7]
  have z12 : ∀ {a b c d e f g i j k l o}, ((((((((((((nul7.set 0 a).set 1 b).set 2 c).set 3 d).set 4 e).set 5 f).set 6 g).set 8 i).set 10 j).set 13 k).set 14 l).set 17 o).length = 40 := set7 (set7 (set7 z9))
  rw [put7 z12 (by decide), Option.bind_some, app7, len7, put7 (set7 z12) (by decide), Option.bind_some, app7, len7, put7 (set7 (set7 z12)) (by decide), Option.bind_some]
  rfl
theorem new_get {k : Nat} {v : Value} (e : (mFl (h.length + 16))[k]? = some v) : x_get (h ++ new7 (h.length + 16)) (h.length + 16) 7 k = some v := Ob.get (at_new (j := 0) rfl) e
theorem new_at {j : Nat} {e : FieldType × vp_A} (q : (mCl (h.length + 16))[j]? = some (.inl e)) : x_at (h ++ new7 (h.length + 16)) (h.length + 16 + 1 + j) = some (.inl e) := by
  rw [show h.length + 16 + 1 + j = h.length + 16 + (j + 1) by omega]
  exact at_new q
def H00 : HS := (0, 0, 0, 2, 0, 1, 0, fun _ => 0, fun _ => 0, fun _ => 0, fun _ => 0)
theorem new_MH : MH (h ++ new7 (h.length + 16)) (h.length + 16) H00 := by
  refine ⟨fun k h9 h18 => ?_, ⟨_, new_at (j := 16) rfl, fun j hj => if_pos hj⟩, fun _ _ => 0, fun _ => 0, fun j hj => ?_, new_at (j := 31) rfl, fun j hj => absurd hj (Nat.not_lt_zero _), fun j hj => absurd hj (Nat.not_lt_zero _)⟩
  · rcases (show k = 9 ∨ k = 10 ∨ k = 11 ∨ k = 12 ∨ k = 13 ∨ k = 14 ∨ k = 15 ∨ k = 16 ∨ k = 17 by omega) with rfl | rfl | rfl | rfl | rfl | rfl | rfl | rfl | rfl <;> exact new_get rfl
  · rw [show h.length + 16 + 18 + j = h.length + 16 + 1 + (17 + j) by omega]
    refine new_at ?_
    rcases (show j = 0 ∨ j = 1 ∨ j = 2 ∨ j = 3 ∨ j = 4 ∨ j = 5 ∨ j = 6 ∨ j = 7 ∨ j = 8 ∨ j = 9 ∨ j = 10 ∨ j = 11 ∨ j = 12 ∨ j = 13 by omega) with rfl | rfl | rfl | rfl | rfl | rfl | rfl | rfl | rfl | rfl | rfl | rfl | rfl | rfl <;> rfl
/-- colour of a range -/
def col (w : Nat → Nat) (lo hi i : Nat) (a : Nat) : Nat := if lo ≤ a ∧ a < hi then i else w a
theorem col_in {lo hi i a : Nat} (h1 : lo ≤ a) (h2 : a < hi) : col w lo hi i a = i := if_pos ⟨h1, h2⟩
theorem col_lv {hi i a : Nat} (l : Lv g a) : col w (g.length + 16) hi i a = w a := if_neg fun z => by have := l.lt; omega
theorem col_up (nz : Nz g w) {hi i a : Nat} (e : w a ≠ 0) : col w (g.length + 16) hi i a = w a := col_lv (nz a e)
theorem col_ne {lo hi i j : Nat} (hj : i ≠ j) (e : ∀ a, w a ≠ j) (a : Nat) : col w lo hi i a ≠ j := by
  unfold col
  split
  · exact hj
  · exact e a
theorem col_lo {lo hi i a : Nat} (c : ∀ a, a < 100 → w a = 0) (h1 : 100 ≤ lo) (h2 : a < 100) : col w lo hi i a = 0 := by
  unfold col
  rw [if_neg (by omega)]
  exact c a h2
theorem MIn.b5 (q : MIn g w A) (f : Fr (fun a k => a = 64 ∧ (k = 18 ∨ k = 19 ∨ k = 27 ∨ k = 28 ∨ k = 34 ∨ k = 35)) (fun _ => False) g g') : MIb g' ∧ MH g' 64 (zH A) ∧ MIs g' (zS A) ∧ MTp g' (zT A) ∧ MIr g' (zR A) :=
  ⟨q.1.fr f (fun _ _ z => by omega), q.2.1.fr f (fun _ _ _ z => by omega) (fun _ _ _ z => z), q.2.2.1.fr f (fun _ _ _ z => z), q.2.2.2.1.fr f (fun _ _ z => by omega) ⟨fun z => z, fun z => z⟩, q.2.2.2.2.1.fr f (fun z => z)⟩
theorem MIn.lo (q : MIn g w A) : 100 ≤ g.length + 16 := by
  obtain ⟨-, -, -, ⟨fg, fe, -, q7⟩, -⟩ := q.2.2.2.2.2.2.2.1
  have := g_lt q7
  omega
/-- what a making gives: the colours -/
theorem MX.mk {hi i : Nat} {A' : AS} (q : MIn g w A) (nz : Nz g w) (h1 : 1 ≤ i) (h4 : i ≤ 4) (e : ∀ a, w a ≠ i) (hh : g.length + 16 < hi) (m : MIn g' (col w (g.length + 16) hi i) A') (f : Fr (fun a k => a = 64 ∧ (k = 18 ∨ k = 19 ∨ k = 27 ∨ k = 28 ∨ k = 34 ∨ k = 35)) (fun _ => False) g g') : MX g w g' (col w (g.length + 16) hi i) A' (kC i) (kS i) := by
  obtain ⟨t1, t2⟩ := mCS_mk (w' := col w (g.length + 16) hi i) h1 h4 (q.grow fun a l _ => col_lv l) e ⟨g.length + 16, col_in (Nat.le_refl _) hh⟩
  exact ⟨m, Fr.mono f (fun a _ z => Or.inl (by omega)) (fun a z => z.elim), fun a z => col_up nz z, fun a l _ z => (col_lv l).trans z, t1, t2⟩
/-- tried -/
theorem MIn.big (q : MIn g w A) {i a : Nat} (hi : 0 < i) (e : w a = i) : 100 ≤ a := by
  apply Classical.byContradiction
  intro z
  have := q.col a (by omega)
  omega
theorem MIn.tryd {o : Nat} {T : HS} (q : MIn g w A) (e : x_get g 64 7 19 = some (.ref o)) (qh : MH g' o T) (c : ∀ a, cellM o a → w a = 2) (f : FrH o g g') : MIn g' w A ∧ FrR w g g' := by
  have ho : w o = 2 := c o (Or.inl rfl)
  have hc : ∀ a, o + 17 ≤ a → a < o + 33 → w a = 2 := fun a h1 h2 => c a (Or.inr ⟨h1, h2⟩)
  have o1 := q.big (by decide) ho
  have ne : ∀ {i a : Nat}, w a = i → i ≠ 2 → a ≠ o := fun e1 e2 z => e2 (by rw [← e1, z, ho])
  have nc : ∀ {i a : Nat}, w a = i → i ≠ 2 → ¬ (o + 17 ≤ a ∧ a < o + 33) := fun e1 e2 z => e2 (by rw [← e1, hc _ z.1 z.2])
  obtain ⟨q0, q1, q2, q3, q4, q5, q6, q7, q8, q9⟩ := q
  exact ⟨⟨q0.fr f (fun _ _ z => by omega), q1.fr f (fun _ _ _ z => by omega) (fun _ _ _ z => by omega), q2.fr f (fun _ _ _ z => by omega), q3.fr f (fun _ _ z => by omega) ⟨fun z => by omega, fun z => by omega⟩, q4.fr f (fun z => by omega), q5.fr f (fun z => by omega) (fun _ _ e z => ne e (by decide) z.1) (fun _ e z => nc e (by decide) z), Or.inr ⟨o, T, f.1 _ _ _ _ (fun z => by omega) e, qh, c⟩, q7.fr f (fun _ _ _ z => by omega) ⟨fun z => by omega, fun z => by omega⟩ (fun _ e z => nc e (by decide) z), q8.fr f (fun _ _ _ z => by omega) (fun _ e z => nc e (by decide) z), q9⟩, Fr.mono f (fun a _ z => Or.inr (by rw [z.1, ho]; decide)) (fun a z => Or.inr (by rw [hc a z.1 z.2]; decide))⟩
/-- kept -/
theorem MIn.kept {o : Nat} {T : HS} (q : MIn g w A) (e : x_get g 64 7 18 = some (.ref o)) (qh : MH g' o T) (c : ∀ a, cellM o a → w a = 1) (f : FrH o g g') : MIn g' w (setK A T) ∧ FrR w g g' := by
  have ho : w o = 1 := c o (Or.inl rfl)
  have hc : ∀ a, o + 17 ≤ a → a < o + 33 → w a = 1 := fun a h1 h2 => c a (Or.inr ⟨h1, h2⟩)
  have o1 := q.big (by decide) ho
  have ne : ∀ {i a : Nat}, w a = i → i ≠ 1 → a ≠ o := fun e1 e2 z => e2 (by rw [← e1, z, ho])
  have nc : ∀ {i a : Nat}, w a = i → i ≠ 1 → ¬ (o + 17 ≤ a ∧ a < o + 33) := fun e1 e2 z => e2 (by rw [← e1, hc _ z.1 z.2])
  obtain ⟨q0, q1, q2, q3, q4, q5, q6, q7, q8, q9⟩ := q
  exact ⟨⟨q0.fr f (fun _ _ z => by omega), q1.fr f (fun _ _ _ z => by omega) (fun _ _ _ z => by omega), q2.fr f (fun _ _ _ z => by omega), q3.fr f (fun _ _ z => by omega) ⟨fun z => by omega, fun z => by omega⟩, q4.fr f (fun z => by omega), ⟨o, f.1 _ _ _ _ (fun z => by omega) e, qh, c⟩, q6.fr f (fun z => by omega) (fun _ _ e z => ne e (by decide) z.1) (fun _ e z => nc e (by decide) z), q7.fr f (fun _ _ _ z => by omega) ⟨fun z => by omega, fun z => by omega⟩ (fun _ e z => nc e (by decide) z), q8.fr f (fun _ _ _ z => by omega) (fun _ e z => nc e (by decide) z), q9⟩, Fr.mono f (fun a _ z => Or.inr (by rw [z.1, ho]; decide)) (fun a z => Or.inr (by rw [hc a z.1 z.2]; decide))⟩
end Mk
