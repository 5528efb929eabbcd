/-! The class's search among both sides' cells. -/
def At' (h : xH) (a : Nat) : Prop := ∃ e, x_at h a = some (.inl e)
section Mk
variable {h h' g g' : xH} {w w' : Nat → Nat} {A : AS} {D : DS} {F : Nat → Nat → Prop} {P : Nat → Prop} {n : Nat}
theorem HAt.lv {b a : Nat} {H : HS} (q : HAt h b H) (h1 : b ≤ a) (h2 : a < b + 5) : Lv h a := by
  obtain ⟨q1, fk, fa, fb, fr, a1, a2, a3, a4, -⟩ := q
  rcases (show a = b ∨ a = b + 1 ∨ a = b + 2 ∨ a = b + 3 ∨ a = b + 4 by omega) with rfl | rfl | rfl | rfl | rfl
  · exact Or.inr ⟨0, 4, _, q1 4 (by decide)⟩
  · exact Or.inl ⟨_, a1⟩
  · exact Or.inl ⟨_, a2⟩
  · exact Or.inl ⟨_, a3⟩
  · exact Or.inl ⟨_, a4⟩
theorem CI.lv (q : CI h D A) {a : Nat} (ha : (16 ≤ a ∧ a < 42) ∨ (45 ≤ a ∧ a < 64)) : Lv h a := by
  obtain ⟨q0, q1, ⟨T, q2⟩, ⟨K, q3, -⟩, ⟨⟨fo, q4, -⟩, q4c⟩, ⟨tv, tfb, q5, -⟩, ⟨v, fg, w, fA, fp, fs, fq, p1, -, -, s1, -⟩, ⟨lv, lfb, q7⟩, q8, -⟩ := q
  by_cases e16 : a = 16
  · rw [e16]; exact Or.inr ⟨6, 0, _, q0 0 (by decide)⟩
  by_cases e17 : a < 22
  · exact q1.lv (by omega) (by omega)
  by_cases e22 : a < 27
  · exact q2.lv (by omega) (by omega)
  by_cases e27 : a < 32
  · exact q3.lv (by omega) (by omega)
  by_cases e32 : a = 32
  · rw [e32]; exact Or.inl ⟨_, q4⟩
  by_cases e33 : a = 33
  · rw [e33]; exact Or.inr ⟨5, 0, _, q5.1⟩
  by_cases e34 : a = 34
  · rw [e34]; exact Or.inl ⟨_, q5.2.2⟩
  by_cases e35 : a = 35
  · rw [e35]; exact Or.inr ⟨3, 0, _, s1.1⟩
  by_cases e36 : a = 36
  · rw [e36]; exact Or.inl ⟨_, s1.2.2.2.2.2.1⟩
  by_cases e37 : a = 37
  · rw [e37]; exact Or.inr ⟨2, 4, _, p1.2.1⟩
  by_cases e42 : a < 42
  · have := p1.2.2.2.1 (a - 38) (by omega)
    rw [show 35 + 2 + 1 + (a - 38) = a by omega] at this
    exact Or.inl ⟨_, this⟩
  by_cases e45 : a = 45
  · rw [e45]; exact Or.inr ⟨1, 0, _, q7.1⟩
  by_cases e46 : a = 46
  · rw [e46]; exact Or.inl ⟨_, q7.2.2⟩
  by_cases e47 : a = 47
  · rw [e47]; exact Or.inl ⟨_, q8⟩
  by_cases ev : a % 2 = 0
  · have := q4c ((a - 48) / 2) (by omega)
    obtain ⟨z, -⟩ := this
    rw [show 48 + 2 * ((a - 48) / 2) = a by omega] at z
    exact Or.inr ⟨4, 0, _, z⟩
  · have := q4c ((a - 48) / 2) (by omega)
    obtain ⟨-, -, -, f, z, -⟩ := this
    rw [show 49 + 2 * ((a - 48) / 2) = a by omega] at z
    exact Or.inl ⟨_, z⟩
theorem MIn.lv (q : MIn g w A) {a : Nat} (h1 : 64 ≤ a) (h2 : a < 100) : Lv g a := by
  obtain ⟨q0, q1, ⟨f0, f1, f2, f5, gg, ⟨a0, b1, b2, a5, ⟨fo, ao1, -⟩, al, gv, gv1⟩, -⟩, ⟨tv, tfb, tft, mt, -⟩, ⟨fr, q4, -⟩, -, -, ⟨-, -, -, ⟨fg, fe, q6, q7⟩, -⟩, -, -⟩ := q
  by_cases e0 : a = 64 ∨ (81 ≤ a ∧ a < 97)
  · exact q1.lv (by unfold cellM; omega)
  by_cases e65 : a = 65
  · rw [e65]; exact Or.inl ⟨_, a0⟩
  by_cases e66 : a = 66
  · rw [e66]; exact Or.inl ⟨_, b1⟩
  by_cases e67 : a = 67
  · rw [e67]; exact Or.inl ⟨_, b2⟩
  by_cases e68 : a = 68
  · rw [e68]; exact Or.inl ⟨_, ao1⟩
  by_cases e77 : a < 77
  · have := al (a - 69) (by omega)
    rw [show 69 + (a - 69) = a by omega] at this
    exact Or.inl ⟨_, this⟩
  by_cases e77 : a = 77
  · rw [e77]; exact Or.inl ⟨_, gv1⟩
  by_cases e78 : a = 78
  · rw [e78]; exact Or.inl ⟨_, a5⟩
  by_cases e79 : a = 79
  · rw [e79]; exact Or.inl ⟨_, mt.2.2.2.1⟩
  by_cases e80 : a = 80
  · rw [e80]; exact Or.inl ⟨_, q4⟩
  by_cases e97 : a = 97
  · rw [e97]; exact Or.inl ⟨_, mt.2.2.2.2⟩
  by_cases e98 : a = 98
  · rw [e98]; exact Or.inl ⟨_, q6⟩
  · rw [show a = 99 by omega]; exact Or.inl ⟨_, q7⟩
def mkD (ap as aq sl len st B : Nat) : DS := (ap, as, aq, sl, len, st, B)
/-- the search's cells, old or new -/
theorem jj_srch {ap' as' aq' sl' len' st' B' : Nat} {v' fg' : Nat → Int32} (j : JJ h D w A) (f : FrX 35 (dp D) (ds D) (dq D) h h') (sg : SG h' 35 ap' as' aq' sl' len' st' B' v' fg') (fresh : ∀ a e, nS 35 (dp D) (ds D) (dq D) a → x_at h a = some (.inl e) → a ≠ ap' ∧ a ≠ as' ∧ a ≠ aq') : JJ h' (mkD ap' as' aq' sl' len' st' B') (nrm h w) A ∧ mC w ≤ mC (nrm h w) ∧ mS w ≤ mS (nrm h w) := by
  obtain ⟨jc, jm, jw, ok⟩ := j
  have dn := jc.dn
  have gr := mCS_le (jm.grow (w' := nrm h w) fun a l _ => nrm_lv l)
  have sp : sep3 35 ap' as' aq' := by
    obtain ⟨w, fA, fp, fs, fq, -, -, -, -, -, -, z, -⟩ := sg
    exact z
  have arr : At' h' ap' ∧ At' h' as' ∧ At' h' aq' := by
    obtain ⟨w, fA, fp, fs, fq, p1, -, -, s1, -⟩ := sg
    exact ⟨⟨_, p1.2.2.2.2⟩, ⟨_, s1.2.2.2.2.2.2.1⟩, ⟨_, s1.2.2.2.2.2.2.2⟩⟩
  have fl : ∀ a, Lv h a → nS 35 (dp D) (ds D) (dq D) a → a ≠ ap' ∧ a ≠ as' ∧ a ≠ aq' := fun a l ns => by
    rcases l with ⟨e, l⟩ | ⟨ci, k, v, l⟩
    · exact fresh a e ns l
    · have l' := f.1 _ _ _ _ (fun z => ns (Or.inl (by omega))) l
      obtain ⟨fs, z, -⟩ := g_at l'
      have no : ∀ b, At' h' b → a ≠ b := fun b ⟨e, hb⟩ y => by
        rw [← y, z] at hb
        cases hb
      exact ⟨no _ arr.1, no _ arr.2.1, no _ arr.2.2⟩
  have nsx : ∀ a, fixd a → ¬ (35 ≤ a ∧ a < 42) → nS 35 (dp D) (ds D) (dq D) a := fun a fa n35 z => by
    rcases z with z | z | z | z
    · exact n35 (by omega)
    · rw [z] at fa; exact dn.1 fa
    · rw [z] at fa; exact dn.2.1 fa
    · rw [z] at fa; exact dn.2.2 fa
  have lx : ∀ a, fixd a → Lv h a := fun a fa => by
    unfold fixd at fa
    by_cases e : 64 ≤ a
    · exact jm.lv e (by omega)
    · exact jc.lv (by omega)
  unfold sep3 at sp
  have d1 : ¬ fixd ap' := fun fa => by
    by_cases e : 35 ≤ ap' ∧ ap' < 42
    · omega
    · exact (fl _ (lx _ fa) (nsx _ fa e)).1 rfl
  have d2 : ¬ fixd as' := fun fa => by
    by_cases e : 35 ≤ as' ∧ as' < 42
    · omega
    · exact (fl _ (lx _ fa) (nsx _ fa e)).2.1 rfl
  have d3 : ¬ fixd aq' := fun fa => by
    by_cases e : 35 ≤ aq' ∧ aq' < 42
    · omega
    · exact (fl _ (lx _ fa) (nsx _ fa e)).2.2 rfl
  have w0 : ∀ a, nrm h w a ≠ 0 → a ≠ ap' ∧ a ≠ as' ∧ a ≠ aq' := fun a z => by
    have l := nrm_nz (h := h) (w := w) a z
    rw [nrm_lv l] at z
    have b := jm.big (i := w a) (by omega) rfl
    refine fl a l fun y => ?_
    rcases y with y | y | y | y
    · omega
    · exact z (by rw [y]; exact jw.1)
    · exact z (by rw [y]; exact jw.2.1)
    · exact z (by rw [y]; exact jw.2.2)
  have jw' : nrm h w ap' = 0 ∧ nrm h w as' = 0 ∧ nrm h w aq' = 0 := ⟨Classical.byContradiction fun z => (w0 _ z).1 rfl, Classical.byContradiction fun z => (w0 _ z).2.1 rfl, Classical.byContradiction fun z => (w0 _ z).2.2 rfl⟩
  have nP : ∀ a, ((16 ≤ a ∧ a < 35) ∨ (45 ≤ a ∧ a < 100)) → ¬ ((35 ≤ a ∧ a < 35 + 7) ∨ a = dp D ∨ a = ds D ∨ a = dq D) := fun a ha z => nsx a (by unfold fixd; omega) (by omega) z
  have fc : FrC D h h' := Fr.mono f (fun a _ z => Or.inl (by omega)) (fun a z => by
    rcases z with z | z | z | z
    · exact Or.inl (by omega)
    · exact Or.inr (Or.inr (Or.inl z))
    · exact Or.inr (Or.inr (Or.inr (Or.inl z)))
    · exact Or.inr (Or.inr (Or.inr (Or.inr z))))
  refine ⟨⟨?_, jm.norm.frC dn ⟨nrm_0 jw.1, nrm_0 jw.2.1, nrm_0 jw.2.2⟩ fc, jw', ok⟩, gr⟩
  obtain ⟨q0, q1, ⟨T, q2⟩, q3, q4, q5, q6, q7, q8, q9⟩ := jc
  exact ⟨q0.fr f (fun _ z => by omega), q1.fr f (fun _ z => by omega) (fun _ _ _ => nP _ (by omega)), ⟨T, q2.fr f (fun _ z => by omega) (fun _ _ _ => nP _ (by omega))⟩, q3.fr f (fun _ z => by omega) (fun _ _ _ => nP _ (by omega)), q4.fr f (fun _ _ _ _ z => by omega) (fun _ _ => nP _ (by omega)), q5.fr f (fun _ z => by omega) (nP _ (by omega)), ⟨v', fg', sg⟩, q7.fr f (fun _ z => by omega) (nP _ (by omega)), f.2 _ _ (nP _ (by omega)) q8, ⟨d1, d2, d3⟩⟩
end Mk
