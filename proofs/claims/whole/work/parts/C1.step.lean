/-! From one call on both sides to the joint step. -/
section Bop
variable {h h' : xH} {D : DS} {w : Nat → Nat} {A : AS} {X : Option (Int32 × xH)} {Y : xH → Option (Int32 × xH)} {n : Nat}
theorem CI.frR (q : CI h D A) (hw : w (dp D) = 0 ∧ w (ds D) = 0 ∧ w (dq D) = 0) (c : ∀ a, a < 100 → w a = 0) (f : FrR w h h') : CI h' D A := by
  have nm : ∀ a, a < 64 → ¬ mAd w a := fun a ha z => by
    rcases z with z | z
    · omega
    · exact z (c a (by omega))
  have nd : ∀ a, ¬ fixd a → w a = 0 → ¬ mAd w a := fun a hf h0 z => by
    rcases z with z | z
    · exact hf (Or.inr (by omega))
    · exact z h0
  obtain ⟨n1, n2, n3⟩ := q.dn
  obtain ⟨q0, q1, ⟨T, q2⟩, q3, q4, q5, q6, q7, q8, q9⟩ := q
  exact ⟨q0.fr f (fun _ => nm _ (by decide)), q1.fr f (fun _ => nm _ (by decide)) (fun _ _ _ => nm _ (by omega)), ⟨T, q2.fr f (fun _ => nm _ (by decide)) (fun _ _ _ => nm _ (by omega))⟩, q3.fr f (fun _ => nm _ (by decide)) (fun _ _ _ => nm _ (by omega)), q4.fr f (fun _ _ _ _ => nm _ (by omega)) (fun _ _ => nm _ (by omega)), q5.fr f (fun _ => nm _ (by decide)) (nm _ (by decide)), q6.fr f (fun _ => ⟨nm _ (by decide), nm _ (by decide)⟩) (fun _ _ => nm _ (by omega)) (nd _ n1 hw.1) (nd _ n2 hw.2.1) (nd _ n3 hw.2.2), q7.fr f (fun _ => nm _ (by decide)) (nm _ (by decide)), f.2 _ _ (nm _ (by decide)) q8, q9⟩
theorem MIn.frC (q : MIn h w A) (dn : ¬ fixd (dp D) ∧ ¬ fixd (ds D) ∧ ¬ fixd (dq D)) (hw : w (dp D) = 0 ∧ w (ds D) = 0 ∧ w (dq D) = 0) (f : FrC D h h') : MIn h' w A := by
  have c := q.col
  have nf : ∀ a, 64 ≤ a → a < 100 → ¬ cAd D a := fun a h1 h2 z => by
    unfold fixd at dn
    rcases z with z | z | z | z | z <;> omega
  have nc : ∀ {i : Nat} a, 0 < i → w a = i → ¬ cAd D a := fun {i} a hi e z => by
    have g : 100 ≤ a := by
      apply Classical.byContradiction
      intro y
      have := c a (by omega)
      omega
    rcases z with z | z | z | z | z
    · omega
    · omega
    · rw [z, hw.1] at e; omega
    · rw [z, hw.2.1] at e; omega
    · rw [z, hw.2.2] at e; omega
  obtain ⟨q0, q1, q2, q3, q4, q5, q6, q7, q8, q9⟩ := q
  exact ⟨q0.fr f (fun _ _ => nf _ (by decide) (by decide)), q1.fr f (fun _ _ _ => nf _ (by decide) (by decide)) (fun _ _ _ => nf _ (by omega) (by omega)), q2.fr f (fun _ _ _ => nf _ (by omega) (by omega)), q3.fr f (fun _ _ => nf _ (by decide) (by decide)) ⟨nf _ (by decide) (by decide), nf _ (by decide) (by decide)⟩, q4.fr f (nf _ (by decide) (by decide)), q5.fr f (nf _ (by decide) (by decide)) (fun a _ e => nc a (by decide) e) (fun a e => nc a (by decide) e), q6.fr f (nf _ (by decide) (by decide)) (fun a _ e => nc a (by decide) e) (fun a e => nc a (by decide) e), q7.fr f (fun _ _ _ => nf _ (by decide) (by decide)) ⟨nf _ (by decide) (by decide), nf _ (by decide) (by decide)⟩ (fun a e => nc a (by decide) e), q8.fr f (fun _ _ _ => nf _ (by decide) (by decide)) (fun a e => nc a (by decide) e), q9⟩
/-- one call, both sides -/
theorem BSt.step (j : JJ h D w A) (b : BSt h D w A X Y) : ∃ r h1 h2 A', X = some (r, h1) ∧ Y h1 = some (r, h2) ∧ x_ob h1 64 7 = some () ∧ JJ h2 D w A' := by
  obtain ⟨jc, jm, jw, -⟩ := j
  obtain ⟨r, A', ⟨h1, e1, c1, f1⟩, my, ok⟩ := b
  have m1 : MIn h1 w A := jm.frC jc.dn jw f1
  obtain ⟨h2, e2, m2, f2⟩ := my h1 m1
  exact ⟨r, h1, h2, A', e1, e2, m1.ob, c1.frR jw m2.col f2, m2, jw, ok⟩
theorem BVl.step {α : Type} {X : Option α} {Y : xH → Option α} (j : JJ h D w A) (b : BVl w A X Y) : ∃ r, X = some r ∧ Y h = some r := by
  obtain ⟨r, e, y⟩ := b
  exact ⟨r, e, y h j.2.1⟩
end Bop
