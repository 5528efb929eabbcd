/-! The class's House: what its methods answer. -/
def bI (b : Bool) : Int32 := if b then 1 else 0
theorem bI_0 (b : Bool) : bI b = 0 ↔ b = false := by cases b <;> decide
theorem bI_t : bI true = 1 := rfl
theorem bI_f : bI false = 0 := rfl
theorem x_bool_bI (b : Bool) : x_bool (bI b) = some (bI b) := by cases b <;> decide
def wtN (k : Int32) : Nat := if k = 2 ∨ k = 5 then 2 else if k = 4 then 0 else 1
def sAt (H : HS) (d : Nat) (r : Int32) : Bool := decide (hA H d = r) || decide (hB H d = r)
def sShuts (H : HS) (d : Nat) (r : Int32) : Bool := if hK H d = 4 then decide (hB H d = r) else (!decide (hK H d = 5) && sAt H d r)
def sOpens (H : HS) (d : Nat) (r : Int32) : Bool := if hK H d = 3 then decide (hA H d = r) else sAt H d r
section HM
variable {h : xH} {b d p : Nat} {H : HS} {r : Int32}
theorem HAt.D (q : HAt h b H) : x_gI h b 0 4 = some (nI (hD H)) := g_I (q.1 4 (by decide))
theorem HAt.O (q : HAt h b H) : x_gI h b 0 5 = some (hO H) := g_I (q.1 5 (by decide))
theorem HAt.P (q : HAt h b H) : x_gI h b 0 6 = some (nI (hP H)) := g_I (q.1 6 (by decide))
theorem HAt.L (q : HAt h b H) : x_gI h b 0 7 = some (hL H) := g_I (q.1 7 (by decide))
theorem HAt.W (q : HAt h b H) : x_gI h b 0 8 = some (hW H) := g_I (q.1 8 (by decide))
theorem HAt.S (q : HAt h b H) : x_gI h b 0 9 = some (hS H) := g_I (q.1 9 (by decide))
theorem HAt.N (q : HAt h b H) : x_gI h b 0 10 = some (hN H) := g_I (q.1 10 (by decide))
theorem HAt.rk (q : HAt h b H) : x_gR h b 0 0 = some (b + 1) := g_R (q.1 0 (by decide))
theorem HAt.ra (q : HAt h b H) : x_gR h b 0 1 = some (b + 2) := g_R (q.1 1 (by decide))
theorem HAt.rb (q : HAt h b H) : x_gR h b 0 2 = some (b + 3) := g_R (q.1 2 (by decide))
theorem HAt.rr (q : HAt h b H) : x_gR h b 0 3 = some (b + 4) := g_R (q.1 3 (by decide))
theorem HAt.ob (q : HAt h b H) : x_ob h b 0 = some () := g_ob (q.1 4 (by decide))
theorem HAt.ldK (q : HAt h b H) (ok : HOk H) (hd : d < hD H) : x_ld h (b + 1) (nI d) = some (hK H d) := by
  obtain ⟨-, fk, fa, fb, fr, a1, a2, a3, a4, e1, e2⟩ := q
  rw [← (e1 d hd).1]
  exact a1.ld (Nat.lt_of_lt_of_le hd ok.1) (by decide)
theorem HAt.ldA (q : HAt h b H) (ok : HOk H) (hd : d < hD H) : x_ld h (b + 2) (nI d) = some (hA H d) := by
  obtain ⟨-, fk, fa, fb, fr, a1, a2, a3, a4, e1, e2⟩ := q
  rw [← (e1 d hd).2.1]
  exact a2.ld (Nat.lt_of_lt_of_le hd ok.1) (by decide)
theorem HAt.ldB (q : HAt h b H) (ok : HOk H) (hd : d < hD H) : x_ld h (b + 3) (nI d) = some (hB H d) := by
  obtain ⟨-, fk, fa, fb, fr, a1, a2, a3, a4, e1, e2⟩ := q
  rw [← (e1 d hd).2.2]
  exact a3.ld (Nat.lt_of_lt_of_le hd ok.1) (by decide)
theorem HAt.ldR (q : HAt h b H) (ok : HOk H) (hp : p < hP H) : x_ld h (b + 4) (nI p) = some (hR H p) := by
  obtain ⟨-, fk, fa, fb, fr, a1, a2, a3, a4, e1, e2⟩ := q
  rw [← e2 p hp]
  exact a4.ld (Nat.lt_of_lt_of_le hp ok.2.1) (by decide)
theorem HOk.d32 (ok : HOk H) (hd : d < hD H) : d < 32 := by have := ok.1; omega
theorem h_isOpen (q : HAt h b H) (hd : d < 32) : f_X0_isOpen h b (nI d) = some (bI (bt (hO H) d)) := by
  simp only [f_X0_isOpen, q.O, Option.bind_some]
  cases e : bt (hO H) d
  · rw [if_pos ((b_has _ hd).mpr e)]; rfl
  · rw [if_neg (fun z => by rw [(b_has _ hd).mp z] at e; cases e)]; rfl
theorem h_isAt (q : HAt h b H) (ok : HOk H) (hd : d < hD H) : f_X0_isAt h b (nI d) r = some (bI (sAt H d r)) := by
  simp only [f_X0_isAt, q.ra, q.ldA ok hd, q.rb, q.ldB ok hd, Option.bind_some, sAt]
  by_cases h1 : hA H d = r
  · rw [if_pos h1]; simp [h1, bI]
  · rw [if_neg h1]
    by_cases h2 : hB H d = r
    · rw [if_pos h2]; simp [h2, bI]
    · rw [if_neg h2]; simp [h1, h2, bI]
theorem h_shutsFrom (q : HAt h b H) (ok : HOk H) (hd : d < hD H) : f_X0_shutsFrom h b (nI d) r = some (bI (sShuts H d r)) := by
  simp only [f_X0_shutsFrom, q.rk, q.ldK ok hd, q.rb, q.ldB ok hd, q.ob, h_isAt q ok hd, Option.bind_some, sShuts]
  by_cases h1 : hK H d = 4
  · rw [if_pos h1, if_pos h1]
    by_cases h2 : hB H d = r
    · rw [if_pos h2]; simp [h2, bI]
    · rw [if_neg h2]; simp [h2, bI]
  · rw [if_neg h1, if_neg h1]
    by_cases h2 : hK H d = 5
    · rw [if_pos h2]; simp [h2, bI]
    · rw [if_neg h2]
      cases e : sAt H d r
      · rw [if_pos ((bI_0 _).mpr rfl)]; simp [bI]
      · rw [if_neg (by decide)]; simp [h2, bI]
theorem h_opensFrom (q : HAt h b H) (ok : HOk H) (hd : d < hD H) : f_X0_opensFrom h b (nI d) r = some (bI (sOpens H d r)) := by
  simp only [f_X0_opensFrom, q.rk, q.ldK ok hd, q.ra, q.ldA ok hd, q.ob, h_isAt q ok hd, Option.bind_some, sOpens, x_bool_bI]
  by_cases h1 : hK H d = 3
  · rw [if_pos h1, if_pos h1]
    by_cases h2 : hA H d = r
    · rw [if_pos h2]; simp [h2, bI]
    · rw [if_neg h2]; simp [h2, bI]
  · rw [if_neg h1, if_neg h1]
theorem h_mayShut (q : HAt h b H) (ok : HOk H) (hp : p < hP H) (hd : d < hD H) : f_X0_mayShut h b (nI p) (nI d) = some (bI (bt (hO H) d && sShuts H d (hR H p))) := by
  simp only [f_X0_mayShut, q.ob, h_isOpen q (ok.d32 hd), q.rr, q.ldR ok hp, h_shutsFrom q ok hd, Option.bind_some]
  cases e : bt (hO H) d
  · rw [if_pos ((bI_0 _).mpr rfl)]; rfl
  · rw [if_neg (by decide)]
    cases e2 : sShuts H d (hR H p)
    · rw [if_pos ((bI_0 _).mpr rfl)]; rfl
    · rw [if_neg (by decide)]; rfl
theorem h_mayWalk (q : HAt h b H) (ok : HOk H) (hp : p < hP H) (hd : d < hD H) : f_X0_mayWalk h b (nI p) (nI d) = some (bI (bt (hO H) d && !decide (hK H d = 1) && sAt H d (hR H p))) := by
  simp only [f_X0_mayWalk, q.ob, h_isOpen q (ok.d32 hd), q.rk, q.ldK ok hd, q.rr, q.ldR ok hp, h_isAt q ok hd, Option.bind_some]
  cases e : bt (hO H) d
  · rw [if_pos ((bI_0 _).mpr rfl)]; rfl
  · rw [if_neg (by decide)]
    by_cases h1 : hK H d = 1
    · rw [if_pos h1]; simp [h1, bI]
    · rw [if_neg h1]
      cases e2 : sAt H d (hR H p)
      · rw [if_pos ((bI_0 _).mpr rfl)]; simp [bI]
      · rw [if_neg (by decide)]; simp [h1, bI]
theorem h_stands (q : HAt h b H) (ok : HOk H) (hp : p < hP H) (hd : d < hD H) : f_X0_standsBeforeShut h b (nI p) (nI d) = some (bI (!bt (hO H) d && sOpens H d (hR H p))) := by
  simp only [f_X0_standsBeforeShut, q.ob, h_isOpen q (ok.d32 hd), q.rr, q.ldR ok hp, h_opensFrom q ok hd, Option.bind_some]
  cases e : bt (hO H) d
  · rw [if_pos ((bI_0 _).mpr rfl)]
    cases e2 : sOpens H d (hR H p)
    · rw [if_pos ((bI_0 _).mpr rfl)]; rfl
    · rw [if_neg (by decide)]; rfl
  · rw [if_neg (by decide)]; rfl
theorem wtN_W : ∀ k, k < 6 → x_tabW (nI k) = some (nI (wtN (nI k))) := by decide +kernel
theorem h_weightOf (q : HAt h b H) (ok : HOk H) (hd : d < hD H) : f_X0_weightOf h b (nI d) = some (nI (wtN (hK H d))) := by
  obtain ⟨k, hk, e⟩ := (ok.2.2.1 d hd).1
  simp only [f_X0_weightOf, q.rk, q.ldK ok hd, Option.bind_some, e, wtN_W k hk]
/-- doors that somebody may shut: what the loops of the class come to -/
theorem h_shut14 (q : HAt h b H) (ok : HOk H) (hp : p < hP H) : ∀ (c k i : Nat) (acc : Int32), i + c = hD H → c < k → f_X0_shuttable_L14 h b (nI p) k acc (nI i) = some (orB (fun d => bt (hO H) d && sShuts H d (hR H p)) c i acc)
  | 0, 0, i, acc, hi, hk => absurd hk (Nat.lt_irrefl 0)
  | 0, k + 1, i, acc, hi, hk => by
    unfold f_X0_shuttable_L14
    simp only [q.D, Option.bind_some]
    rw [if_pos (by rw [← hi]; exact nI_le (Nat.le_refl _) (by have := ok.1; omega))]
    rfl
  | c + 1, 0, i, acc, hi, hk => absurd hk (by omega)
  | c + 1, k + 1, i, acc, hi, hk => by
    have hd : i < hD H := by omega
    have hD14 := ok.1
    unfold f_X0_shuttable_L14
    simp only [q.D, q.ob, h_isOpen q (ok.d32 hd), q.rr, q.ldR ok hp, h_shutsFrom q ok hd, Option.bind_some, nI_1]
    rw [if_neg (nI_ge hd (by omega))]
    have ih := fun a => h_shut14 q ok hp c k (i + 1) a (by omega) (by omega)
    rw [orB]
    cases e : bt (hO H) i
    · rw [if_pos ((bI_0 _).mpr rfl), ih]; rfl
    · rw [if_neg (by decide)]
      cases e2 : sShuts H i (hR H p)
      · rw [if_pos ((bI_0 _).mpr rfl), ih]; rfl
      · rw [if_neg (by decide), ih]; rfl
end HM
