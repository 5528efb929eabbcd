/-! The reference's house part: reach, what changes it. -/
def FrH (m : Nat) (h h' : xH) : Prop := Fr (fun a k => a = m ∧ 9 ≤ k ∧ k < 18) (fun a => m + 17 ≤ a ∧ a < m + 33) h h'
section MM
variable {h h' : xH} {m d p n : Nat} {H T : HS} {r set x : Int32}
theorem FrH.trans {h1 h2 : xH} (f : FrH m h h1) (g : FrH m h1 h2) : FrH m h h2 := Fr.trans f g
theorem FrH.rfl : FrH m h h := Fr.rfl
theorem lid_side (ok : HOk H) (hd : d < hD H) (e : hK H d = 1) (a : Int32) (hne : ¬ a &&& sSd H d = 0) : a ||| sSd H d = a := by
  obtain ⟨-, ⟨ka, ha, ea⟩, -, hl⟩ := ok.2.2.1 d hd
  have eb := hl e
  have es : sSd H d = i_shl 1 (nI ka) := by
    unfold sSd
    rw [← eb, ea]
    apply b_ext; intro i hi; rw [b_or]; simp
  rw [es] at hne ⊢
  have hb : bt a ka = true := by
    cases hb : bt a ka
    · exfalso
      apply hne
      apply b_ext
      intro i hi
      rw [b_and, b_bit (by omega) hi, b_0]
      by_cases c : i = ka
      · subst c; rw [hb]; rfl
      · simp [c]
    · rfl
  apply b_ext
  intro i hi
  rw [b_or, b_bit (by omega) hi]
  by_cases c : i = ka
  · subst c; rw [hb]; rfl
  · simp [c]
theorem m_reach20 (q : MH h m H) (ok : HOk H) (hn : 20 ≤ n) (v3 acc : Int32) : f_X7_reachOf_L20 h m v3 n acc 0 = some (rp H (hO H) acc (hD H)) := by
  have h14 := ok.1
  have := lpE (L := fun k s i => f_X7_reachOf_L20 h m v3 k s (nI i)) (g := rp H (hO H) acc) (D := hD H) (n := n) (fin := rp H (hO H) acc (hD H)) (by omega)
    (fun k => by
      show f_X7_reachOf_L20 h m v3 (k + 1) _ (nI (hD H)) = _
      simp only [f_X7_reachOf_L20, q.D, Option.bind_some]
      rw [if_pos (nI_le (Nat.le_refl _) (by omega))])
    (fun k i hi => by
      show f_X7_reachOf_L20 h m v3 (k + 1) _ (nI i) = f_X7_reachOf_L20 h m v3 k _ (nI (i + 1))
      rw [f_X7_reachOf_L20]
      simp only [q.D, q.rd, q.ldQ ok hi, q.ldA ok hi, q.ldB ok hi, q.ldK ok hi, q.O, m_has (ok.d32 hi), Option.bind_some, nI_1]
      rw [if_neg (nI_ge hi (by omega)), rp]
      show ((if bI (bt (hO H) i) = 0 then some 0 else if hK H i = 1 then some 0 else if rp H (hO H) acc i &&& sSd H i = 0 then some 0 else some 1).bind fun q14 => if q14 = 0 then f_X7_reachOf_L20 h m v3 k (rp H (hO H) acc i ||| 0) (nI (i + 1)) else f_X7_reachOf_L20 h m v3 k (rp H (hO H) acc i ||| sSd H i) (nI (i + 1))) = _
      cases bt (hO H) i
      · rw [if_pos (show bI false = 0 from rfl), Option.bind_some, if_pos rfl, i_or0]; rfl
      · rw [if_neg (show ¬ bI true = 0 by decide)]
        by_cases c : rp H (hO H) acc i &&& sSd H i = 0
        · rw [if_pos c, decide_eq_true c]
          have : (if hK H i = 1 then some (0 : Int32) else some 0) = some 0 := by split <;> rfl
          rw [this, Option.bind_some, if_pos rfl, i_or0]; rfl
        · rw [if_neg c, decide_eq_false c]
          by_cases c1 : hK H i = 1
          · rw [if_pos c1, Option.bind_some, if_pos rfl, i_or0]
            show f_X7_reachOf_L20 h m v3 k (rp H (hO H) acc i) (nI (i + 1)) = f_X7_reachOf_L20 h m v3 k (rp H (hO H) acc i ||| sSd H i) (nI (i + 1))
            rw [lid_side ok hi c1 _ c]
          · rw [if_neg c1, Option.bind_some, if_neg (by decide)]; rfl)
  exact this
theorem rpK_succ (H : HS) (o : Int32) : ∀ (k : Nat) (acc : Int32), rpK H o acc (k + 1) = rp H o (rpK H o acc k) (hD H)
  | 0, _ => rfl
  | k + 1, acc => by
    show rpK H o (rp H o acc (hD H)) (k + 1) = _
    rw [rpK_succ H o k]; rfl
theorem m_reachOf (q : MH h m H) (ok : HOk H) (hn : 20 ≤ n) (hp : p < hP H) : f_X7_reachOf n h m (nI p) = some (sReach H (hO H) (hR H p)) := by
  unfold f_X7_reachOf
  simp only [q.rr, q.ldR ok hp, Option.bind_some]
  have := lpE (L := fun k s i => f_X7_reachOf_L11 n h m k s (nI i)) (g := fun i => rpK H (hO H) (i_shl 1 (hR H p)) i) (D := 8) (n := n) (fin := sReach H (hO H) (hR H p)) (by omega)
    (fun k => by
      show f_X7_reachOf_L11 n h m (k + 1) _ (nI 8) = _
      rw [f_X7_reachOf_L11, if_pos (by decide)]; rfl)
    (fun k i hi => by
      show f_X7_reachOf_L11 n h m (k + 1) _ (nI i) = f_X7_reachOf_L11 n h m k _ (nI (i + 1))
      rw [f_X7_reachOf_L11, if_neg (show ¬ (8 : Int32) ≤ nI i from nI_ge (b := 8) hi (by omega)), m_reach20 q ok hn, Option.bind_some, Option.bind_some, nI_1, rpK_succ])
  rw [show f_X7_reachOf_L11 n h m n (i_shl 1 (hR H p)) 0 = _ from this, Option.bind_some]
theorem m_shutIn (q : MH h m H) (ok : HOk H) (hn : 20 ≤ n) : f_X7_shutIn n h m = some (sShutIn H) := by
  have h4 := ok.2.1
  unfold f_X7_shutIn
  have := lpE (L := fun k s i => f_X7_shutIn_L4 n h m k s (nI i)) (g := mkB (fun p => decide (sReach H (hO H) (hR H p) &&& 1 = 0))) (D := hP H) (n := n) (fin := sShutIn H) (by omega)
    (fun k => by
      show f_X7_shutIn_L4 n h m (k + 1) _ (nI (hP H)) = _
      simp only [f_X7_shutIn_L4, q.P, Option.bind_some]
      rw [if_pos (nI_le (Nat.le_refl _) (by omega))]; rfl)
    (fun k i hi => by
      show f_X7_shutIn_L4 n h m (k + 1) _ (nI i) = f_X7_shutIn_L4 n h m k _ (nI (i + 1))
      rw [f_X7_shutIn_L4]
      simp only [q.P, q.ob, m_reachOf q ok hn hi, show (0 : Int32) = nI 0 from rfl, m_has (show 0 < 32 by decide), Option.bind_some, nI_1]
      rw [if_neg (nI_ge hi (by omega)), mkB]
      have e : decide (sReach H (hO H) (hR H i) &&& 1 = 0) = !bt (sReach H (hO H) (hR H i)) 0 := by
        cases e : bt (sReach H (hO H) (hR H i)) 0
        · rw [decide_eq_true ((b_and1 _).mpr e)]; rfl
        · rw [decide_eq_false (fun z => by rw [(b_and1 _).mp z] at e; cases e)]; rfl
      rw [show nI 0 = (0 : Int32) from rfl, e]
      cases bt (sReach H (hO H) (hR H i)) 0
      · rw [if_pos (show bI false = 0 from rfl)]; rfl
      · rw [if_neg (show ¬ bI true = 0 by decide), i_or0]; rfl)
  rw [show f_X7_shutIn_L4 n h m n 0 0 = _ from this]
  rfl
theorem sSet_iff (H : HS) (h14 : hD H ≤ 14) (x : Int32) : sSet H x = (decide (0 ≤ x.toInt) && decide (x.toInt ≤ (2 : Int) ^ hD H - 1)) := by
  unfold sSet
  have e1 : (i_shr x (nI (hD H))).toInt = x.toInt >>> hD H := pk_shr x (nI (hD H) &&& 31) (hD H) (s_l _ (by omega))
  have e2 : (i_shr x (nI (hD H)) = 0) ↔ x.toInt >>> hD H = 0 := by
    rw [← Int32.toInt_inj, e1]; exact Iff.rfl
  rw [Bool.eq_iff_iff, decide_eq_true_iff, e2, Bool.and_eq_true, decide_eq_true_iff, decide_eq_true_iff, Int.shiftRight_eq_div_pow]
  have hp : (0 : Int) < 2 ^ hD H := Int.pow_pos (by decide)
  have ec : ((2 ^ hD H : Nat) : Int) = (2 : Int) ^ hD H := by simp
  rw [ec]
  generalize (2 : Int) ^ hD H = w at hp
  constructor
  · intro z
    have h1 := Int.mul_ediv_add_emod x.toInt w
    have h2 := Int.emod_nonneg x.toInt (show w ≠ 0 by omega)
    have h3 := Int.emod_lt_of_pos x.toInt hp
    rw [z] at h1
    constructor <;> omega
  · rintro ⟨h1, h2⟩
    exact Int.ediv_eq_zero_of_lt h1 (by omega)
theorem bit_toInt : ∀ k, k ≤ 14 → (((i_shl 1 (nI k)) - 1).toInt64).toInt = (2 : Int) ^ k - 1 := by decide +kernel
theorem m_isSet (q : MH h m H) (ok : HOk H) : f_X7_isSet h m x = some (bI (sSet H x)) := by
  unfold f_X7_isSet
  rw [q.D, Option.bind_some, m_in (a := 0) (c := (2 : Int) ^ hD H - 1) rfl (bit_toInt _ ok.1), Option.bind_some, x_bool_bI, Option.bind_some, sSet_iff H ok.1]
theorem MH.putG (q : MH h m H) {k : Nat} (hk : 9 ≤ k) (hk2 : k < 18) (H' : HS) (e1 : ∀ j, 9 ≤ j → j < 18 → j ≠ k → mf m H' j = mf m H j) (e2 : ∀ (fd : Nat → Nat → Int32) (fr : Nat → Int32), ((∀ j, j < hD H → fd j 0 = hK H j ∧ fd j 1 = hA H j ∧ fd j 2 = hB H j) ∧ ∀ p, p < hP H → fr p = hR H p) → (∀ j, j < hD H' → fd j 0 = hK H' j ∧ fd j 1 = hA H' j ∧ fd j 2 = hB H' j) ∧ ∀ p, p < hP H' → fr p = hR H' p) : ∃ h', x_put h m 7 k (mf m H' k) = some h' ∧ MH h' m H' ∧ FrH m h h' := by
  obtain ⟨g, ⟨fo, ao, eo⟩, fd, fr, a1, a2, c1, c2⟩ := q
  obtain ⟨h1, e, g1, f1⟩ := w_put (g k hk hk2) (mf m H' k)
  obtain ⟨d1, d2⟩ := e2 fd fr ⟨c1, c2⟩
  refine ⟨h1, e, ⟨fun j hj hj2 => ?_, ⟨fo, f1.2 _ _ (fun z => z) ao, eo⟩, fd, fr, fun j hj => f1.2 _ _ (fun z => z) (a1 j hj), f1.2 _ _ (fun z => z) a2, d1, d2⟩, f1.mono (fun a j z => by omega) (fun a z => absurd z (fun z => z))⟩
  by_cases ej : j = k
  · subst ej; exact g1
  · rw [e1 j hj hj2 ej]; exact f1.1 _ _ _ _ (fun z => ej z.2) (g j hj hj2)
theorem MH.putO (q : MH h m H) (x : Int32) : ∃ h', x_put h m 7 11 (.int x) = some h' ∧ MH h' m (sO H x) ∧ FrH m h h' := q.putG (k := 11) (by decide) (by decide) (sO H x) (fun j hj hj2 hn => by
  have : j = 9 ∨ j = 10 ∨ j = 12 ∨ j = 13 ∨ j = 14 ∨ j = 15 ∨ j = 16 ∨ j = 17 := by omega
  rcases this with rfl | rfl | rfl | rfl | rfl | rfl | rfl | rfl <;> rfl) (fun _ _ z => z)
theorem MH.putL (q : MH h m H) (x : Int32) : ∃ h', x_put h m 7 14 (.int x) = some h' ∧ MH h' m (sL H x) ∧ FrH m h h' := q.putG (k := 14) (by decide) (by decide) (sL H x) (fun j hj hj2 hn => by
  have : j = 9 ∨ j = 10 ∨ j = 12 ∨ j = 13 ∨ j = 11 ∨ j = 15 ∨ j = 16 ∨ j = 17 := by omega
  rcases this with rfl | rfl | rfl | rfl | rfl | rfl | rfl | rfl <;> rfl) (fun _ _ z => z)
theorem MH.putW (q : MH h m H) (x : Int32) : ∃ h', x_put h m 7 15 (.int x) = some h' ∧ MH h' m (sWd H x) ∧ FrH m h h' := q.putG (k := 15) (by decide) (by decide) (sWd H x) (fun j hj hj2 hn => by
  have : j = 9 ∨ j = 10 ∨ j = 12 ∨ j = 13 ∨ j = 11 ∨ j = 14 ∨ j = 16 ∨ j = 17 := by omega
  rcases this with rfl | rfl | rfl | rfl | rfl | rfl | rfl | rfl <;> rfl) (fun _ _ z => z)
theorem MH.putN (q : MH h m H) (x : Int32) : ∃ h', x_put h m 7 16 (.int x) = some h' ∧ MH h' m (sNo H x) ∧ FrH m h h' := q.putG (k := 16) (by decide) (by decide) (sNo H x) (fun j hj hj2 hn => by
  have : j = 9 ∨ j = 10 ∨ j = 12 ∨ j = 13 ∨ j = 11 ∨ j = 14 ∨ j = 15 ∨ j = 17 := by omega
  rcases this with rfl | rfl | rfl | rfl | rfl | rfl | rfl | rfl <;> rfl) (fun _ _ z => z)
theorem MH.putS (q : MH h m H) (x : Int32) : ∃ h', x_put h m 7 17 (.int x) = some h' ∧ MH h' m (sSeed H x) ∧ FrH m h h' := q.putG (k := 17) (by decide) (by decide) (sSeed H x) (fun j hj hj2 hn => by
  have : j = 9 ∨ j = 10 ∨ j = 12 ∨ j = 13 ∨ j = 11 ∨ j = 14 ∨ j = 15 ∨ j = 16 := by omega
  rcases this with rfl | rfl | rfl | rfl | rfl | rfl | rfl | rfl <;> rfl) (fun _ _ z => z)
theorem MH.stR (q : MH h m H) (h4 : hP H ≤ 4) (hp : p < hP H) (x : Int32) : ∃ h', x_st h (m + 32) (nI p) x = some h' ∧ MH h' m (sRm H p x) ∧ FrH m h h' := by
  obtain ⟨g, ⟨fo, ao, eo⟩, fd, fr, a1, a2, c1, c2⟩ := q
  obtain ⟨h1, e, g1, f1⟩ := w_st a2 (j := p) (by omega) (by decide) x
  refine ⟨h1, e, ⟨fun j hj hj2 => f1.1 _ _ _ _ (fun z => z) (g j hj hj2), ⟨fo, f1.2 _ _ (by omega) ao, eo⟩, fd, upd fr p x, fun j hj => f1.2 _ _ (by omega) (a1 j hj), g1, c1, ?_⟩, f1.mono (fun a j z => absurd z (fun z => z)) (fun a z => by omega)⟩
  intro p2 hp2
  show upd fr p x p2 = upd (hR H) p x p2
  by_cases e : p2 = p
  · subst e; rw [pk_us, pk_us]
  · rw [pk_un e, pk_un e]; exact c2 p2 hp2
theorem m_opens (q : MH h m H) : ∃ h', f_X7_opens h m (nI d) set = some h' ∧ MH h' m (sOpenFor H d set) ∧ FrH m h h' := by
  simp only [f_X7_opens, q.O, Option.bind_some]
  obtain ⟨h1, e1, q1, f1⟩ := q.putO ((hO H &&& (set ^^^ (-1))) ||| i_shl 1 (nI d))
  obtain ⟨h2, e2, q2, f2⟩ := q1.putN (hN H + 1)
  refine ⟨h2, ?_, q2, f1.trans f2⟩
  simp only [e1, Option.bind_some, q1.N]
  show ((x_put h1 m 7 16 (Value.int (hN H + 1))).bind fun h4 => some h4) = some h2
  rw [e2]
  rfl
theorem m_draw {k : Nat} (q : MH h m H) (h0 : 0 < k) (hm : k < 2 ^ 31) : ∃ h', f_X7_draw h m (nI k) = some (nI (sVal H k), h') ∧ MH h' m (sSeed H (sDrawn H)) ∧ FrH m h h' := by
  obtain ⟨h1, e1, q1, f1⟩ := q.putS (sDrawn H)
  refine ⟨h1, ?_, q1, f1⟩
  unfold f_X7_draw
  rw [q.S, Option.bind_some, sMul_e, show sMul (hS H) = sDrawn H from rfl, e1, Option.bind_some, q1.S, Option.bind_some, pj_sSeed_S]
  have hl := ushr_lt (sDrawn H)
  unfold x_irem
  rw [if_neg (nI_ne0 h0 hm), i_ushr16, i_rem_n (by omega) h0 hm]
  rfl
end MM
