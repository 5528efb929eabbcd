/-! The class's House: what changes it. -/
def FrB (b len : Nat) (h h' : xH) : Prop := Fr (fun a _ => b ≤ a ∧ a < b + len) (fun a => b ≤ a ∧ a < b + len) h h'
def sO (H : HS) (x : Int32) : HS := (hD H, hP H, x, hL H, hW H, hS H, hN H, hK H, hA H, hB H, hR H)
def sL (H : HS) (x : Int32) : HS := (hD H, hP H, hO H, x, hW H, hS H, hN H, hK H, hA H, hB H, hR H)
def sWd (H : HS) (x : Int32) : HS := (hD H, hP H, hO H, hL H, x, hS H, hN H, hK H, hA H, hB H, hR H)
def sSeed (H : HS) (x : Int32) : HS := (hD H, hP H, hO H, hL H, hW H, x, hN H, hK H, hA H, hB H, hR H)
def sNo (H : HS) (x : Int32) : HS := (hD H, hP H, hO H, hL H, hW H, hS H, x, hK H, hA H, hB H, hR H)
def sRm (H : HS) (p : Nat) (x : Int32) : HS := (hD H, hP H, hO H, hL H, hW H, hS H, hN H, hK H, hA H, hB H, upd (hR H) p x)
def sAddD (H : HS) (k a c : Int32) : HS := (hD H + 1, hP H, hO H, hL H, hW H, hS H, hN H, upd (hK H) (hD H) k, upd (hA H) (hD H) a, upd (hB H) (hD H) (if k = 1 then a else c), hR H)
def sAddP (H : HS) (r : Int32) : HS := (hD H, hP H + 1, hO H, hL H, hW H, hS H, hN H, hK H, hA H, hB H, upd (hR H) (hP H) r)
def sMayWalk (H : HS) (p d : Nat) : Bool := bt (hO H) d && !decide (hK H d = 1) && sAt H d (hR H p)
def sMayShut (H : HS) (p d : Nat) : Bool := bt (hO H) d && sShuts H d (hR H p)
def sStands (H : HS) (p d : Nat) : Bool := !bt (hO H) d && sOpens H d (hR H p)
def sOpensBy (H : HS) (p d : Nat) (set : Int32) : Bool := sStands H p d && decide (set &&& (sShutM H ^^^ (-1)) = 0) && sEn H set
def sGo (H : HS) (p d : Nat) : HS := sRm H p (if hR H p = hA H d then hB H d else hA H d)
def sOpenFor (H : HS) (d : Nat) (set : Int32) : HS := sNo (sO H ((hO H &&& (set ^^^ (-1))) ||| i_shl 1 (nI d))) (hN H + 1)
def sClr (set : Int32) (d : Nat) : Int32 := set &&& (i_shl 1 (nI d) ^^^ (-1))
/-! Projections of changed houses, by name (so that no number is ever unrolled). -/
section PJ
variable {H : HS} {x : Int32} {p : Nat} {a c k : Int32}
theorem pj_sO_D : hD (sO H x) = hD H := rfl
theorem pj_sO_P : hP (sO H x) = hP H := rfl
theorem pj_sO_O : hO (sO H x) = x := rfl
theorem pj_sO_L : hL (sO H x) = hL H := rfl
theorem pj_sO_W : hW (sO H x) = hW H := rfl
theorem pj_sO_S : hS (sO H x) = hS H := rfl
theorem pj_sO_N : hN (sO H x) = hN H := rfl
theorem pj_sO_K : hK (sO H x) = hK H := rfl
theorem pj_sO_A : hA (sO H x) = hA H := rfl
theorem pj_sO_B : hB (sO H x) = hB H := rfl
theorem pj_sO_R : hR (sO H x) = hR H := rfl
theorem pj_sL_D : hD (sL H x) = hD H := rfl
theorem pj_sL_P : hP (sL H x) = hP H := rfl
theorem pj_sL_O : hO (sL H x) = hO H := rfl
theorem pj_sL_L : hL (sL H x) = x := rfl
theorem pj_sL_W : hW (sL H x) = hW H := rfl
theorem pj_sL_S : hS (sL H x) = hS H := rfl
theorem pj_sL_N : hN (sL H x) = hN H := rfl
theorem pj_sL_K : hK (sL H x) = hK H := rfl
theorem pj_sL_A : hA (sL H x) = hA H := rfl
theorem pj_sL_B : hB (sL H x) = hB H := rfl
theorem pj_sL_R : hR (sL H x) = hR H := rfl
theorem pj_sWd_D : hD (sWd H x) = hD H := rfl
theorem pj_sWd_P : hP (sWd H x) = hP H := rfl
theorem pj_sWd_O : hO (sWd H x) = hO H := rfl
theorem pj_sWd_L : hL (sWd H x) = hL H := rfl
theorem pj_sWd_W : hW (sWd H x) = x := rfl
theorem pj_sWd_S : hS (sWd H x) = hS H := rfl
theorem pj_sWd_N : hN (sWd H x) = hN H := rfl
theorem pj_sWd_K : hK (sWd H x) = hK H := rfl
theorem pj_sWd_A : hA (sWd H x) = hA H := rfl
theorem pj_sWd_B : hB (sWd H x) = hB H := rfl
theorem pj_sWd_R : hR (sWd H x) = hR H := rfl
theorem pj_sSeed_D : hD (sSeed H x) = hD H := rfl
theorem pj_sSeed_P : hP (sSeed H x) = hP H := rfl
theorem pj_sSeed_O : hO (sSeed H x) = hO H := rfl
theorem pj_sSeed_L : hL (sSeed H x) = hL H := rfl
theorem pj_sSeed_W : hW (sSeed H x) = hW H := rfl
theorem pj_sSeed_S : hS (sSeed H x) = x := rfl
theorem pj_sSeed_N : hN (sSeed H x) = hN H := rfl
theorem pj_sSeed_K : hK (sSeed H x) = hK H := rfl
theorem pj_sSeed_A : hA (sSeed H x) = hA H := rfl
theorem pj_sSeed_B : hB (sSeed H x) = hB H := rfl
theorem pj_sSeed_R : hR (sSeed H x) = hR H := rfl
theorem pj_sNo_D : hD (sNo H x) = hD H := rfl
theorem pj_sNo_P : hP (sNo H x) = hP H := rfl
theorem pj_sNo_O : hO (sNo H x) = hO H := rfl
theorem pj_sNo_L : hL (sNo H x) = hL H := rfl
theorem pj_sNo_W : hW (sNo H x) = hW H := rfl
theorem pj_sNo_S : hS (sNo H x) = hS H := rfl
theorem pj_sNo_N : hN (sNo H x) = x := rfl
theorem pj_sNo_K : hK (sNo H x) = hK H := rfl
theorem pj_sNo_A : hA (sNo H x) = hA H := rfl
theorem pj_sNo_B : hB (sNo H x) = hB H := rfl
theorem pj_sNo_R : hR (sNo H x) = hR H := rfl
theorem pj_sRm_D : hD (sRm H p x) = hD H := rfl
theorem pj_sRm_P : hP (sRm H p x) = hP H := rfl
theorem pj_sRm_O : hO (sRm H p x) = hO H := rfl
theorem pj_sRm_L : hL (sRm H p x) = hL H := rfl
theorem pj_sRm_W : hW (sRm H p x) = hW H := rfl
theorem pj_sRm_S : hS (sRm H p x) = hS H := rfl
theorem pj_sRm_N : hN (sRm H p x) = hN H := rfl
theorem pj_sRm_K : hK (sRm H p x) = hK H := rfl
theorem pj_sRm_A : hA (sRm H p x) = hA H := rfl
theorem pj_sRm_B : hB (sRm H p x) = hB H := rfl
theorem pj_sRm_R : hR (sRm H p x) = upd (hR H) p x := rfl
theorem pj_sAddD_D : hD (sAddD H k a c) = hD H + 1 := rfl
theorem pj_sAddD_P : hP (sAddD H k a c) = hP H := rfl
theorem pj_sAddD_O : hO (sAddD H k a c) = hO H := rfl
theorem pj_sAddD_L : hL (sAddD H k a c) = hL H := rfl
theorem pj_sAddD_W : hW (sAddD H k a c) = hW H := rfl
theorem pj_sAddD_S : hS (sAddD H k a c) = hS H := rfl
theorem pj_sAddD_N : hN (sAddD H k a c) = hN H := rfl
theorem pj_sAddD_K : hK (sAddD H k a c) = upd (hK H) (hD H) k := rfl
theorem pj_sAddD_A : hA (sAddD H k a c) = upd (hA H) (hD H) a := rfl
theorem pj_sAddD_B : hB (sAddD H k a c) = upd (hB H) (hD H) (if k = 1 then a else c) := rfl
theorem pj_sAddD_R : hR (sAddD H k a c) = hR H := rfl
theorem pj_sAddP_D : hD (sAddP H x) = hD H := rfl
theorem pj_sAddP_P : hP (sAddP H x) = hP H + 1 := rfl
theorem pj_sAddP_O : hO (sAddP H x) = hO H := rfl
theorem pj_sAddP_L : hL (sAddP H x) = hL H := rfl
theorem pj_sAddP_W : hW (sAddP H x) = hW H := rfl
theorem pj_sAddP_S : hS (sAddP H x) = hS H := rfl
theorem pj_sAddP_N : hN (sAddP H x) = hN H := rfl
theorem pj_sAddP_K : hK (sAddP H x) = hK H := rfl
theorem pj_sAddP_A : hA (sAddP H x) = hA H := rfl
theorem pj_sAddP_B : hB (sAddP H x) = hB H := rfl
theorem pj_sAddP_R : hR (sAddP H x) = upd (hR H) (hP H) x := rfl
end PJ
section HL
variable {h h' : xH} {b d p n lo len : Nat} {H T : HS} {r set x : Int32}
theorem FrB.trans {h1 h2 : xH} (f : FrB lo len h h1) (g : FrB lo len h1 h2) : FrB lo len h h2 := Fr.trans f g
theorem FrB.rfl : FrB lo len h h := Fr.rfl
theorem HAt.fr {F : Nat → Nat → Prop} {P : Nat → Prop} (q : HAt h b H) (f : Fr F P h h') (hF : ∀ k, ¬ F b k) (hP : ∀ a, b < a → a < b + 5 → ¬ P a) : HAt h' b H := by
  obtain ⟨g, fk, fa, fb, fr, a1, a2, a3, a4, e1, e2⟩ := q
  exact ⟨fun k hk => f.1 _ _ _ _ (hF k) (g k hk), fk, fa, fb, fr, f.2 _ _ (hP _ (by omega) (by omega)) a1, f.2 _ _ (hP _ (by omega) (by omega)) a2, f.2 _ _ (hP _ (by omega) (by omega)) a3, f.2 _ _ (hP _ (by omega) (by omega)) a4, e1, e2⟩
theorem HAt.frB (q : HAt h b H) (f : FrB lo len h h') (hd : b + 5 ≤ lo ∨ lo + len ≤ b) : HAt h' b H := q.fr f (fun _ => by omega) (fun _ _ _ => by omega)
theorem w_put5 {ci k : Nat} {v0 : Value} (g : x_get h b ci k = some v0) (hl : 0 < len) (v : Value) : ∃ h', x_put h b ci k v = some h' ∧ x_get h' b ci k = some v ∧ (∀ a cj j w, (a ≠ b ∨ j ≠ k) → x_get h a cj j = some w → x_get h' a cj j = some w) ∧ (∀ a e, x_at h a = some (.inl e) → x_at h' a = some (.inl e)) ∧ FrB b len h h' := by
  obtain ⟨h1, e1, g1, f1⟩ := w_put g v
  exact ⟨h1, e1, g1, fun a cj j w hne gg => f1.1 a cj j w (fun z => hne.elim (fun y => y z.1) (fun y => y z.2)) gg, fun a e gg => f1.2 a e (fun z => z) gg, f1.mono (fun a k z => by omega) (fun a z => absurd z (fun z => z))⟩
theorem HAt.putG (q : HAt h b H) {k : Nat} (hk : k < 11) (H' : HS) (e1 : ∀ j, j < 11 → j ≠ k → hf b H' j = hf b H j) (e2 : ∀ fk fa fb fr : Nat → Int32, ((∀ j, j < hD H → fk j = hK H j ∧ fa j = hA H j ∧ fb j = hB H j) ∧ ∀ p, p < hP H → fr p = hR H p) → (∀ j, j < hD H' → fk j = hK H' j ∧ fa j = hA H' j ∧ fb j = hB H' j) ∧ ∀ p, p < hP H' → fr p = hR H' p) : ∃ h', x_put h b 0 k (hf b H' k) = some h' ∧ HAt h' b H' ∧ FrB b 5 h h' := by
  obtain ⟨g, fk, fa, fb, fr, a1, a2, a3, a4, c1, c2⟩ := q
  obtain ⟨h1, e, g1, f1, f2, f3⟩ := w_put5 (len := 5) (g k hk) (by omega) (hf b H' k)
  obtain ⟨d1, d2⟩ := e2 fk fa fb fr ⟨c1, c2⟩
  refine ⟨h1, e, ⟨fun j hj => ?_, fk, fa, fb, fr, f2 _ _ a1, f2 _ _ a2, f2 _ _ a3, f2 _ _ a4, d1, d2⟩, f3⟩
  by_cases ej : j = k
  · subst ej; exact g1
  · rw [e1 j hj ej]; exact f1 _ _ _ _ (Or.inr ej) (g j hj)
theorem HAt.putO (q : HAt h b H) (x : Int32) : ∃ h', x_put h b 0 5 (.int x) = some h' ∧ HAt h' b (sO H x) ∧ FrB b 5 h h' := q.putG (k := 5) (by decide) (sO H x) (fun j hj hn => by
  have : j = 0 ∨ j = 1 ∨ j = 2 ∨ j = 3 ∨ j = 4 ∨ j = 6 ∨ j = 7 ∨ j = 8 ∨ j = 9 ∨ j = 10 := by omega
  rcases this with rfl | rfl | rfl | rfl | rfl | rfl | rfl | rfl | rfl | rfl <;> rfl) (fun _ _ _ _ z => z)
theorem HAt.putL (q : HAt h b H) (x : Int32) : ∃ h', x_put h b 0 7 (.int x) = some h' ∧ HAt h' b (sL H x) ∧ FrB b 5 h h' := q.putG (k := 7) (by decide) (sL H x) (fun j hj hn => by
  have : j = 0 ∨ j = 1 ∨ j = 2 ∨ j = 3 ∨ j = 4 ∨ j = 6 ∨ j = 5 ∨ j = 8 ∨ j = 9 ∨ j = 10 := by omega
  rcases this with rfl | rfl | rfl | rfl | rfl | rfl | rfl | rfl | rfl | rfl <;> rfl) (fun _ _ _ _ z => z)
theorem HAt.putW (q : HAt h b H) (x : Int32) : ∃ h', x_put h b 0 8 (.int x) = some h' ∧ HAt h' b (sWd H x) ∧ FrB b 5 h h' := q.putG (k := 8) (by decide) (sWd H x) (fun j hj hn => by
  have : j = 0 ∨ j = 1 ∨ j = 2 ∨ j = 3 ∨ j = 4 ∨ j = 6 ∨ j = 5 ∨ j = 7 ∨ j = 9 ∨ j = 10 := by omega
  rcases this with rfl | rfl | rfl | rfl | rfl | rfl | rfl | rfl | rfl | rfl <;> rfl) (fun _ _ _ _ z => z)
theorem HAt.putS (q : HAt h b H) (x : Int32) : ∃ h', x_put h b 0 9 (.int x) = some h' ∧ HAt h' b (sSeed H x) ∧ FrB b 5 h h' := q.putG (k := 9) (by decide) (sSeed H x) (fun j hj hn => by
  have : j = 0 ∨ j = 1 ∨ j = 2 ∨ j = 3 ∨ j = 4 ∨ j = 6 ∨ j = 5 ∨ j = 7 ∨ j = 8 ∨ j = 10 := by omega
  rcases this with rfl | rfl | rfl | rfl | rfl | rfl | rfl | rfl | rfl | rfl <;> rfl) (fun _ _ _ _ z => z)
theorem HAt.putN (q : HAt h b H) (x : Int32) : ∃ h', x_put h b 0 10 (.int x) = some h' ∧ HAt h' b (sNo H x) ∧ FrB b 5 h h' := q.putG (k := 10) (by decide) (sNo H x) (fun j hj hn => by
  have : j = 0 ∨ j = 1 ∨ j = 2 ∨ j = 3 ∨ j = 4 ∨ j = 6 ∨ j = 5 ∨ j = 7 ∨ j = 8 ∨ j = 9 := by omega
  rcases this with rfl | rfl | rfl | rfl | rfl | rfl | rfl | rfl | rfl | rfl <;> rfl) (fun _ _ _ _ z => z)
theorem w_st5 {a m j : Nat} {f : Nat → Int32} (g : At h a m f) (hj : j < m) (hm : m < 2 ^ 31) (ha : b ≤ a ∧ a < b + len) (x : Int32) : ∃ h', x_st h a (nI j) x = some h' ∧ At h' a m (upd f j x) ∧ (∀ y cj j w, x_get h y cj j = some w → x_get h' y cj j = some w) ∧ (∀ y e, y ≠ a → x_at h y = some (.inl e) → x_at h' y = some (.inl e)) ∧ FrB b len h h' := by
  obtain ⟨h1, e1, g1, f1⟩ := w_st g hj hm x
  exact ⟨h1, e1, g1, fun y cj j w gg => f1.1 y cj j w (fun z => z) gg, fun y e hy gg => f1.2 y e hy gg, f1.mono (fun a k z => absurd z (fun z => z)) (fun y z => by omega)⟩
theorem HAt.stR (q : HAt h b H) (ok : hP H ≤ 4) (hp : p < hP H) (x : Int32) : ∃ h', x_st h (b + 4) (nI p) x = some h' ∧ HAt h' b (sRm H p x) ∧ FrB b 5 h h' := by
  obtain ⟨g, fk, fa, fb, fr, a1, a2, a3, a4, c1, c2⟩ := q
  obtain ⟨h1, e, g1, f1, f2, f3⟩ := w_st5 (b := b) (len := 5) a4 (j := p) (by omega) (by decide) (by omega) x
  refine ⟨h1, e, ⟨fun j hj => f1 _ _ _ _ (g j hj), fk, fa, fb, upd fr p x, f2 _ _ (by omega) a1, f2 _ _ (by omega) a2, f2 _ _ (by omega) a3, g1, c1, ?_⟩, f3⟩
  intro p2 hp2
  show upd fr p x p2 = upd (hR H) p x p2
  by_cases e : p2 = p
  · subst e; rw [pk_us, pk_us]
  · rw [pk_un e, pk_un e]; exact c2 p2 hp2
theorem h_goThrough (q : HAt h b H) (ok : HOk H) (hp : p < hP H) (hd : d < hD H) : ∃ h', f_X0_goThrough h b (nI p) (nI d) = some h' ∧ HAt h' b (sGo H p d) ∧ FrB b 5 h h' := by
  simp only [f_X0_goThrough, q.rr, q.ldR ok hp, q.ra, q.rb, q.ldA ok hd, q.ldB ok hd, Option.bind_some, sGo]
  by_cases e : hR H p = hA H d
  · rw [if_pos e, if_pos e]
    obtain ⟨h1, e1, q1, f1⟩ := q.stR ok.2.1 hp (hB H d)
    exact ⟨h1, by rw [e1]; rfl, q1, f1⟩
  · rw [if_neg e, if_neg e]
    obtain ⟨h1, e1, q1, f1⟩ := q.stR ok.2.1 hp (hA H d)
    exact ⟨h1, by rw [e1]; rfl, q1, f1⟩
theorem h_openFor (q : HAt h b H) : ∃ h', f_X0_openFor h b (nI d) set = some h' ∧ HAt h' b (sOpenFor H d set) ∧ FrB b 5 h h' := by
  simp only [f_X0_openFor, q.O, Option.bind_some]
  obtain ⟨h1, e1, q1, f1⟩ := q.putO ((hO H &&& (set ^^^ (-1))) ||| i_shl 1 (nI d))
  obtain ⟨h2, e2, q2, f2⟩ := q1.putN (hN H + 1)
  refine ⟨h2, ?_, q2, f1.trans f2⟩
  simp only [e1, Option.bind_some, q1.N]
  show ((x_put h1 b 0 10 (Value.int (hN H + 1))).bind fun h4 => some h4) = some h2
  rw [e2]
  rfl
theorem h_addDoor (q : HAt h b H) (hd : hD H < 14) (k a c : Int32) : ∃ h', f_X0_addDoor h b k a c = some (nI (hD H), h') ∧ HAt h' b (sAddD H k a c) ∧ FrB b 5 h h' := by
  have q0 := q
  obtain ⟨g, fk, fa, fb, fr, a1, a2, a3, a4, c1, c2⟩ := q
  obtain ⟨h1, e1, g1, f1, r1, s1⟩ := w_st5 (b := b) (len := 5) a1 (j := hD H) hd (by decide) (by omega) k
  obtain ⟨h2, e2, g2, f2, r2, s2⟩ := w_st5 (b := b) (len := 5) (r1 _ _ (by omega) a2) (j := hD H) hd (by decide) (by omega) a
  obtain ⟨h3, e3, g3, f3, r3, s3⟩ := w_st5 (b := b) (len := 5) (r2 _ _ (by omega) (r1 _ _ (by omega) a3)) (j := hD H) hd (by decide) (by omega) (if k = 1 then a else c)
  have G1 : ∀ j, j < 11 → x_get h1 b 0 j = some (hf b H j) := fun j hj => f1 _ _ _ _ (g j hj)
  have G2 : ∀ j, j < 11 → x_get h2 b 0 j = some (hf b H j) := fun j hj => f2 _ _ _ _ (G1 j hj)
  have G3 : ∀ j, j < 11 → x_get h3 b 0 j = some (hf b H j) := fun j hj => f3 _ _ _ _ (G2 j hj)
  obtain ⟨h4, e4, g4, f4, r4, s4⟩ := w_put5 (len := 5) (G3 4 (by decide)) (by omega) (.int (nI (hD H + 1)))
  refine ⟨h4, ?_, ⟨?_, upd fk (hD H) k, upd fa (hD H) a, upd fb (hD H) (if k = 1 then a else c), fr, r4 _ _ (r3 _ _ (by omega) (r2 _ _ (by omega) g1)), r4 _ _ (r3 _ _ (by omega) g2), r4 _ _ g3, r4 _ _ (r3 _ _ (by omega) (r2 _ _ (by omega) (r1 _ _ (by omega) a4))), ?_, c2⟩, ((s1.trans s2).trans s3).trans s4⟩
  · unfold f_X0_addDoor
    rw [q0.rk, Option.bind_some, q0.D, Option.bind_some, e1, Option.bind_some, g_R (G1 1 (by decide)), Option.bind_some, g_I (G1 4 (by decide)), Option.bind_some, e2, Option.bind_some, g_R (G2 2 (by decide)), Option.bind_some, g_I (G2 4 (by decide)), Option.bind_some]
    have : (if k = (1 : Int32) then some a else some c) = some (if k = 1 then a else c) := by split <;> rfl
    rw [this, Option.bind_some, e3, Option.bind_some, g_I (G3 4 (by decide)), Option.bind_some, nI_1, e4, Option.bind_some, g_I g4, Option.bind_some, nI_pred]
  · intro j hj
    by_cases e : j = 4
    · subst e; exact g4
    · have e5 : hf b (sAddD H k a c) j = hf b H j := by
        have : j = 0 ∨ j = 1 ∨ j = 2 ∨ j = 3 ∨ j = 5 ∨ j = 6 ∨ j = 7 ∨ j = 8 ∨ j = 9 ∨ j = 10 := by omega
        rcases this with rfl | rfl | rfl | rfl | rfl | rfl | rfl | rfl | rfl | rfl <;> rfl
      rw [e5]
      exact f4 _ _ _ _ (Or.inr e) (G3 j hj)
  · intro j hj
    have hj' : j < hD H + 1 := hj
    show upd fk (hD H) k j = upd (hK H) (hD H) k j ∧ upd fa (hD H) a j = upd (hA H) (hD H) a j ∧ upd fb (hD H) _ j = upd (hB H) (hD H) _ j
    by_cases e : j = hD H
    · subst e; exact ⟨by rw [pk_us, pk_us], by rw [pk_us, pk_us], by rw [pk_us, pk_us]⟩
    · have := c1 j (by omega)
      exact ⟨by rw [pk_un e, pk_un e]; exact this.1, by rw [pk_un e, pk_un e]; exact this.2.1, by rw [pk_un e, pk_un e]; exact this.2.2⟩
theorem h_addOne (q : HAt h b H) (hp : hP H < 4) (r : Int32) : ∃ h', f_X0_addOne h b r = some (nI (hP H), h') ∧ HAt h' b (sAddP H r) ∧ FrB b 5 h h' := by
  have q0 := q
  obtain ⟨g, fk, fa, fb, fr, a1, a2, a3, a4, c1, c2⟩ := q
  obtain ⟨h1, e1, g1, f1, r1, s1⟩ := w_st5 (b := b) (len := 5) a4 (j := hP H) hp (by decide) (by omega) r
  have G1 : ∀ j, j < 11 → x_get h1 b 0 j = some (hf b H j) := fun j hj => f1 _ _ _ _ (g j hj)
  obtain ⟨h4, e4, g4, f4, r4, s4⟩ := w_put5 (len := 5) (G1 6 (by decide)) (by omega) (.int (nI (hP H + 1)))
  refine ⟨h4, ?_, ⟨?_, fk, fa, fb, upd fr (hP H) r, r4 _ _ (r1 _ _ (by omega) a1), r4 _ _ (r1 _ _ (by omega) a2), r4 _ _ (r1 _ _ (by omega) a3), r4 _ _ g1, c1, ?_⟩, s1.trans s4⟩
  · unfold f_X0_addOne
    rw [q0.rr, Option.bind_some, q0.P, Option.bind_some, e1, Option.bind_some, g_I (G1 6 (by decide)), Option.bind_some, nI_1, e4, Option.bind_some, g_I g4, Option.bind_some, nI_pred]
  · intro j hj
    by_cases e : j = 6
    · subst e; exact g4
    · have e5 : hf b (sAddP H r) j = hf b H j := by
        have : j = 0 ∨ j = 1 ∨ j = 2 ∨ j = 3 ∨ j = 5 ∨ j = 4 ∨ j = 7 ∨ j = 8 ∨ j = 9 ∨ j = 10 := by omega
        rcases this with rfl | rfl | rfl | rfl | rfl | rfl | rfl | rfl | rfl | rfl <;> rfl
      rw [e5]
      exact f4 _ _ _ _ (Or.inr e) (G1 j hj)
  · intro j hj
    have hj' : j < hP H + 1 := hj
    show upd fr (hP H) r j = upd (hR H) (hP H) r j
    by_cases e : j = hP H
    · subst e; rw [pk_us, pk_us]
    · rw [pk_un e, pk_un e]; exact c2 j (by omega)
/-- a house becomes as another -/
theorem h_become2 {o : Nat} (ok : HOk H) (hd : b + 5 ≤ o ∨ o + 5 ≤ b) (hn : 20 ≤ n) (q : HAt h b T) (qo : HAt h o H) : ∃ h' fk fa fb fr, f_X0_become_L2 b o n 0 h = some h' ∧ (∀ k, k < 11 → x_get h' b 0 k = some (hf b T k)) ∧ At h' (b + 1) 14 fk ∧ At h' (b + 2) 14 fa ∧ At h' (b + 3) 14 fb ∧ At h' (b + 4) 4 fr ∧ (∀ j, j < hD H → fk j = hK H j ∧ fa j = hA H j ∧ fb j = hB H j) ∧ HAt h' o H ∧ FrB b 5 h h' := by
  have h14 := ok.1
  obtain ⟨g, fk, fa, fb, fr, a1, a2, a3, a4, c1, c2⟩ := q
  have := lp0 (L := fun k s i => f_X0_become_L2 b o k (nI i) s) (I := fun i s => ∃ fk fa fb fr, (∀ k, k < 11 → x_get s b 0 k = some (hf b T k)) ∧ At s (b + 1) 14 fk ∧ At s (b + 2) 14 fa ∧ At s (b + 3) 14 fb ∧ At s (b + 4) 4 fr ∧ (∀ j, j < i → fk j = hK H j ∧ fa j = hA H j ∧ fb j = hB H j) ∧ HAt s o H ∧ FrB b 5 h s) (R := fun s => ∃ fk fa fb fr, (∀ k, k < 11 → x_get s b 0 k = some (hf b T k)) ∧ At s (b + 1) 14 fk ∧ At s (b + 2) 14 fa ∧ At s (b + 3) 14 fb ∧ At s (b + 4) 4 fr ∧ (∀ j, j < hD H → fk j = hK H j ∧ fa j = hA H j ∧ fb j = hB H j) ∧ HAt s o H ∧ FrB b 5 h s) (D := hD H) (n := n) (s := h) (by omega)
    ⟨fk, fa, fb, fr, g, a1, a2, a3, a4, fun j hj => absurd hj (by omega), qo, FrB.rfl⟩
    (fun k s hs => by
      refine ⟨s, ?_, hs⟩
      obtain ⟨fk, fa, fb, fr, g, a1, a2, a3, a4, c1, qo, f⟩ := hs
      show f_X0_become_L2 b o (k + 1) (nI (hD H)) s = _
      unfold f_X0_become_L2
      simp only [qo.D, Option.bind_some]
      rw [if_pos (nI_le (Nat.le_refl _) (by omega))])
    (fun k s i hi hs => by
      right
      obtain ⟨fk, fa, fb, fr, g, a1, a2, a3, a4, c1, qo, f⟩ := hs
      obtain ⟨h1, e1, g1, f1, r1, s1⟩ := w_st5 (b := b) (len := 5) a1 (j := i) (by omega) (by decide) (by omega) (hK H i)
      have qo1 := qo.frB s1 (by omega)
      obtain ⟨h2, e2, g2, f2, r2, s2⟩ := w_st5 (b := b) (len := 5) (r1 _ _ (by omega) a2) (j := i) (by omega) (by decide) (by omega) (hA H i)
      have qo2 := qo1.frB s2 (by omega)
      obtain ⟨h3, e3, g3, f3, r3, s3⟩ := w_st5 (b := b) (len := 5) (r2 _ _ (by omega) (r1 _ _ (by omega) a3)) (j := i) (by omega) (by decide) (by omega) (hB H i)
      have qo3 := qo2.frB s3 (by omega)
      have G1 : ∀ j, j < 11 → x_get h1 b 0 j = some (hf b T j) := fun j hj => f1 _ _ _ _ (g j hj)
      have G2 : ∀ j, j < 11 → x_get h2 b 0 j = some (hf b T j) := fun j hj => f2 _ _ _ _ (G1 j hj)
      have G3 : ∀ j, j < 11 → x_get h3 b 0 j = some (hf b T j) := fun j hj => f3 _ _ _ _ (G2 j hj)
      refine ⟨h3, ?_, upd fk i (hK H i), upd fa i (hA H i), upd fb i (hB H i), fr, G3, r3 _ _ (by omega) (r2 _ _ (by omega) g1), r3 _ _ (by omega) g2, g3, r3 _ _ (by omega) (r2 _ _ (by omega) (r1 _ _ (by omega) a4)), ?_, qo3, ((f.trans s1).trans s2).trans s3⟩
      · show f_X0_become_L2 b o (k + 1) (nI i) s = f_X0_become_L2 b o k (nI (i + 1)) h3
        rw [f_X0_become_L2]
        rw [qo.D, Option.bind_some, if_neg (nI_ge hi (by omega)), g_R (g 0 (by decide)), Option.bind_some, qo.rk, Option.bind_some, qo.ldK ok hi, Option.bind_some, e1, Option.bind_some, g_R (G1 1 (by decide)), Option.bind_some, qo1.ra, Option.bind_some, qo1.ldA ok hi, Option.bind_some, e2, Option.bind_some, g_R (G2 2 (by decide)), Option.bind_some, qo2.rb, Option.bind_some, qo2.ldB ok hi, Option.bind_some, e3, Option.bind_some, Option.bind_some, nI_1]
      · intro j hj
        by_cases e : j = i
        · subst e; exact ⟨pk_us, pk_us, pk_us⟩
        · have := c1 j (by omega)
          exact ⟨by rw [pk_un e]; exact this.1, by rw [pk_un e]; exact this.2.1, by rw [pk_un e]; exact this.2.2⟩)
  obtain ⟨h', e, fk, fa, fb, fr, r⟩ := this
  exact ⟨h', fk, fa, fb, fr, e, r⟩
theorem h_become54 {o : Nat} {fk fa fb fr : Nat → Int32} (ok : HOk H) (hd : b + 5 ≤ o ∨ o + 5 ≤ b) (hn : 20 ≤ n) (g : ∀ k, k < 11 → x_get h b 0 k = some (hf b T k)) (a1 : At h (b + 1) 14 fk) (a2 : At h (b + 2) 14 fa) (a3 : At h (b + 3) 14 fb) (a4 : At h (b + 4) 4 fr) (qo : HAt h o H) : ∃ h' fr, f_X0_become_L54 b o n 0 h = some h' ∧ (∀ k, k < 11 → x_get h' b 0 k = some (hf b T k)) ∧ At h' (b + 1) 14 fk ∧ At h' (b + 2) 14 fa ∧ At h' (b + 3) 14 fb ∧ At h' (b + 4) 4 fr ∧ (∀ j, j < hP H → fr j = hR H j) ∧ HAt h' o H ∧ FrB b 5 h h' := by
  have h4 := ok.2.1
  have := lp0 (L := fun k s i => f_X0_become_L54 b o k (nI i) s) (I := fun i s => ∃ fr, (∀ k, k < 11 → x_get s b 0 k = some (hf b T k)) ∧ At s (b + 1) 14 fk ∧ At s (b + 2) 14 fa ∧ At s (b + 3) 14 fb ∧ At s (b + 4) 4 fr ∧ (∀ j, j < i → fr j = hR H j) ∧ HAt s o H ∧ FrB b 5 h s) (R := fun s => ∃ fr, (∀ k, k < 11 → x_get s b 0 k = some (hf b T k)) ∧ At s (b + 1) 14 fk ∧ At s (b + 2) 14 fa ∧ At s (b + 3) 14 fb ∧ At s (b + 4) 4 fr ∧ (∀ j, j < hP H → fr j = hR H j) ∧ HAt s o H ∧ FrB b 5 h s) (D := hP H) (n := n) (s := h) (by omega)
    ⟨fr, g, a1, a2, a3, a4, fun j hj => absurd hj (by omega), qo, FrB.rfl⟩
    (fun k s hs => by
      refine ⟨s, ?_, hs⟩
      obtain ⟨fr, g, a1, a2, a3, a4, c1, qo, f⟩ := hs
      show f_X0_become_L54 b o (k + 1) (nI (hP H)) s = _
      unfold f_X0_become_L54
      simp only [qo.P, Option.bind_some]
      rw [if_pos (nI_le (Nat.le_refl _) (by omega))])
    (fun k s i hi hs => by
      right
      obtain ⟨fr, g, a1, a2, a3, a4, c1, qo, f⟩ := hs
      obtain ⟨h1, e1, g1, f1, r1, s1⟩ := w_st5 (b := b) (len := 5) a4 (j := i) (by omega) (by decide) (by omega) (hR H i)
      have qo1 := qo.frB s1 (by omega)
      have G1 : ∀ j, j < 11 → x_get h1 b 0 j = some (hf b T j) := fun j hj => f1 _ _ _ _ (g j hj)
      refine ⟨h1, ?_, upd fr i (hR H i), G1, r1 _ _ (by omega) a1, r1 _ _ (by omega) a2, r1 _ _ (by omega) a3, g1, ?_, qo1, f.trans s1⟩
      · show f_X0_become_L54 b o (k + 1) (nI i) s = f_X0_become_L54 b o k (nI (i + 1)) h1
        rw [f_X0_become_L54]
        rw [qo.P, Option.bind_some, if_neg (nI_ge hi (by omega)), g_R (g 3 (by decide)), Option.bind_some, qo.rr, Option.bind_some, qo.ldR ok hi, Option.bind_some, e1, Option.bind_some, Option.bind_some, nI_1]
      · intro j hj
        by_cases e : j = i
        · subst e; exact pk_us
        · rw [pk_un e]; exact c1 j (by omega))
  obtain ⟨h', e, fr, r⟩ := this
  exact ⟨h', fr, e, r⟩
end HL
