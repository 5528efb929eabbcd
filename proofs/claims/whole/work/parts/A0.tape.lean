/-! The tape: tokens, statements; the class's reader. -/
def wd (a : Nat) : List Nat := match a with
  | 3 => [100, 111, 111, 114]
  | 4 => [111, 110, 101]
  | 5 => [108, 97, 119]
  | 6 => [119, 105, 110, 100]
  | 7 => [109, 111, 118, 101, 115]
  | 8 => [111, 112, 101, 110]
  | 9 => [100, 111, 111, 114]
  | 10 => [111, 110, 101]
  | 11 => [108, 97, 119]
  | 12 => [119, 105, 110, 100]
  | 13 => [109, 111, 118, 101, 115]
  | _ => [111, 112, 101, 110]
theorem wd_ok : ∀ a, a < 15 → 3 ≤ a → (wd a).length ≤ 5 ∧ x_slen a = some (nI (wd a).length) ∧ ∀ i, i < (wd a).length → x_sch a (nI i) = some (nI ((wd a).getD i 0)) ∧ (wd a).getD i 0 < 256 := by decide +kernel
/-- size and bytes -/
abbrev TP : Type := Nat × (Nat → Nat)
def TOk (t : TP) : Prop := t.1 ≤ 250 ∧ ∀ j, j < t.1 → t.2 j < 256
def srt (t : TP) (p : Nat) : Nat := if p < t.1 then (if 97 ≤ t.2 p ∧ t.2 p ≤ 122 then 1 else if 48 ≤ t.2 p ∧ t.2 p ≤ 57 then 2 else if t.2 p = 59 then 3 else 4) else 0
def skp (t : TP) : Nat → Nat → Nat
  | 0, p => p
  | k + 1, p => if t.2 p = 32 then skp t k (p + 1) else p
def sk (t : TP) (p : Nat) : Nat := skp t (t.1 - p) p
def rnp (t : TP) (c : Nat) : Nat → Nat → Nat
  | 0, p => p
  | k + 1, p => if srt t p = c then rnp t c k (p + 1) else p
def rn (t : TP) (c p : Nat) : Nat := rnp t c (t.1 - p) p
/-- a token: its sort, where it begins, where it ends -/
abbrev TK : Type := Nat × Nat × Nat
def tkEnd (t : TP) (s : Nat) : Nat := if srt t s = 0 then s else if srt t s = 1 ∨ srt t s = 2 then rn t (srt t s) (s + 1) else s + 1
def nxt (t : TP) (e : Nat) : TK := (srt t (sk t e), sk t e, tkEnd t (sk t e))
theorem skp_in (t : TP) : ∀ k p, p ≤ skp t k p ∧ skp t k p ≤ p + k
  | 0, p => ⟨Nat.le_refl _, Nat.le_refl _⟩
  | k + 1, p => by
    show p ≤ (if _ then _ else _) ∧ (if _ then _ else _) ≤ p + (k + 1)
    split
    · have := skp_in t k (p + 1); omega
    · omega
theorem sk_in (t : TP) {e : Nat} (h : e ≤ t.1) : e ≤ sk t e ∧ sk t e ≤ t.1 := by
  have := skp_in t (t.1 - e) e
  unfold sk
  omega
theorem rnp_in (t : TP) (c : Nat) : ∀ k p, p ≤ rnp t c k p ∧ rnp t c k p ≤ p + k
  | 0, p => ⟨Nat.le_refl _, Nat.le_refl _⟩
  | k + 1, p => by
    show p ≤ (if _ then _ else _) ∧ (if _ then _ else _) ≤ p + (k + 1)
    split
    · have := rnp_in t c k (p + 1); omega
    · omega
theorem rn_in (t : TP) (c : Nat) {p : Nat} (h : p ≤ t.1) : p ≤ rn t c p ∧ rn t c p ≤ t.1 := by
  have := rnp_in t c (t.1 - p) p
  unfold rn
  omega
theorem srt_0 {t : TP} {p : Nat} : srt t p = 0 ↔ t.1 ≤ p := by
  unfold srt
  constructor
  · intro h
    by_cases c : p < t.1
    · rw [if_pos c] at h
      split at h
      · cases h
      · split at h
        · cases h
        · split at h <;> cases h
    · omega
  · intro h; rw [if_neg (by omega)]
theorem srt_le (t : TP) (p : Nat) : srt t p ≤ 4 := by
  unfold srt
  split
  · split
    · decide
    · split
      · decide
      · split <;> decide
  · decide
theorem tkEnd_in (t : TP) {s : Nat} (h : s ≤ t.1) : s ≤ tkEnd t s ∧ tkEnd t s ≤ t.1 ∧ (srt t s ≠ 0 → s < tkEnd t s) := by
  unfold tkEnd
  by_cases c : srt t s = 0
  · rw [if_pos c]; exact ⟨Nat.le_refl _, h, fun z => absurd c z⟩
  · rw [if_neg c]
    have hl : s < t.1 := by
      apply Classical.byContradiction
      intro hn
      exact c (srt_0.mpr (by omega))
    split
    · have := rn_in t (srt t s) (p := s + 1) (by omega)
      exact ⟨by omega, this.2, fun _ => by omega⟩
    · exact ⟨by omega, by omega, fun _ => by omega⟩
theorem nxt_in (t : TP) {e : Nat} (h : e ≤ t.1) : e ≤ (nxt t e).2.1 ∧ (nxt t e).2.1 ≤ (nxt t e).2.2 ∧ (nxt t e).2.2 ≤ t.1 ∧ ((nxt t e).1 ≠ 0 → (nxt t e).2.1 < (nxt t e).2.2) ∧ (nxt t e).1 ≤ 4 := by
  obtain ⟨a, b⟩ := sk_in t h
  obtain ⟨c, d, f⟩ := tkEnd_in t b
  exact ⟨a, c, d, f, srt_le _ _⟩
def isW (t : TP) (k : TK) (a : Nat) : Bool := decide (k.1 = 1) && decide (k.2.2 - k.2.1 = (wd a).length) && !anB (fun i => !decide (t.2 (k.2.1 + i) = (wd a).getD i 0)) (wd a).length
/-- what a number says: its first two figures -/
def vnN (t : TP) (s : Nat) : Nat → Nat
  | 0 => 0
  | i + 1 => vnN t s i * 10 + t.2 (s + i) - 48
def numV (t : TP) (k : TK) : Nat := vnN t k.2.1 (k.2.2 - k.2.1)
/-- a number within bounds; what is behind it -/
def pNum (t : TP) (k : TK) (lo hi : Nat) : Option (Nat × TK) := if k.1 = 2 ∧ k.2.2 - k.2.1 ≤ 2 ∧ lo ≤ numV t k ∧ numV t k ≤ hi then some (numV t k, nxt t k.2.2) else none
abbrev RS : Type := Sum Nat (HS × TK)
def pDoor3 (t : TP) (H : HS) (k a b : Nat) (τ : TK) : RS := if isW t τ 8 then .inr (sO (sAddD H (nI k) (nI a) (nI b)) (hO H ||| i_shl 1 (nI (hD H))), nxt t τ.2.2) else .inr (sAddD H (nI k) (nI a) (nI b), τ)
def pDoor (t : TP) (H : HS) (τ : TK) : RS := match pNum t τ 0 5 with
  | none => .inl τ.2.1
  | some (k, τ1) => match pNum t τ1 0 7 with
    | none => .inl τ1.2.1
    | some (a, τ2) => match pNum t τ2 0 7 with
      | none => .inl τ2.2.1
      | some (b, τ3) => if k ≠ 1 ∧ b = a then .inl τ2.2.1 else pDoor3 t H k a b τ3
def pOne (t : TP) (H : HS) (τ : TK) : RS := match pNum t τ 0 7 with
  | none => .inl τ.2.1
  | some (r, τ1) => .inr (sAddP H (nI r), τ1)
def pLaw (t : TP) (H : HS) (τ : TK) : RS := match pNum t τ 1 4 with
  | none => .inl τ.2.1
  | some (r, τ1) => .inr (sL H (nI r), τ1)
def pWind (t : TP) (H : HS) (τ : TK) : RS := match pNum t τ 0 99 with
  | none => .inl τ.2.1
  | some (r, τ1) => .inr (sWd H (nI r), τ1)
def pMoves (t : TP) (H : HS) (τ : TK) : RS := if hP H = 0 then .inl τ.2.1 else match pNum t τ 0 (hP H - 1) with
  | none => .inl τ.2.1
  | some (p, τ1) => match pNum t τ1 0 7 with
    | none => .inl τ1.2.1
    | some (r, τ2) => .inr (sRm H p (nI r), τ2)
def pStm (t : TP) (H : HS) (τ : TK) : RS :=
  if isW t τ 3 then (if hD H < 14 then pDoor t H (nxt t τ.2.2) else .inl τ.2.1)
  else if isW t τ 4 then (if hP H < 4 then pOne t H (nxt t τ.2.2) else .inl τ.2.1)
  else if isW t τ 5 then pLaw t H (nxt t τ.2.2)
  else if isW t τ 6 then pWind t H (nxt t τ.2.2)
  else if isW t τ 7 then pMoves t H (nxt t τ.2.2)
  else .inl τ.2.1
def rdA (t : TP) : Nat → Nat → HS → TK → Sum Nat (Nat × HS)
  | 0, c, H, _ => .inr (c, H)
  | k + 1, c, H, τ => match pStm t H τ with
    | .inl f => .inl f
    | .inr (H', τ') => if τ'.1 = 0 then .inr (c, H') else if τ'.1 = 3 then rdA t k (c + 1) H' (nxt t τ'.2.2) else .inl τ'.2.1
/-- the class's Tape at q -/
def TAt (h : xH) (q : Nat) (v : Nat → Int32) (fb : Nat → Int32) : Prop := x_get h q 5 0 = some (.ref (q + 1)) ∧ (∀ k, 1 ≤ k → k < 5 → x_get h q 5 k = some (.int (v k))) ∧ At h (q + 1) 250 fb
def FrT (q : Nat) (h h' : xH) : Prop := Fr (fun a _ => a = q) (fun _ => False) h h'
section TA
variable {h h' : xH} {q n : Nat} {v fb : Nat → Int32} {t : TP} {τ : TK}
theorem FrT.trans {h1 h2 : xH} (x : FrT q h h1) (y : FrT q h1 h2) : FrT q h h2 := Fr.trans x y
theorem FrT.refl : FrT q h h := Fr.rfl
theorem TAt.g (a : TAt h q v fb) {k : Nat} (h1 : 1 ≤ k) (h2 : k < 5) : x_gI h q 5 k = some (v k) := g_I (a.2.1 k h1 h2)
theorem TAt.r (a : TAt h q v fb) : x_gR h q 5 0 = some (q + 1) := g_R a.1
theorem TAt.ob (a : TAt h q v fb) : x_ob h q 5 = some () := g_ob a.1
theorem TAt.put (a : TAt h q v fb) {k : Nat} (h1 : 1 ≤ k) (h2 : k < 5) (x : Int32) : ∃ h', x_put h q 5 k (.int x) = some h' ∧ TAt h' q (upd v k x) fb ∧ FrT q h h' := by
  obtain ⟨h', e1, g, f⟩ := w_put (a.2.1 k h1 h2) (.int x)
  refine ⟨h', e1, ⟨f.1 _ _ _ _ (fun z => by omega) a.1, fun j j1 j2 => ?_, f.2 _ _ id a.2.2⟩, Fr.mono f (fun _ _ z => z.1) (fun _ z => z)⟩
  by_cases z : j = k
  · subst z; rw [g, pk_us]
  · rw [f.1 _ _ _ _ (fun y => z y.2) (a.2.1 j j1 j2), pk_un z]
/-- the bytes are the tape's -/
def TB (t : TP) (fb : Nat → Int32) : Prop := TOk t ∧ ∀ j, j < t.1 → fb j = nI (t.2 j)
theorem TAt.ld (a : TAt h q v fb) (b : TB t fb) {j : Nat} (hj : j < t.1) : x_ld h (q + 1) (nI j) = some (nI (t.2 j)) := by
  rw [a.2.2.ld (Nat.lt_of_lt_of_le hj b.1.1) (by decide), b.2 j hj]
theorem nI_eqc {a c : Nat} (ha : a < 256) (hc : c < 256) : nI a = nI c ↔ a = c := nI_eq (by omega) (by omega)
theorem t_sortAt (a : TAt h q v fb) (b : TB t fb) (v1 : v 1 = nI t.1) {p : Nat} (hp : p ≤ 250) : f_X5_sortAt h q (nI p) = some (nI (srt t p)) := by
  have h250 := b.1.1
  unfold f_X5_sortAt srt
  rw [a.g (k := 1) (by decide) (by decide), Option.bind_some, v1]
  by_cases c : p < t.1
  · have hb := b.1.2 p c
    rw [if_pos (nI_lt c (by omega)), if_pos c, a.r, Option.bind_some, a.ld b c, Option.bind_some]
    unfold f_X5_sortAt_J31 f_X5_sortAt_J45
    have key : ∀ x, x < 256 → (if nI x < (97 : Int32) then (if nI x < (48 : Int32) then (if nI x = (59 : Int32) then some (3 : Int32) else some 4) else if (57 : Int32) < nI x then (if nI x = (59 : Int32) then some (3 : Int32) else some 4) else some 2) else if (122 : Int32) < nI x then (if nI x < (48 : Int32) then (if nI x = (59 : Int32) then some (3 : Int32) else some 4) else if (57 : Int32) < nI x then (if nI x = (59 : Int32) then some (3 : Int32) else some 4) else some 2) else some 1) = some (nI (if 97 ≤ x ∧ x ≤ 122 then 1 else if 48 ≤ x ∧ x ≤ 57 then 2 else if x = 59 then 3 else 4)) := by decide +kernel
    exact key _ hb
  · rw [if_neg (nI_nlt (by omega) (by omega)), if_neg c]
    rfl
theorem t_8 (b : TB t fb) : ∀ (c n p : Nat) (h : xH) (v : Nat → Int32), TAt h q v fb → v 1 = nI t.1 → v 3 = nI p → p ≤ t.1 → t.1 - p = c → c < n → ∃ h', f_X5_nextToken_L8 q n h = some h' ∧ TAt h' q (upd v 3 (nI (skp t c p))) fb ∧ FrT q h h'
  | c, 0, _, _, _, _, _, _, _, _, hn => absurd hn (Nat.not_lt_zero _)
  | 0, n + 1, p, h, v, a, v1, v3, hp, hc, _ => by
    have h250 := b.1.1
    refine ⟨h, ?_, ⟨a.1, fun k k1 k2 => ?_, a.2.2⟩, FrT.refl⟩
    · rw [f_X5_nextToken_L8, a.g (k := 3) (by decide) (by decide), Option.bind_some, a.g (k := 1) (by decide) (by decide), Option.bind_some, v1, v3, if_pos (nI_le (by omega) (by omega))]
    · by_cases e : k = 3
      · subst e; rw [pk_us, a.2.1 3 (by decide) (by decide), v3]; rfl
      · rw [pk_un e]; exact a.2.1 k k1 k2
  | c + 1, n + 1, p, h, v, a, v1, v3, hp, hc, hn => by
    have h250 := b.1.1
    have hl : p < t.1 := by omega
    have hb := b.1.2 p hl
    have st : f_X5_nextToken_L8 q (n + 1) h = if nI (t.2 p) = 32 then (x_put h q 5 3 (.int (nI (p + 1)))).bind fun h9 => f_X5_nextToken_L8 q n h9 else some h := by
      rw [f_X5_nextToken_L8, a.g (k := 3) (by decide) (by decide), Option.bind_some, a.g (k := 1) (by decide) (by decide), Option.bind_some, v1, v3, if_neg (nI_ge hl (by omega)), a.r, Option.bind_some, Option.bind_some, a.ld b hl, Option.bind_some, Option.bind_some, nI_1]
    by_cases e : t.2 p = 32
    · rw [if_pos (by rw [e]; rfl)] at st
      obtain ⟨h1, e1, a1, f1⟩ := a.put (k := 3) (by decide) (by decide) (nI (p + 1))
      obtain ⟨h2, e2, a2, f2⟩ := t_8 b c n (p + 1) h1 _ a1 (by rw [pk_un (by decide), v1]) pk_us (by omega) (by omega) (by omega)
      refine ⟨h2, ?_, ?_, f1.trans f2⟩
      · rw [st, e1, Option.bind_some, e2]
      · rw [upd_upd] at a2
        show TAt h2 q (upd v 3 (nI (if t.2 p = 32 then skp t c (p + 1) else p))) fb
        rw [if_pos e]
        exact a2
    · rw [if_neg (show ¬ nI (t.2 p) = 32 from fun z => e ((nI_eqc hb (by decide)).mp (show nI (t.2 p) = nI 32 from z)))] at st
      refine ⟨h, st, ⟨a.1, fun k k1 k2 => ?_, a.2.2⟩, FrT.refl⟩
      show x_get h q 5 k = some (.int (upd v 3 (nI (if t.2 p = 32 then skp t c (p + 1) else p)) k))
      rw [if_neg e]
      by_cases ek : k = 3
      · subst ek; rw [pk_us, a.2.1 3 (by decide) (by decide), v3]
      · rw [pk_un ek]; exact a.2.1 k k1 k2
theorem t_98 (b : TB t fb) {cc : Nat} (hcc : cc ≤ 4) (h0 : cc ≠ 0) : ∀ (c n p : Nat) (h : xH) (v : Nat → Int32), TAt h q v fb → v 1 = nI t.1 → v 2 = nI cc → v 4 = nI p → p ≤ t.1 → t.1 - p = c → c < n → ∃ h', f_X5_nextToken_L98 q n h = some h' ∧ TAt h' q (upd v 4 (nI (rnp t cc c p))) fb ∧ FrT q h h'
  | c, 0, _, _, _, _, _, _, _, _, _, hn => absurd hn (Nat.not_lt_zero _)
  | 0, n + 1, p, h, v, a, v1, v2, v4, hp, hc, _ => by
    have h250 := b.1.1
    refine ⟨h, ?_, ⟨a.1, fun k k1 k2 => ?_, a.2.2⟩, FrT.refl⟩
    · rw [f_X5_nextToken_L98, a.g (k := 4) (by decide) (by decide), Option.bind_some, a.g (k := 1) (by decide) (by decide), Option.bind_some, v1, v4, if_pos (nI_le (by omega) (by omega))]
    · by_cases e : k = 4
      · subst e; rw [pk_us, a.2.1 4 (by decide) (by decide), v4]; rfl
      · rw [pk_un e]; exact a.2.1 k k1 k2
  | c + 1, n + 1, p, h, v, a, v1, v2, v4, hp, hc, hn => by
    have h250 := b.1.1
    have hl : p < t.1 := by omega
    have sl := srt_le t p
    have st : f_X5_nextToken_L98 q (n + 1) h = if nI (srt t p) = nI cc then (x_put h q 5 4 (.int (nI (p + 1)))).bind fun h31 => f_X5_nextToken_L98 q n h31 else some h := by
      rw [f_X5_nextToken_L98, a.g (k := 4) (by decide) (by decide), Option.bind_some, a.g (k := 1) (by decide) (by decide), Option.bind_some, v1, v4, if_neg (nI_ge hl (by omega)), Option.bind_some, a.ob, Option.bind_some, t_sortAt a b v1 (by omega), Option.bind_some, a.g (k := 2) (by decide) (by decide), Option.bind_some, v2, Option.bind_some, nI_1]
    by_cases e : srt t p = cc
    · rw [if_pos (by rw [e])] at st
      obtain ⟨h1, e1, a1, f1⟩ := a.put (k := 4) (by decide) (by decide) (nI (p + 1))
      obtain ⟨h2, e2, a2, f2⟩ := t_98 b hcc h0 c n (p + 1) h1 _ a1 (by rw [pk_un (by decide), v1]) (by rw [pk_un (by decide), v2]) pk_us (by omega) (by omega) (by omega)
      refine ⟨h2, ?_, ?_, f1.trans f2⟩
      · rw [st, e1, Option.bind_some, e2]
      · rw [upd_upd] at a2
        show TAt h2 q (upd v 4 (nI (if srt t p = cc then rnp t cc c (p + 1) else p))) fb
        rw [if_pos e]
        exact a2
    · rw [if_neg (fun z => e ((nI_eqc (by omega) (by omega)).mp z))] at st
      refine ⟨h, st, ⟨a.1, fun k k1 k2 => ?_, a.2.2⟩, FrT.refl⟩
      show x_get h q 5 k = some (.int (upd v 4 (nI (if srt t p = cc then rnp t cc c (p + 1) else p)) k))
      rw [if_neg e]
      by_cases ek : k = 4
      · subst ek; rw [pk_us, a.2.1 4 (by decide) (by decide), v4]
      · rw [pk_un ek]; exact a.2.1 k k1 k2
/-- the class's token in hand -/
def TTk (h : xH) (q : Nat) (t : TP) (fb : Nat → Int32) (τ : TK) : Prop := ∃ v, TAt h q v fb ∧ v 1 = nI t.1 ∧ v 2 = nI τ.1 ∧ v 3 = nI τ.2.1 ∧ v 4 = nI τ.2.2
theorem TTk.fr {F : Nat → Nat → Prop} {P : Nat → Prop} (a : TTk h q t fb τ) (f : Fr F P h h') (hF : ∀ k, ¬ F q k) (hP : ¬ P (q + 1)) : TTk h' q t fb τ := by
  obtain ⟨v, a1, a2⟩ := a
  exact ⟨v, ⟨f.1 _ _ _ _ (hF _) a1.1, fun k k1 k2 => f.1 _ _ _ _ (hF _) (a1.2.1 k k1 k2), f.2 _ _ hP a1.2.2⟩, a2⟩
theorem t_next (a : TAt h q v fb) (b : TB t fb) (v1 : v 1 = nI t.1) {e : Nat} (v4 : v 4 = nI e) (he : e ≤ t.1) (hn : 300 ≤ n) : ∃ h', f_X5_nextToken n h q = some h' ∧ TTk h' q t fb (nxt t e) ∧ FrT q h h' := by
  have h250 := b.1.1
  obtain ⟨s1, s2⟩ := sk_in t he
  have sl := srt_le t (sk t e)
  obtain ⟨h1, e1, a1, f1⟩ := a.put (k := 3) (by decide) (by decide) (nI e)
  obtain ⟨h2, e2, a2, f2⟩ := t_8 b (t.1 - e) n e h1 _ a1 (by rw [pk_un (by decide), v1]) pk_us he rfl (by omega)
  rw [upd_upd] at a2
  obtain ⟨h3, e3, a3, f3⟩ := a2.put (k := 2) (by decide) (by decide) (nI (srt t (sk t e)))
  obtain ⟨w, ew⟩ : ∃ w, w = upd (upd v 3 (nI (skp t (t.1 - e) e))) 2 (nI (srt t (sk t e))) := ⟨_, rfl⟩
  have w1 : w 1 = nI t.1 := by rw [ew, pk_un (by decide), pk_un (by decide), v1]
  have w2 : w 2 = nI (srt t (sk t e)) := by rw [ew, pk_us]
  have w3 : w 3 = nI (sk t e) := by rw [ew, pk_un (by decide), pk_us]; rfl
  rw [← ew] at a3
  have fr3 := f1.trans (f2.trans f3)
  have g3 : x_gI h2 q 5 3 = some (nI (sk t e)) := by rw [a2.g (k := 3) (by decide) (by decide), pk_us]; rfl
  have so : f_X5_sortAt h2 q (nI (sk t e)) = some (nI (srt t (sk t e))) := t_sortAt a2 b (by rw [pk_un (by decide), v1]) (by omega)
  have start : f_X5_nextToken n h q = (x_put h3 q 5 4 (.int (nI (if srt t (sk t e) = 0 then sk t e else sk t e + 1)))).bind fun h22 => (x_gI h22 q 5 2).bind fun x23 => if x23 = 1 then (f_X5_nextToken_L98 q n h22).bind fun q34 => some q34 else (x_gI h22 q 5 2).bind fun x35 => if x35 = 2 then (f_X5_nextToken_L98 q n h22).bind fun q36 => some q36 else some h22 := by
    unfold f_X5_nextToken
    rw [a.g (k := 4) (by decide) (by decide), Option.bind_some, v4, e1, Option.bind_some, e2, Option.bind_some, g3, Option.bind_some, a2.ob, Option.bind_some, so, Option.bind_some, e3, Option.bind_some, a3.g (k := 2) (by decide) (by decide), Option.bind_some, a3.g (k := 3) (by decide) (by decide), Option.bind_some, Option.bind_some, w2, w3, nI_1]
    by_cases c : srt t (sk t e) = 0
    · rw [if_pos (show nI (srt t (sk t e)) = 0 by rw [c]; rfl), if_pos c, Option.bind_some]
    · rw [if_neg (show ¬ nI (srt t (sk t e)) = 0 from nI_ne0 (by omega) (by omega)), if_neg c, Option.bind_some]
  obtain ⟨h4, e4, a4, f4⟩ := a3.put (k := 4) (by decide) (by decide) (nI (if srt t (sk t e) = 0 then sk t e else sk t e + 1))
  have g2 : x_gI h4 q 5 2 = some (nI (srt t (sk t e))) := by rw [a4.g (k := 2) (by decide) (by decide), pk_un (by decide), w2]
  rw [start, e4, Option.bind_some, g2, Option.bind_some, Option.bind_some]
  have run : (srt t (sk t e) = 1 ∨ srt t (sk t e) = 2) → ∃ h', ((f_X5_nextToken_L98 q n h4).bind fun q34 => some q34) = some h' ∧ TTk h' q t fb (nxt t e) ∧ FrT q h h' := by
    intro hc
    have hne : srt t (sk t e) ≠ 0 := by omega
    have hl : sk t e < t.1 := by
      apply Classical.byContradiction
      intro z
      exact hne (srt_0.mpr (by omega))
    obtain ⟨h5, e5, a5, f5⟩ := t_98 b sl hne (t.1 - (sk t e + 1)) n (sk t e + 1) h4 _ a4 (by rw [pk_un (by decide), w1]) (by rw [pk_un (by decide), w2]) (by rw [pk_us, if_neg hne]) (by omega) rfl (by omega)
    rw [upd_upd] at a5
    refine ⟨h5, by rw [e5, Option.bind_some], ⟨_, a5, ?_, ?_, ?_, ?_⟩, fr3.trans (f4.trans f5)⟩
    · rw [pk_un (by decide), w1]
    · rw [pk_un (by decide), w2]; rfl
    · rw [pk_un (by decide), w3]; rfl
    · rw [pk_us]
      show _ = nI (tkEnd t (sk t e))
      unfold tkEnd
      rw [if_neg hne, if_pos hc]
      rfl
  by_cases c1 : srt t (sk t e) = 1
  · rw [if_pos (show nI (srt t (sk t e)) = 1 by rw [c1]; rfl)]
    exact run (Or.inl c1)
  · rw [if_neg (show ¬ nI (srt t (sk t e)) = 1 from fun z => c1 ((nI_eqc (by omega) (by decide)).mp (show nI _ = nI 1 from z)))]
    by_cases c2 : srt t (sk t e) = 2
    · rw [if_pos (show nI (srt t (sk t e)) = 2 by rw [c2]; rfl)]
      exact run (Or.inr c2)
    · rw [if_neg (show ¬ nI (srt t (sk t e)) = 2 from fun z => c2 ((nI_eqc (by omega) (by decide)).mp (show nI _ = nI 2 from z)))]
      refine ⟨h4, rfl, ⟨_, a4, ?_, ?_, ?_, ?_⟩, fr3.trans f4⟩
      · rw [pk_un (by decide), w1]
      · rw [pk_un (by decide), w2]; rfl
      · rw [pk_un (by decide), w3]; rfl
      · rw [pk_us]
        show _ = nI (tkEnd t (sk t e))
        unfold tkEnd
        by_cases c : srt t (sk t e) = 0
        · rw [if_pos c, if_pos c]
        · rw [if_neg c, if_neg c, if_neg (fun z => by omega)]
theorem TTk.next (a : TTk h q t fb τ) (b : TB t fb) (ht : τ.2.2 ≤ t.1) (hn : 300 ≤ n) : ∃ h', f_X5_nextToken n h q = some h' ∧ TTk h' q t fb (nxt t τ.2.2) ∧ FrT q h h' := by
  obtain ⟨v, a1, a2, a3, a4, a5⟩ := a
  exact t_next a1 b a2 a5 ht hn
theorem TTk.ob (a : TTk h q t fb τ) : x_ob h q 5 = some () := a.choose_spec.1.ob
theorem TTk.tok (a : TTk h q t fb τ) : x_gI h q 5 2 = some (nI τ.1) := by obtain ⟨v, a1, a2, a3, a4, a5⟩ := a; rw [a1.g (k := 2) (by decide) (by decide), a3]
theorem TTk.st (a : TTk h q t fb τ) : x_gI h q 5 3 = some (nI τ.2.1) := by obtain ⟨v, a1, a2, a3, a4, a5⟩ := a; rw [a1.g (k := 3) (by decide) (by decide), a4]
theorem TTk.en (a : TTk h q t fb τ) : x_gI h q 5 4 = some (nI τ.2.2) := by obtain ⟨v, a1, a2, a3, a4, a5⟩ := a; rw [a1.g (k := 4) (by decide) (by decide), a5]
theorem TTk.r (a : TTk h q t fb τ) : x_gR h q 5 0 = some (q + 1) := a.choose_spec.1.r
theorem TTk.ld (a : TTk h q t fb τ) (b : TB t fb) {j : Nat} (hj : j < t.1) : x_ld h (q + 1) (nI j) = some (nI (t.2 j)) := a.choose_spec.1.ld b hj
/-- a token's own bounds -/
def TkOk (t : TP) (τ : TK) : Prop := τ.1 ≤ 4 ∧ τ.2.1 ≤ τ.2.2 ∧ τ.2.2 ≤ t.1 ∧ (τ.1 = 2 → ∀ j, τ.2.1 ≤ j → j < τ.2.2 → 48 ≤ t.2 j ∧ t.2 j ≤ 57)
theorem rnp_all (t : TP) (c : Nat) : ∀ k p j, p ≤ j → j < rnp t c k p → srt t j = c
  | 0, p, j, h1, h2 => by have : j < p := h2; omega
  | k + 1, p, j, h1, h2 => by
    change j < (if srt t p = c then _ else _) at h2
    split at h2
    · rename_i hc
      by_cases e : j = p
      · rw [e]; exact hc
      · exact rnp_all t c k (p + 1) j (by omega) h2
    · omega
theorem srt_2 {t : TP} {p : Nat} (h : srt t p = 2) : 48 ≤ t.2 p ∧ t.2 p ≤ 57 := by
  unfold srt at h
  split at h
  · split at h
    · cases h
    · split at h
      · assumption
      · split at h <;> cases h
  · cases h
theorem nxt_ok (t : TP) {e : Nat} (h : e ≤ t.1) : TkOk t (nxt t e) := by
  obtain ⟨a, b, c, d, f⟩ := nxt_in t h
  refine ⟨f, b, c, fun h2 j h3 h4 => ?_⟩
  apply srt_2
  have h2' : srt t (sk t e) = 2 := h2
  change j < tkEnd t (sk t e) at h4
  change sk t e ≤ j at h3
  unfold tkEnd at h4
  rw [h2', if_neg (by decide), if_pos (Or.inr rfl)] at h4
  by_cases ej : j = sk t e
  · rw [ej]; exact h2'
  · exact rnp_all t 2 _ _ j (by omega) h4
theorem t_isWord (a : TTk h q t fb τ) (b : TB t fb) (ok : TkOk t τ) {w : Nat} (h3 : 3 ≤ w) (h15 : w < 15) (hn : 20 ≤ n) : f_X5_isWord n h q w = some (bI (isW t τ w)) := by
  have h250 := b.1.1
  obtain ⟨o1, o2, o3, -⟩ := ok
  obtain ⟨w1, w2, w3⟩ := wd_ok w h15 h3
  unfold f_X5_isWord isW
  rw [a.tok, Option.bind_some]
  by_cases c1 : τ.1 = 1
  · rw [if_pos (show nI τ.1 = 1 by rw [c1]; rfl), decide_eq_true c1, Bool.true_and, a.en, Option.bind_some, a.st, Option.bind_some, w2, Option.bind_some, pk_sub o2]
    by_cases c2 : τ.2.2 - τ.2.1 = (wd w).length
    · rw [if_pos (by rw [c2]), decide_eq_true c2, Bool.true_and]
      have := lpAny (L := fun k i => f_X5_isWord_L28 h q w k (nI i)) (fun i => !decide (t.2 (τ.2.1 + i) = (wd w).getD i 0)) (D := (wd w).length) (n := n) (yes := Sum.inl 0) (no := Sum.inr ()) (by omega)
        (fun k => by
          show f_X5_isWord_L28 h q w (k + 1) (nI (wd w).length) = _
          rw [f_X5_isWord_L28, w2, Option.bind_some, if_pos (nI_le (Nat.le_refl _) (by omega))])
        (fun k i hi => by
          show f_X5_isWord_L28 h q w (k + 1) (nI i) = _
          obtain ⟨x1, x2⟩ := w3 i hi
          have hj : τ.2.1 + i < t.1 := by omega
          rw [f_X5_isWord_L28, w2, Option.bind_some, if_neg (nI_ge hi (by omega)), a.r, Option.bind_some, a.st, Option.bind_some, nI_add, a.ld b hj, Option.bind_some, x1, Option.bind_some, Option.bind_some, nI_1]
          by_cases e : t.2 (τ.2.1 + i) = (wd w).getD i 0
          · rw [if_pos (by rw [e]), decide_eq_true e]; rfl
          · rw [if_neg (fun z => e ((nI_eqc (b.1.2 _ hj) x2).mp z)), decide_eq_false e]; rfl)
      rw [show f_X5_isWord_L28 h q w n 0 = _ from this, Option.bind_some]
      cases anB (fun i => !decide (t.2 (τ.2.1 + i) = (wd w).getD i 0)) (wd w).length <;> rfl
    · rw [if_neg (fun z => c2 ((nI_eq (by omega) (by omega)).mp z)), decide_eq_false c2]
      rfl
  · rw [if_neg (show ¬ nI τ.1 = 1 from fun z => c1 ((nI_eqc (by omega) (by decide)).mp (show nI _ = nI 1 from z))), decide_eq_false c1]
    rfl
end TA
