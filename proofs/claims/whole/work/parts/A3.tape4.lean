/-! The reference's reader: tokens. -/
def fgN (t : TP) (s : Nat) : Nat → Nat
  | 0 => 0
  | i + 1 => if i < 2 then fgN t s i * 10 + t.2 (s + i) - 48 else 100000
def fig (t : TP) (τ : TK) : Nat := if τ.1 = 2 then fgN t τ.2.1 (τ.2.2 - τ.2.1) else 0
def MT (h : xH) (m : Nat) (v fb ft : Nat → Int32) : Prop := x_get h m 7 6 = some (.ref (m + 15)) ∧ x_get h m 7 25 = some (.ref (m + 33)) ∧ (∀ k, (k = 7 ∨ (20 ≤ k ∧ k < 25) ∨ k = 26) → x_get h m 7 k = some (.int (v k))) ∧ At h (m + 15) 250 fb ∧ At h (m + 33) 3 ft
def FrN (m : Nat) (h h' : xH) : Prop := Fr (fun a k => a = m ∧ (k = 7 ∨ (20 ≤ k ∧ k < 25) ∨ k = 26)) (fun a => a = m + 33) h h'
section MTs
variable {h h' : xH} {m n : Nat} {v fb ft : Nat → Int32} {t : TP} {τ : TK} {H : HS}
theorem FrN.trans {h1 h2 : xH} (x : FrN m h h1) (y : FrN m h1 h2) : FrN m h h2 := Fr.trans x y
theorem FrN.refl : FrN m h h := Fr.rfl
theorem MT.g (a : MT h m v fb ft) {k : Nat} (hk : k = 7 ∨ (20 ≤ k ∧ k < 25) ∨ k = 26) : x_gI h m 7 k = some (v k) := g_I (a.2.2.1 k hk)
theorem MT.r (a : MT h m v fb ft) : x_gR h m 7 6 = some (m + 15) := g_R a.1
theorem MT.rt (a : MT h m v fb ft) : x_gR h m 7 25 = some (m + 33) := g_R a.2.1
theorem MT.ob (a : MT h m v fb ft) : x_ob h m 7 = some () := g_ob a.1
theorem MT.put (a : MT h m v fb ft) {k : Nat} (hk : k = 7 ∨ (20 ≤ k ∧ k < 25) ∨ k = 26) (x : Int32) : ∃ h', x_put h m 7 k (.int x) = some h' ∧ MT h' m (upd v k x) fb ft ∧ FrN m h h' := by
  obtain ⟨h', e1, g, f⟩ := w_put (a.2.2.1 k hk) (.int x)
  refine ⟨h', e1, ⟨f.1 _ _ _ _ (fun z => by omega) a.1, f.1 _ _ _ _ (fun z => by omega) a.2.1, fun j hj => ?_, f.2 _ _ id a.2.2.2.1, f.2 _ _ id a.2.2.2.2⟩, Fr.mono f (fun _ _ z => ⟨z.1, by omega⟩) (fun _ z => z.elim)⟩
  by_cases z : j = k
  · subst z; rw [g, pk_us]
  · rw [f.1 _ _ _ _ (fun y => z y.2) (a.2.2.1 j hj), pk_un z]
theorem MT.st (a : MT h m v fb ft) {i : Nat} (hi : i < 3) (x : Int32) : ∃ h', x_st h (m + 33) (nI i) x = some h' ∧ MT h' m v fb (upd ft i x) ∧ FrN m h h' := by
  obtain ⟨h', e1, g, f⟩ := w_st a.2.2.2.2 hi (by decide) x
  exact ⟨h', e1, ⟨f.1 _ _ _ _ id a.1, f.1 _ _ _ _ id a.2.1, fun j hj => f.1 _ _ _ _ id (a.2.2.1 j hj), f.2 _ _ (fun z => by omega) a.2.2.2.1, g⟩, Fr.mono f (fun _ _ z => z.elim) (fun _ z => z)⟩
theorem MT.ld (a : MT h m v fb ft) (b : TB t fb) {j : Nat} (hj : j < t.1) : x_ld h (m + 15) (nI j) = some (nI (t.2 j)) := by
  rw [a.2.2.2.1.ld (Nat.lt_of_lt_of_le hj b.1.1) (by decide), b.2 j hj]
theorem m_isLetter {x : Nat} (hx : x < 256) : f_X7_isLetter h (nI x) = some (bI (decide (97 ≤ x ∧ x ≤ 122))) := by
  have key : ∀ x, x < 256 → (if nI x < (97 : Int32) then some (0 : Int32) else if (122 : Int32) < nI x then some 0 else some 1) = some (bI (decide (97 ≤ x ∧ x ≤ 122))) := by decide +kernel
  exact key x hx
theorem m_isDigit {x : Nat} (hx : x < 256) : f_X7_isDigit h (nI x) = some (bI (decide (48 ≤ x ∧ x ≤ 57))) := by
  have key : ∀ x, x < 256 → (if nI x < (48 : Int32) then some (0 : Int32) else if (57 : Int32) < nI x then some 0 else some 1) = some (bI (decide (48 ≤ x ∧ x ≤ 57))) := by decide +kernel
  exact key x hx
theorem srt_l {p : Nat} (hp : p < t.1) : (decide (97 ≤ t.2 p ∧ t.2 p ≤ 122)) = decide (srt t p = 1) := by
  unfold srt
  rw [if_pos hp]
  by_cases c : 97 ≤ t.2 p ∧ t.2 p ≤ 122
  · rw [if_pos c, decide_eq_true c]; rfl
  · rw [if_neg c, decide_eq_false c]
    split
    · rfl
    · split <;> rfl
theorem srt_d {p : Nat} (hp : p < t.1) : (decide (48 ≤ t.2 p ∧ t.2 p ≤ 57)) = decide (srt t p = 2) := by
  unfold srt
  rw [if_pos hp]
  by_cases c : 97 ≤ t.2 p ∧ t.2 p ≤ 122
  · rw [if_pos c, decide_eq_false (by omega)]; rfl
  · rw [if_neg c]
    by_cases d : 48 ≤ t.2 p ∧ t.2 p ≤ 57
    · rw [if_pos d, decide_eq_true d]; rfl
    · rw [if_neg d, decide_eq_false d]
      split <;> rfl
theorem m_l0 (b : TB t fb) : ∀ (c n p : Nat) (h : xH) (v : Nat → Int32), MT h m v fb ft → v 7 = nI t.1 → v 20 = nI p → p ≤ t.1 → t.1 - p = c → c < n → ∃ h', f_X7_look_L0 m n h = some h' ∧ MT h' m (upd v 20 (nI (skp t c p))) fb ft ∧ FrN m h h'
  | c, 0, _, _, _, _, _, _, _, _, hn => absurd hn (Nat.not_lt_zero _)
  | 0, n + 1, p, h, v, a, v1, v3, hp, hc, _ => by
    have h250 := b.1.1
    refine ⟨h, ?_, ⟨a.1, a.2.1, fun k hk => ?_, a.2.2.2⟩, FrN.refl⟩
    · rw [f_X7_look_L0, a.g (k := 20) (by omega), Option.bind_some, a.g (k := 7) (by omega), Option.bind_some, v1, v3, if_pos (nI_le (by omega) (by omega))]
    · by_cases e : k = 20
      · subst e; rw [pk_us, a.2.2.1 20 (by omega), v3]; rfl
      · rw [pk_un e]; exact a.2.2.1 k hk
  | c + 1, n + 1, p, h, v, a, v1, v3, hp, hc, hn => by
    have h250 := b.1.1
    have hl : p < t.1 := by omega
    have hb := b.1.2 p hl
    have st : f_X7_look_L0 m (n + 1) h = if nI (t.2 p) = 32 then (x_put h m 7 20 (.int (nI (p + 1)))).bind fun h9 => f_X7_look_L0 m n h9 else some h := by
      rw [f_X7_look_L0, a.g (k := 20) (by omega), Option.bind_some, a.g (k := 7) (by omega), Option.bind_some, v1, v3, if_neg (nI_ge hl (by omega)), a.r, Option.bind_some, Option.bind_some, a.ld b hl, Option.bind_some, Option.bind_some, nI_1]
    by_cases e : t.2 p = 32
    · rw [if_pos (by rw [e]; rfl)] at st
      obtain ⟨h1, e1, a1, f1⟩ := a.put (k := 20) (by omega) (nI (p + 1))
      obtain ⟨h2, e2, a2, f2⟩ := m_l0 b c n (p + 1) h1 _ a1 (by rw [pk_un (by decide), v1]) pk_us (by omega) (by omega) (by omega)
      refine ⟨h2, ?_, ?_, f1.trans f2⟩
      · rw [st, e1, Option.bind_some, e2]
      · rw [upd_upd] at a2
        show MT h2 m (upd v 20 (nI (if t.2 p = 32 then skp t c (p + 1) else p))) fb ft
        rw [if_pos e]
        exact a2
    · rw [if_neg (show ¬ nI (t.2 p) = 32 from fun z => e ((nI_eqc hb (by decide)).mp (show nI (t.2 p) = nI 32 from z)))] at st
      refine ⟨h, st, ⟨a.1, a.2.1, fun k hk => ?_, a.2.2.2⟩, FrN.refl⟩
      show x_get h m 7 k = some (.int (upd v 20 (nI (if t.2 p = 32 then skp t c (p + 1) else p)) k))
      rw [if_neg e]
      by_cases ek : k = 20
      · subst ek; rw [pk_us, a.2.2.1 20 (by omega), v3]
      · rw [pk_un ek]; exact a.2.2.1 k hk
theorem m_l90 (b : TB t fb) : ∀ (c n p : Nat) (h : xH) (v : Nat → Int32), MT h m v fb ft → v 7 = nI t.1 → v 20 = nI p → p ≤ t.1 → t.1 - p = c → c < n → ∃ h', f_X7_look_L90 m n h = some h' ∧ MT h' m (upd v 20 (nI (rnp t 1 c p))) fb ft ∧ FrN m h h'
  | c, 0, _, _, _, _, _, _, _, _, hn => absurd hn (Nat.not_lt_zero _)
  | 0, n + 1, p, h, v, a, v1, v3, hp, hc, _ => by
    have h250 := b.1.1
    refine ⟨h, ?_, ⟨a.1, a.2.1, fun k hk => ?_, a.2.2.2⟩, FrN.refl⟩
    · rw [f_X7_look_L90, a.g (k := 20) (by omega), Option.bind_some, a.g (k := 7) (by omega), Option.bind_some, v1, v3, if_pos (nI_le (by omega) (by omega))]
    · by_cases e : k = 20
      · subst e; rw [pk_us, a.2.2.1 20 (by omega), v3]; rfl
      · rw [pk_un e]; exact a.2.2.1 k hk
  | c + 1, n + 1, p, h, v, a, v1, v3, hp, hc, hn => by
    have h250 := b.1.1
    have hl : p < t.1 := by omega
    have hb := b.1.2 p hl
    have st : f_X7_look_L90 m (n + 1) h = if bI (decide (srt t p = 1)) = 0 then some h else (x_put h m 7 20 (.int (nI (p + 1)))).bind fun h9 => f_X7_look_L90 m n h9 := by
      rw [f_X7_look_L90, a.g (k := 20) (by omega), Option.bind_some, a.g (k := 7) (by omega), Option.bind_some, v1, v3, if_neg (nI_ge hl (by omega)), a.r, Option.bind_some, Option.bind_some, a.ld b hl, Option.bind_some, m_isLetter hb, Option.bind_some, srt_l hl, Option.bind_some, nI_1]
    by_cases e : srt t p = 1
    · rw [decide_eq_true e, if_neg (show ¬ bI true = 0 by decide)] at st
      obtain ⟨h1, e1, a1, f1⟩ := a.put (k := 20) (by omega) (nI (p + 1))
      obtain ⟨h2, e2, a2, f2⟩ := m_l90 b c n (p + 1) h1 _ a1 (by rw [pk_un (by decide), v1]) pk_us (by omega) (by omega) (by omega)
      refine ⟨h2, ?_, ?_, f1.trans f2⟩
      · rw [st, e1, Option.bind_some, e2]
      · rw [upd_upd] at a2
        show MT h2 m (upd v 20 (nI (if srt t p = 1 then rnp t 1 c (p + 1) else p))) fb ft
        rw [if_pos e]
        exact a2
    · rw [decide_eq_false e, if_pos (show bI false = 0 from rfl)] at st
      refine ⟨h, st, ⟨a.1, a.2.1, fun k hk => ?_, a.2.2.2⟩, FrN.refl⟩
      show x_get h m 7 k = some (.int (upd v 20 (nI (if srt t p = 1 then rnp t 1 c (p + 1) else p)) k))
      rw [if_neg e]
      by_cases ek : k = 20
      · subst ek; rw [pk_us, a.2.2.1 20 (by omega), v3]
      · rw [pk_un ek]; exact a.2.2.1 k hk
theorem fgN_le (t : TP) (s : Nat) (h : ∀ j, t.2 j ≤ 255) : ∀ i, fgN t s i ≤ 100000
  | 0 => Nat.zero_le _
  | 1 => by show 0 * 10 + t.2 (s + 0) - 48 ≤ _; have := h (s + 0); omega
  | 2 => by show (0 * 10 + t.2 (s + 0) - 48) * 10 + t.2 (s + 1) - 48 ≤ _; have := h (s + 0); have := h (s + 1); omega
  | i + 3 => by show (if i + 2 < 2 then _ else 100000) ≤ _; rw [if_neg (by omega)]; exact Nat.le_refl _
theorem m_l149 (b : TB t fb) {s : Nat} : ∀ (c n p : Nat) (h : xH) (v : Nat → Int32), MT h m v fb ft → v 7 = nI t.1 → v 20 = nI p → v 22 = nI s → v 23 = nI (fgN t s (p - s)) → s ≤ p → p ≤ t.1 → t.1 - p = c → c < n → ∃ h' v', f_X7_look_L149 m n h = some h' ∧ MT h' m v' fb ft ∧ v' 20 = nI (rnp t 2 c p) ∧ v' 23 = nI (fgN t s (rnp t 2 c p - s)) ∧ (∀ k, k ≠ 20 → k ≠ 23 → v' k = v k) ∧ FrN m h h'
  | c, 0, _, _, _, _, _, _, _, _, _, _, _, hn => absurd hn (Nat.not_lt_zero _)
  | 0, n + 1, p, h, v, a, v1, v3, v22, v23, hsp, hp, hc, _ => by
    have h250 := b.1.1
    refine ⟨h, v, ?_, a, v3, v23, fun _ _ _ => rfl, FrN.refl⟩
    rw [f_X7_look_L149, a.g (k := 20) (by omega), Option.bind_some, a.g (k := 7) (by omega), Option.bind_some, v1, v3, if_pos (nI_le (by omega) (by omega))]
  | c + 1, n + 1, p, h, v, a, v1, v3, v22, v23, hsp, hp, hc, hn => by
    have h250 := b.1.1
    have hl : p < t.1 := by omega
    have hb := b.1.2 p hl
    by_cases e : srt t p = 2
    · have dg := srt_2 e
      have nf : (if (2 : Int32) ≤ nI (p - s) then some (100000 : Int32) else some (nI (fgN t s (p - s)) * 10 + nI (t.2 p) - 48)) = some (nI (fgN t s (p + 1 - s))) := by
        have ep : p + 1 - s = (p - s) + 1 := by omega
        rw [ep]
        show _ = some (nI (if p - s < 2 then fgN t s (p - s) * 10 + t.2 (s + (p - s)) - 48 else 100000))
        rw [show s + (p - s) = p by omega]
        by_cases c2 : p - s < 2
        · rw [if_neg (show ¬ (2 : Int32) ≤ nI (p - s) from nI_ge (b := 2) c2 (by decide)), if_pos c2]
          show some (nI (fgN t s (p - s)) * nI 10 + nI (t.2 p) - nI 48) = _
          rw [pk_mul, nI_add, pk_sub (by omega)]
        · rw [if_pos (show (2 : Int32) ≤ nI (p - s) from nI_le (a := 2) (by omega) (by omega)), if_neg c2]
          rfl
      obtain ⟨h1, e1, a1, f1⟩ := a.put (k := 23) (by omega) (nI (fgN t s (p + 1 - s)))
      obtain ⟨h2, e2, a2, f2⟩ := a1.put (k := 20) (by omega) (nI (p + 1))
      obtain ⟨h3, v', e3, a3, w1, w2, w3, f3⟩ := m_l149 b (s := s) c n (p + 1) h2 _ a2 (by rw [pk_un (by decide), pk_un (by decide), v1]) pk_us (by rw [pk_un (by decide), pk_un (by decide), v22]) (by rw [pk_un (by decide), pk_us]) (by omega) (by omega) (by omega) (by omega)
      have er : rnp t 2 (c + 1) p = rnp t 2 c (p + 1) := if_pos e
      refine ⟨h3, v', ?_, a3, by rw [er]; exact w1, by rw [er]; exact w2, fun k k1 k2 => by rw [w3 k k1 k2, pk_un k1, pk_un k2], f1.trans (f2.trans f3)⟩
      rw [f_X7_look_L149, a.g (k := 20) (by omega), Option.bind_some, a.g (k := 7) (by omega), Option.bind_some, v1, v3, if_neg (nI_ge hl (by omega)), a.r, Option.bind_some, Option.bind_some, a.ld b hl, Option.bind_some, m_isDigit hb, Option.bind_some, srt_d hl, decide_eq_true e, if_neg (show ¬ bI true = 0 by decide), Option.bind_some, a.g (k := 22) (by omega), Option.bind_some, v22, a.g (k := 23) (by omega), Option.bind_some, v23, Option.bind_some]
      rw [Option.bind_some, a.ld b hl, Option.bind_some, pk_sub hsp, nf, Option.bind_some, e1, Option.bind_some, a1.g (k := 20) (by omega), Option.bind_some, pk_un (by decide), v3, nI_1, e2, Option.bind_some, e3]
    · have er : rnp t 2 (c + 1) p = p := if_neg e
      refine ⟨h, v, ?_, a, by rw [er]; exact v3, by rw [er]; exact v23, fun _ _ _ => rfl, FrN.refl⟩
      rw [f_X7_look_L149, a.g (k := 20) (by omega), Option.bind_some, a.g (k := 7) (by omega), Option.bind_some, v1, v3, if_neg (nI_ge hl (by omega)), a.r, Option.bind_some, Option.bind_some, a.ld b hl, Option.bind_some, m_isDigit hb, Option.bind_some, srt_d hl, decide_eq_false e, if_pos (show bI false = 0 from rfl)]
/-- the reference's token in hand -/
def MTk (h : xH) (m : Nat) (t : TP) (fb ft : Nat → Int32) (s : Int32) (τ : TK) : Prop := ∃ v, MT h m v fb ft ∧ v 7 = nI t.1 ∧ v 20 = nI τ.2.2 ∧ v 21 = nI τ.1 ∧ v 22 = nI τ.2.1 ∧ v 23 = nI (fig t τ) ∧ v 26 = s
theorem rn_1 {c s : Nat} (hs : s < t.1) (e : srt t s = c) : rn t c s = rn t c (s + 1) := by
  unfold rn
  rw [show t.1 - s = (t.1 - (s + 1)) + 1 by omega]
  show (if srt t s = c then _ else _) = _
  rw [if_pos e]
theorem m_look (a : MT h m v fb ft) (b : TB t fb) (v7 : v 7 = nI t.1) {e : Nat} (v20 : v 20 = nI e) (he : e ≤ t.1) (hn : 300 ≤ n) : ∃ h', f_X7_look n h m = some h' ∧ MTk h' m t fb ft (v 26) (nxt t e) ∧ FrN m h h' := by
  have h250 := b.1.1
  obtain ⟨s1, s2⟩ := sk_in t he
  obtain ⟨h1, e1, a1, f1⟩ := m_l0 b (t.1 - e) n e h v a v7 v20 he rfl (by omega)
  rw [show skp t (t.1 - e) e = sk t e from rfl] at a1
  obtain ⟨h2, e2, a2, f2⟩ := a1.put (k := 22) (by omega) (nI (sk t e))
  obtain ⟨h3, e3, a3, f3⟩ := a2.put (k := 23) (by omega) 0
  obtain ⟨w, ew⟩ : ∃ w, w = upd (upd (upd v 20 (nI (sk t e))) 22 (nI (sk t e))) 23 0 := ⟨_, rfl⟩
  rw [← ew] at a3
  have w7 : w 7 = nI t.1 := by rw [ew, pk_un (by decide), pk_un (by decide), pk_un (by decide), v7]
  have w20 : w 20 = nI (sk t e) := by rw [ew, pk_un (by decide), pk_un (by decide), pk_us]
  have w22 : w 22 = nI (sk t e) := by rw [ew, pk_un (by decide), pk_us]
  have w23 : w 23 = nI 0 := by rw [ew, pk_us]; rfl
  have w26 : w 26 = v 26 := by rw [ew, pk_un (by decide), pk_un (by decide), pk_un (by decide)]
  have fr := f1.trans (f2.trans f3)
  unfold f_X7_look
  rw [e1, Option.bind_some, a1.g (k := 20) (by omega), Option.bind_some, pk_us, e2, Option.bind_some, e3, Option.bind_some, a3.g (k := 20) (by omega), Option.bind_some, a3.g (k := 7) (by omega), Option.bind_some, w20, w7]
  by_cases c0 : sk t e = t.1
  · rw [if_pos (by rw [c0])]
    have es : srt t (sk t e) = 0 := srt_0.mpr (by omega)
    obtain ⟨h4, e4, a4, f4⟩ := a3.put (k := 21) (by omega) 0
    refine ⟨h4, by rw [e4, Option.bind_some], ⟨_, a4, ?_, ?_, ?_, ?_, ?_, ?_⟩, fr.trans f4⟩
    · rw [pk_un (by decide), w7]
    · rw [pk_un (by decide), w20]
      show _ = nI (tkEnd t (sk t e))
      unfold tkEnd
      rw [if_pos es]
    · rw [pk_us]
      show _ = nI (srt t (sk t e))
      rw [es]; rfl
    · rw [pk_un (by decide), w22]; rfl
    · rw [pk_un (by decide), w23]
      unfold fig
      rw [if_neg (show ¬ (nxt t e).1 = 2 by show ¬ srt t (sk t e) = 2; rw [es]; decide)]
    · rw [pk_un (by decide), w26]
  · have hl : sk t e < t.1 := by omega
    have hb := b.1.2 _ hl
    rw [if_neg (fun z => c0 ((nI_eq (by omega) (by omega)).mp z)), a3.r, Option.bind_some, Option.bind_some, a3.ld b hl, Option.bind_some, m_isLetter hb, Option.bind_some, srt_l hl]
    by_cases c1 : srt t (sk t e) = 1
    · rw [decide_eq_true c1, if_neg (show ¬ bI true = 0 by decide)]
      obtain ⟨h4, e4, a4, f4⟩ := a3.put (k := 21) (by omega) 1
      obtain ⟨h5, e5, a5, f5⟩ := m_l90 b (t.1 - sk t e) n (sk t e) h4 _ a4 (by rw [pk_un (by decide), w7]) (by rw [pk_un (by decide), w20]) (by omega) rfl (by omega)
      refine ⟨h5, by rw [e4, Option.bind_some, e5, Option.bind_some], ⟨_, a5, ?_, ?_, ?_, ?_, ?_, ?_⟩, fr.trans (f4.trans f5)⟩
      · rw [pk_un (by decide), pk_un (by decide), w7]
      · rw [pk_us]
        show nI (rn t 1 (sk t e)) = nI (tkEnd t (sk t e))
        unfold tkEnd
        rw [rn_1 hl c1, c1, if_neg (by decide), if_pos (Or.inl rfl)]
      · rw [pk_un (by decide), pk_us]
        show _ = nI (srt t (sk t e))
        rw [c1]; rfl
      · rw [pk_un (by decide), pk_un (by decide), w22]; rfl
      · rw [pk_un (by decide), pk_un (by decide), w23]
        unfold fig
        rw [if_neg (show ¬ (nxt t e).1 = 2 by show ¬ srt t (sk t e) = 2; rw [c1]; decide)]
      · rw [pk_un (by decide), pk_un (by decide), w26]
    · rw [decide_eq_false c1, if_pos (show bI false = 0 from rfl), Option.bind_some, Option.bind_some, a3.ld b hl, Option.bind_some, m_isDigit hb, Option.bind_some, srt_d hl]
      by_cases c2 : srt t (sk t e) = 2
      · rw [decide_eq_true c2, if_neg (show ¬ bI true = 0 by decide)]
        obtain ⟨h4, e4, a4, f4⟩ := a3.put (k := 21) (by omega) 2
        obtain ⟨h5, v5, e5, a5, x1, x2, x3, f5⟩ := m_l149 b (s := sk t e) (t.1 - sk t e) n (sk t e) h4 _ a4 (by rw [pk_un (by decide), w7]) (by rw [pk_un (by decide), w20]) (by rw [pk_un (by decide), w22]) (by rw [pk_un (by decide), w23, Nat.sub_self]; rfl) (Nat.le_refl _) (by omega) rfl (by omega)
        have en : rnp t 2 (t.1 - sk t e) (sk t e) = tkEnd t (sk t e) := by
          show rn t 2 (sk t e) = _
          unfold tkEnd
          rw [rn_1 hl c2, c2, if_neg (by decide), if_pos (Or.inr rfl)]
        rw [en] at x1 x2
        refine ⟨h5, by rw [e4, Option.bind_some, e5, Option.bind_some], ⟨v5, a5, ?_, x1, ?_, ?_, ?_, ?_⟩, fr.trans (f4.trans f5)⟩
        · rw [x3 7 (by decide) (by decide), pk_un (by decide), w7]
        · rw [x3 21 (by decide) (by decide), pk_us]
          show _ = nI (srt t (sk t e))
          rw [c2]; rfl
        · rw [x3 22 (by decide) (by decide), pk_un (by decide), w22]; rfl
        · rw [x2]
          unfold fig
          rw [if_pos (show (nxt t e).1 = 2 from c2)]
          rfl
        · rw [x3 26 (by decide) (by decide), pk_un (by decide), w26]
      · rw [decide_eq_false c2, if_pos (show bI false = 0 from rfl), Option.bind_some, Option.bind_some, a3.ld b hl, Option.bind_some]
        have es : (if nI (t.2 (sk t e)) = 59 then some (3 : Int32) else some 4) = some (nI (srt t (sk t e))) := by
          have c1' := c1
          have c2' := c2
          unfold srt at c1' c2' ⊢
          rw [if_pos hl] at c1' c2' ⊢
          split at c1'
          · exact absurd rfl c1'
          · rename_i k1
            rw [if_neg k1] at c2' ⊢
            split at c2'
            · exact absurd rfl c2'
            · rename_i k2
              rw [if_neg k2]
              by_cases k3 : t.2 (sk t e) = 59
              · rw [if_pos k3, if_pos (by rw [k3]; rfl)]; rfl
              · rw [if_neg k3, if_neg (show ¬ nI (t.2 (sk t e)) = 59 from fun z => k3 ((nI_eqc hb (by decide)).mp (show nI _ = nI 59 from z)))]; rfl
        rw [es, Option.bind_some]
        obtain ⟨h4, e4, a4, f4⟩ := a3.put (k := 21) (by omega) (nI (srt t (sk t e)))
        obtain ⟨h5, e5, a5, f5⟩ := a4.put (k := 20) (by omega) (nI (sk t e + 1))
        have g20 : x_gI h4 m 7 20 = some (nI (sk t e)) := by rw [a4.g (k := 20) (by omega), pk_un (by decide), w20]
        have n0 : srt t (sk t e) ≠ 0 := fun z => by have := srt_0.mp z; omega
        refine ⟨h5, by rw [e4, Option.bind_some, g20, Option.bind_some, nI_1, e5, Option.bind_some], ⟨_, a5, ?_, ?_, ?_, ?_, ?_, ?_⟩, fr.trans (f4.trans f5)⟩
        · rw [pk_un (by decide), pk_un (by decide), w7]
        · rw [pk_us]
          show _ = nI (tkEnd t (sk t e))
          unfold tkEnd
          rw [if_neg n0, if_neg (fun z => by omega)]
        · rw [pk_un (by decide), pk_us]; rfl
        · rw [pk_un (by decide), pk_un (by decide), w22]; rfl
        · rw [pk_un (by decide), pk_un (by decide), w23]
          unfold fig
          rw [if_neg (show ¬ (nxt t e).1 = 2 from c2)]
        · rw [pk_un (by decide), pk_un (by decide), w26]
theorem MTk.next {s : Int32} (a : MTk h m t fb ft s τ) (b : TB t fb) (ht : τ.2.2 ≤ t.1) (hn : 300 ≤ n) : ∃ h', f_X7_look n h m = some h' ∧ MTk h' m t fb ft s (nxt t τ.2.2) ∧ FrN m h h' := by
  obtain ⟨v, a1, a2, a3, a4, a5, a6, a7⟩ := a
  obtain ⟨h1, e1, x1, f1⟩ := m_look (n := n) a1 b a2 a3 ht hn
  rw [a7] at x1
  exact ⟨h1, e1, x1, f1⟩
theorem MTk.ob {s : Int32} (a : MTk h m t fb ft s τ) : x_ob h m 7 = some () := a.choose_spec.1.ob
theorem MTk.en {s : Int32} (a : MTk h m t fb ft s τ) : x_gI h m 7 20 = some (nI τ.2.2) := by obtain ⟨v, a1, a2, a3, a4, a5, a6, a7⟩ := a; rw [a1.g (k := 20) (by omega), a3]
theorem MTk.tok {s : Int32} (a : MTk h m t fb ft s τ) : x_gI h m 7 21 = some (nI τ.1) := by obtain ⟨v, a1, a2, a3, a4, a5, a6, a7⟩ := a; rw [a1.g (k := 21) (by omega), a4]
theorem MTk.st {s : Int32} (a : MTk h m t fb ft s τ) : x_gI h m 7 22 = some (nI τ.2.1) := by obtain ⟨v, a1, a2, a3, a4, a5, a6, a7⟩ := a; rw [a1.g (k := 22) (by omega), a5]
theorem MTk.fg {s : Int32} (a : MTk h m t fb ft s τ) : x_gI h m 7 23 = some (nI (fig t τ)) := by obtain ⟨v, a1, a2, a3, a4, a5, a6, a7⟩ := a; rw [a1.g (k := 23) (by omega), a6]
theorem MTk.r {s : Int32} (a : MTk h m t fb ft s τ) : x_gR h m 7 6 = some (m + 15) := a.choose_spec.1.r
theorem MTk.rt {s : Int32} (a : MTk h m t fb ft s τ) : x_gR h m 7 25 = some (m + 33) := a.choose_spec.1.rt
theorem MTk.ld {s : Int32} (a : MTk h m t fb ft s τ) (b : TB t fb) {j : Nat} (hj : j < t.1) : x_ld h (m + 15) (nI j) = some (nI (t.2 j)) := a.choose_spec.1.ld b hj
theorem MTk.told {s : Int32} (a : MTk h m t fb ft s τ) {i : Nat} (hi : i < 3) : x_ld h (m + 33) (nI i) = some (ft i) := a.choose_spec.1.2.2.2.2.ld hi (by decide)
theorem m_isWord {s : Int32} (a : MTk h m t fb ft s τ) (b : TB t fb) (ok : TkOk t τ) {w : Nat} (h3 : 3 ≤ w) (h15 : w < 15) (hn : 20 ≤ n) : f_X7_isWord n h m w = some (bI (isW t τ w)) := by
  have h250 := b.1.1
  obtain ⟨o1, o2, o3, -⟩ := ok
  obtain ⟨w1, w2, w3⟩ := wd_ok w h15 h3
  unfold f_X7_isWord isW
  rw [a.tok, Option.bind_some]
  by_cases c1 : τ.1 = 1
  · rw [if_pos (show nI τ.1 = 1 by rw [c1]; rfl), decide_eq_true c1, Bool.true_and, a.en, Option.bind_some, a.st, Option.bind_some, w2, Option.bind_some, pk_sub o2]
    by_cases c2 : τ.2.2 - τ.2.1 = (wd w).length
    · rw [if_pos (by rw [c2]), decide_eq_true c2, Bool.true_and]
      have := lpAny (L := fun k i => f_X7_isWord_L28 h m w k (nI i)) (fun i => !decide (t.2 (τ.2.1 + i) = (wd w).getD i 0)) (D := (wd w).length) (n := n) (yes := Sum.inl 0) (no := Sum.inr ()) (by omega)
        (fun k => by
          show f_X7_isWord_L28 h m w (k + 1) (nI (wd w).length) = _
          rw [f_X7_isWord_L28, w2, Option.bind_some, if_pos (nI_le (Nat.le_refl _) (by omega))])
        (fun k i hi => by
          show f_X7_isWord_L28 h m w (k + 1) (nI i) = _
          obtain ⟨x1, x2⟩ := w3 i hi
          have hj : τ.2.1 + i < t.1 := by omega
          rw [f_X7_isWord_L28, w2, Option.bind_some, if_neg (nI_ge hi (by omega)), a.r, Option.bind_some, a.st, Option.bind_some, nI_add, a.ld b hj, Option.bind_some, x1, Option.bind_some, Option.bind_some, nI_1]
          by_cases e : t.2 (τ.2.1 + i) = (wd w).getD i 0
          · rw [if_pos (by rw [e]), decide_eq_true e]; rfl
          · rw [if_neg (fun z => e ((nI_eqc (b.1.2 _ hj) x2).mp z)), decide_eq_false e]; rfl)
      rw [show f_X7_isWord_L28 h m w n 0 = _ from this, Option.bind_some]
      cases anB (fun i => !decide (t.2 (τ.2.1 + i) = (wd w).getD i 0)) (wd w).length <;> rfl
    · rw [if_neg (fun z => c2 ((nI_eq (by omega) (by omega)).mp z)), decide_eq_false c2]
      rfl
  · rw [if_neg (show ¬ nI τ.1 = 1 from fun z => c1 ((nI_eqc (by omega) (by decide)).mp (show nI _ = nI 1 from z))), decide_eq_false c1]
    rfl
end MTs
