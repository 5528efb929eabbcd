/-! The class's Search over the heap: spreading. -/
theorem and_14 {F S : Nat} (hF : F < 512) (hS : S < 16384) : nI (F * 16384 + S) &&& 16383 = nI S ∧ i_shr (nI (F * 16384 + S)) 14 = nI F := by
  have m := mr (x := F) (c := S) (n := 16384) hS
  constructor
  · rw [pk_andN (m := 16383) (by omega) 14 rfl, show 2 ^ 14 = 16384 from rfl, m.2]
  · rw [show (14 : Int32) = nI 14 from rfl, shrN (by omega) (by decide), show 2 ^ 14 = 16384 from rfl, m.1]
section SR
variable {h h' : xH} {G : GP} {sb ap as aq sl len st B n : Nat} {w : Nat → Int32} {fA : Nat → Nat → Int32} {E L : Nat} {Q : QS}
theorem x_68 (c : CX G sb ap as aq sl len st B w fA) (s : SHp h G sb ap as aq sl len st B w fA E Q) (q : QP G E L Q) {i : Nat} {v3 v5 : Int32} (hi : i < E) (hL : qV Q i + 1 = L) (hn : 2000 ≤ n) :
    ∃ h' Q', f_X3_spread_L68 n sb v3 (nI i) v5 n 0 h = some h' ∧ SHp h' G sb ap as aq sl len st B w fA E Q' ∧ QP G E L Q' ∧ QLe E Q Q' ∧ Prc G Q' i ∧ FrX sb ap as aq h h' := by
  obtain ⟨ok, lay, w11, hst, hle, hlen, sp, hns, hsl, hB, h32⟩ := id c
  have hiT : i < qT Q := Nat.lt_of_lt_of_le hi q.1
  have hnl := gNS_le ok
  have := lp0 (L := fun k (z : xH) r => f_X3_spread_L68 n sb v3 (nI i) v5 k (nI r) z)
    (I := fun r z => ∃ Q', SHp z G sb ap as aq sl len st B w fA E Q' ∧ QP G E L Q' ∧ QLe E Q Q' ∧ (∀ r', r' < r → conn (gH G) (nI (eX G (qS Q i))) (eR (qS Q i)) r' → ∀ d u, opn G (eX G (qS Q i)) r' d u → Arr G Q' L (fbB (qF Q i) d) (opx (eX G (qS Q i)) u d) r' (eD G (qS Q i))) ∧ FrX sb ap as aq h z)
    (R := fun z => ∃ Q', SHp z G sb ap as aq sl len st B w fA E Q' ∧ QP G E L Q' ∧ QLe E Q Q' ∧ (∀ r', r' < 8 → conn (gH G) (nI (eX G (qS Q i))) (eR (qS Q i)) r' → ∀ d u, opn G (eX G (qS Q i)) r' d u → Arr G Q' L (fbB (qF Q i) d) (opx (eX G (qS Q i)) u d) r' (eD G (qS Q i))) ∧ FrX sb ap as aq h z) (D := 8) (n := n) (s := h) (by omega)
    ⟨Q, s, q, QLe.refl, fun r hr => absurd hr (Nat.not_lt_zero _), FrX.refl⟩
    (fun k z hz => by
      refine ⟨z, ?_, hz⟩
      show f_X3_spread_L68 n sb v3 (nI i) v5 (k + 1) (nI 8) z = _
      rw [f_X3_spread_L68, if_pos (show (8 : Int32) ≤ nI 8 by decide)])
    (fun k z r hr hz => by
      right
      obtain ⟨Q', c1, c2, c3, c4, c5⟩ := hz
      obtain ⟨g1, g2, g3, g4⟩ := c3.2.1 i hiT
      have gF := g4 hi
      obtain ⟨z2, Q2, e2, s2, q2, l2, a2, f2⟩ := x_leave (n := n) c c1 c2 hi (by rw [g2]; exact hL) hr hn
      rw [g1, gF] at a2 e2
      obtain ⟨v, fg, fs, fq, fp, s1, s2', s3, s4, s5, s6, s7, s8, s9, s10, s11, s12, s13, s14⟩ := id c1
      have hiT' : i < qT Q' := Nat.lt_of_lt_of_le hiT c3.1
      have e3 := (s12 i hiT').1
      rw [gF, g1] at e3
      have hS : qS Q i < 16384 := by have := (s12 i hiT').2.1; rw [g1] at this; omega
      have hF : qF Q i < 512 := (q.2.1 i hiT).1.2.2.2.1
      obtain ⟨m1, m2⟩ := and_14 hF hS
      refine ⟨z2, ?_, Q2, s2, q2, c3.trans l2, fun r' hr' hc d u ho => ?_, c5.trans f2⟩
      · show f_X3_spread_L68 n sb v3 (nI i) v5 (k + 1) (nI r) z = _
        rw [f_X3_spread_L68, if_neg (show ¬ (8 : Int32) ≤ nI r from nI_ge (b := 8) hr (by decide)), s3.qu, Option.bind_some, s3.2.2.2.2.2.2.2.ld (show i < sl by omega) (by omega), Option.bind_some, e3, Option.bind_some]
        rw [s3.2.2.2.2.2.2.2.ld (show i < sl by omega) (by omega), Option.bind_some, e3, s3.ob, Option.bind_some, m1, m2, e2, Option.bind_some, Option.bind_some, nI_1]
      · by_cases er : r' = r
        · subst er; exact a2 hc d u ho
        · exact (c4 r' (by omega) hc d u ho).mono l2)
  obtain ⟨z, e, Q', r1, r2, r3, r4, r5⟩ := this
  refine ⟨z, Q', e, r1, r2, r3, ?_, r5⟩
  intro r d u hc ho
  obtain ⟨g1, g2, g3, g4⟩ := r3.2.1 i hiT
  rw [g1] at hc ho
  rw [g1, g2, g4 hi, hL]
  exact r4 r (conn_lt ok.1 (Nat.mod_lt _ (by decide)) hc) hc d u ho
theorem x_56 (c : CX G sb ap as aq sl len st B w fA) (s : SHp h G sb ap as aq sl len st B w fA E Q) (q : QP G E L Q) {hd : Nat} {v3 v5 : Int32} (hh : hd ≤ E) (hL : ∀ i, hd ≤ i → i < E → qV Q i + 1 = L) (hn : 20000 ≤ n) :
    ∃ h' Q', f_X3_spread_L56 n sb v3 v5 n (nI hd) h = some (nI E, h') ∧ SHp h' G sb ap as aq sl len st B w fA E Q' ∧ QP G E L Q' ∧ QLe E Q Q' ∧ (∀ i, hd ≤ i → i < E → Prc G Q' i) ∧ FrX sb ap as aq h h' := by
  obtain ⟨ok, lay, w11, hst, hle, hlen, sp, hns, hsl, hB, h32⟩ := id c
  have hnl := gNS_le ok
  obtain ⟨-, -, -, -, -, -, -, -, -, -, -, -, -, -, -, -, -, -, s14⟩ := id s
  have hET := q.1
  have := lp0 (L := fun k (z : xH) j => f_X3_spread_L56 n sb v3 v5 k (nI (hd + j)) z)
    (I := fun j z => ∃ Q', SHp z G sb ap as aq sl len st B w fA E Q' ∧ QP G E L Q' ∧ QLe E Q Q' ∧ (∀ i, hd ≤ i → i < hd + j → Prc G Q' i) ∧ FrX sb ap as aq h z)
    (R := fun z => z.1 = nI E ∧ ∃ Q', SHp z.2 G sb ap as aq sl len st B w fA E Q' ∧ QP G E L Q' ∧ QLe E Q Q' ∧ (∀ i, hd ≤ i → i < E → Prc G Q' i) ∧ FrX sb ap as aq h z.2) (D := E - hd) (n := n) (s := h) (by omega)
    ⟨Q, s, q, QLe.refl, fun i h1 h2 => by omega, FrX.refl⟩
    (fun k z hz => by
      obtain ⟨Q', c1, c2, c3, c4, c5⟩ := hz
      refine ⟨(nI E, z), ?_, rfl, Q', c1, c2, c3, fun i h1 h2 => c4 i h1 (by omega), c5⟩
      obtain ⟨v, fg, fs, fq, fp, s1, s2', s3, s4, s5, s6, s7, s8, -⟩ := id c1
      show f_X3_spread_L56 n sb v3 v5 (k + 1) (nI (hd + (E - hd))) z = _
      rw [f_X3_spread_L56, s3.gI (k := 7) (Or.inr ⟨by decide, by decide⟩), Option.bind_some, s8, show hd + (E - hd) = E by omega, if_pos (nI_le (Nat.le_refl _) (by omega))])
    (fun k z j hj hz => by
      right
      obtain ⟨Q', c1, c2, c3, c4, c5⟩ := hz
      have hi : hd + j < E := by omega
      obtain ⟨g1, g2, g3, g4⟩ := c3.2.1 (hd + j) (by omega)
      obtain ⟨z2, Q2, e2, s2, q2, l2, a2, f2⟩ := x_68 (n := n) (v3 := v3) (v5 := v5) c c1 c2 hi (by rw [g2]; exact hL _ (by omega) hi) (by omega)
      refine ⟨z2, ?_, Q2, s2, q2, c3.trans l2, fun i h1 h2 => ?_, c5.trans f2⟩
      · obtain ⟨v, fg, fs, fq, fp, s1, s2', s3, s4, s5, s6, s7, s8, -⟩ := id c1
        show f_X3_spread_L56 n sb v3 v5 (k + 1) (nI (hd + j)) z = _
        rw [f_X3_spread_L56, s3.gI (k := 7) (Or.inr ⟨by decide, by decide⟩), Option.bind_some, s8, if_neg (nI_ge hi (by omega)), e2, Option.bind_some, Option.bind_some, nI_1]
        rfl
      · by_cases e : i = hd + j
        · rw [e]; exact a2
        · exact (c4 i h1 (by omega)).mono (by have := c2.1; omega) (by omega) l2)
  obtain ⟨z, e, e1, Q', r⟩ := this
  refine ⟨z.2, Q', ?_, r⟩
  rw [← e1]
  exact e
theorem SHp.lev {E' : Nat} (s : SHp h G sb ap as aq sl len st B w fA E Q) (x : Nat) (hx : x = E') : ∃ h', x_put h sb 3 7 (.int (nI x)) = some h' ∧ SHp h' G sb ap as aq sl len st B w fA E' Q ∧ FrX sb ap as aq h h' := by
  subst hx
  obtain ⟨v, fg, fs, fq, fp, s1, s2, s3, s4, s5, s6, s7, s8, s9, s10, s11, s12, s13, s14⟩ := s
  obtain ⟨h1, e1, a1, f1⟩ := s3.put (k := 7) (Or.inr ⟨by decide, by decide⟩) (nI x)
  refine ⟨h1, e1, ⟨_, fg, fs, fq, fp, s1.fr f1 (fun k z => by omega) (fun _ _ _ z => z) (fun z => z), s2, a1, s4, ?_, ?_, ?_, pk_us, ?_, ?_, ?_, s12, s13, s14⟩, Fr.mono f1 (fun _ _ z => Or.inl z) (fun _ z => z.elim)⟩
  · rw [pk_un (by decide), s5]
  · rw [pk_un (by decide), s6]
  · rw [pk_un (by decide), s7]
  · rw [pk_un (by decide), s9]
  · rw [pk_un (by decide), s10]
  · rw [pk_un (by decide), s11]
/-- level after level -/
theorem x_14 (c : CX G sb ap as aq sl len st B w fA) (s : SHp h G sb ap as aq sl len st B w fA 0 Q) (q : QP G 0 0 Q) (h0 : Arr G Q 0 0 (gx G) (gr G) (adv (Qr (gg G) (gr G)) (gm G) 0)) {v3 : Int32} (hn : 20000 ≤ n) :
    ∃ h' Q' k hd, f_X3_spread_L14 n sb v3 n 0 0 h = some (nI k, h') ∧ SHp h' G sb ap as aq sl len st B w fA hd Q' ∧ QP G hd k Q' ∧ k ≤ 16384 ∧ (∀ i, i < hd → Prc G Q' i) ∧ Arr G Q' 0 0 (gx G) (gr G) (adv (Qr (gg G) (gr G)) (gm G) 0) ∧ (qfd Q' = true ∨ hd = qT Q' ∨ qrs Q' = v3) ∧ (∀ r, bt (qrs Q) r = true → bt (qrs Q') r = true) ∧ FrX sb ap as aq h h' := by
  obtain ⟨ok, lay, w11, hst, hle, hlen, sp, hns, hsl, hB, h32⟩ := id c
  have hnl := gNS_le ok
  have := lpM (L := fun k (z : Int32 × Int32 × xH) => f_X3_spread_L14 n sb v3 k z.1 z.2.1 z.2.2)
    (I := fun m z => ∃ hd k Q', z.1 = nI hd ∧ z.2.1 = nI k ∧ m = gNS G - hd ∧ SHp z.2.2 G sb ap as aq sl len st B w fA hd Q' ∧ QP G hd k Q' ∧ k ≤ hd ∧ (∀ i, i < hd → Prc G Q' i) ∧ Arr G Q' 0 0 (gx G) (gr G) (adv (Qr (gg G) (gr G)) (gm G) 0) ∧ (∀ r, bt (qrs Q) r = true → bt (qrs Q') r = true) ∧ FrX sb ap as aq h z.2.2)
    (R := fun z => ∃ Q' k hd, z.1 = nI k ∧ SHp z.2 G sb ap as aq sl len st B w fA hd Q' ∧ QP G hd k Q' ∧ k ≤ 16384 ∧ (∀ i, i < hd → Prc G Q' i) ∧ Arr G Q' 0 0 (gx G) (gr G) (adv (Qr (gg G) (gr G)) (gm G) 0) ∧ (qfd Q' = true ∨ hd = qT Q' ∨ qrs Q' = v3) ∧ (∀ r, bt (qrs Q) r = true → bt (qrs Q') r = true) ∧ FrX sb ap as aq h z.2)
    (fun k m z hz => by
      obtain ⟨hd, lv, Q', c1, c2, c3, c4, c5, c6, c7, c8, c8', c9⟩ := hz
      obtain ⟨v, fg, fs, fq, fp, s1, s2, s3, s4, s5, s6, s7, s8, s9, s10, s11, s12, s13, s14⟩ := id c4
      have hdT := c5.1
      have fin : (qfd Q' = true ∨ hd = qT Q' ∨ qrs Q' = v3) → ∃ z' : Int32 × xH, (some (z.2.1, z.2.2) : Option (Int32 × xH)) = some z' ∧ ∃ Q' k hd, z'.1 = nI k ∧ SHp z'.2 G sb ap as aq sl len st B w fA hd Q' ∧ QP G hd k Q' ∧ k ≤ 16384 ∧ (∀ i, i < hd → Prc G Q' i) ∧ Arr G Q' 0 0 (gx G) (gr G) (adv (Qr (gg G) (gr G)) (gm G) 0) ∧ (qfd Q' = true ∨ hd = qT Q' ∨ qrs Q' = v3) ∧ (∀ r, bt (qrs Q) r = true → bt (qrs Q') r = true) ∧ FrX sb ap as aq h z'.2 := fun ho => ⟨(z.2.1, z.2.2), rfl, Q', lv, hd, c2, c4, c5, by omega, c7, c8, ho, c8', c9⟩
      have g8 : x_gI z.2.2 sb 3 8 = some (bI (qfd Q')) := by rw [s3.gI (k := 8) (Or.inr ⟨by decide, by decide⟩), s9]
      have g6 : x_gI z.2.2 sb 3 6 = some (nI (qT Q')) := by rw [s3.gI (k := 6) (Or.inr ⟨by decide, by decide⟩), s7]
      have g10 : x_gI z.2.2 sb 3 10 = some (qrs Q') := by rw [s3.gI (k := 10) (Or.inr ⟨by decide, by decide⟩), s11]
      have st0 : f_X3_spread_L14 n sb v3 (k + 1) z.1 z.2.1 z.2.2 = if bI (qfd Q') = 0 then (if nI (qT Q') ≤ nI hd then some (z.2.1, z.2.2) else if qrs Q' = v3 then some (z.2.1, z.2.2) else if nI sl ≤ nI lv then some (z.2.1, z.2.2) else (x_put z.2.2 sb 3 7 (.int (nI (qT Q')))).bind fun h9 => (f_X3_spread_L56 n sb v3 (nI lv) n (nI hd) h9).bind fun q22 => f_X3_spread_L14 n sb v3 k q22.1 (nI (lv + 1)) q22.2) else some (z.2.1, z.2.2) := by
        rw [f_X3_spread_L14, g8, Option.bind_some, g6, Option.bind_some, c1, g10, Option.bind_some, s3.qu, Option.bind_some, x_len_n s3.2.2.2.2.2.2.2, Option.bind_some, Option.bind_some, c2, nI_1]
        rfl
      cases hfd : qfd Q' with
      | true =>
        left
        rw [hfd, if_neg (show ¬ bI true = 0 by decide)] at st0
        obtain ⟨z', y1, y2⟩ := fin (Or.inl hfd)
        exact ⟨z', st0.trans y1, y2⟩
      | false =>
        rw [hfd, if_pos (show bI false = 0 from rfl)] at st0
        by_cases hT : qT Q' ≤ hd
        · left
          rw [if_pos (nI_le hT (by omega))] at st0
          obtain ⟨z', y1, y2⟩ := fin (Or.inr (Or.inl (by omega)))
          exact ⟨z', st0.trans y1, y2⟩
        · rw [if_neg (nI_ge (by omega) (by omega))] at st0
          by_cases hrs : qrs Q' = v3
          · left
            rw [if_pos hrs] at st0
            obtain ⟨z', y1, y2⟩ := fin (Or.inr (Or.inr hrs))
            exact ⟨z', st0.trans y1, y2⟩
          · right
            rw [if_neg hrs, if_neg (nI_ge (by omega) (by omega))] at st0
            obtain ⟨h9, e9, t9, f9⟩ := c4.lev (E' := qT Q') (qT Q') rfl
            have qn : QP G (qT Q') (lv + 1) Q' := by
              obtain ⟨q1, q2, q3, q4, q5, q6, q7⟩ := c5
              refine ⟨Nat.le_refl _, fun i hi => ⟨(q2 i hi).1, fun _ => ?_, fun z => by omega⟩, (fun z => by rw [hfd] at z; cases z), q4, q5, q6, q7⟩
              by_cases hl : i < hd
              · have := (q2 i hi).2.1 hl; omega
              · have := (q2 i hi).2.2 (by omega); omega
            obtain ⟨h22, Q2, e22, t22, q22, l22, a22, f22⟩ := x_56 (n := n) (v3 := v3) (v5 := nI lv) c t9 qn hdT (fun i h1 h2 => by have := (c5.2.1 i h2).2.2 h1; omega) hn
            have T2 : qT Q' ≤ qT Q2 := l22.1
            refine ⟨(nI (qT Q'), nI (lv + 1), h22), gNS G - qT Q', by omega, ?_, qT Q', lv + 1, Q2, rfl, rfl, rfl, t22, q22, by omega, fun i hi => ?_, c8.mono l22, fun r hr => l22.2.2.2.2 r (c8' r hr), c9.trans (f9.trans f22)⟩
            · show f_X3_spread_L14 n sb v3 (k + 1) z.1 z.2.1 z.2.2 = _
              rw [st0, e9, Option.bind_some, e22, Option.bind_some]
            · by_cases hl : i < hd
              · exact (c7 i hl).mono hi hi l22
              · exact a22 i (by omega) hi)
    n (gNS G - 0) (0, 0, h) (by omega) ⟨0, 0, Q, rfl, rfl, rfl, s, q, Nat.le_refl _, fun i hi => absurd hi (Nat.not_lt_zero _), h0, fun _ h => h, FrX.refl⟩
  obtain ⟨z, e, Q', k, hd, z1, r⟩ := this
  refine ⟨z.2, Q', k, hd, ?_, r⟩
  rw [← z1]
  exact e
def Q00 : QS := (0, fun _ => 0, fun _ => 0, fun _ => 0, false, 0, 0, 0)
theorem QP00 : QP G 0 0 Q00 := ⟨Nat.le_refl _, fun i hi => absurd hi (Nat.not_lt_zero _), (fun z => by cases z), fun _ => rfl, by decide, (fun r hr => by rw [show qrs Q00 = 0 from rfl, b_0] at hr; cases hr), fun i hi => absurd hi (Nat.not_lt_zero _)⟩
/-- spread -/
theorem x_spread (c : CX G sb ap as aq sl len st B w fA) (s : SHp h G sb ap as aq sl len st B w fA 0 Q00) {v3 : Int32} (hn : 20000 ≤ n) :
    ∃ h' Q k hd, f_X3_spread n h sb (nI (gx G)) (nI (gr G)) v3 = some (if qfd Q then nI k else -1, h') ∧ QP G hd k Q ∧ k ≤ 16384 ∧ (∀ i, i < hd → Prc G Q i) ∧ Arr G Q 0 0 (gx G) (gr G) (adv (Qr (gg G) (gr G)) (gm G) 0) ∧ (qfd Q = true ∨ hd = qT Q ∨ qrs Q = v3) ∧ (qfd Q = true ∨ bt (qrs Q) (gr G) = true) ∧ FrX sb ap as aq h h' ∧
      ∃ v fg fs fq fp, PAt h' (sb + 2) ap len w fA fp ∧ PCk (gH G) st len fp ∧ SAt h' sb as aq sl v fg fs fq ∧ v 1 = nI (gm G) ∧ v 5 = nI (B + qT Q) ∧ qT Q ≤ 16384 ∧ v 9 = nI (qff Q) ∧ v 10 = qrs Q ∧ ∀ s, s < sl → ∃ a, fs s = nI a ∧ a < B + qT Q := by
  obtain ⟨ok, lay, w11, hst, hle, hlen, sp, hns, hsl, hB, h32⟩ := id c
  have hnl := gNS_le ok
  have hr8 := ok.2.2.2.2.2
  have ht := adv_le (Q := Qr (gg G) (gr G)) (Nat.zero_le (gm G))
  have hsrc : SrcR G 0 0 (adv (Qr (gg G) (gr G)) (gm G) 0) (gx G) (gr G) := ⟨fun _ => ⟨rfl, R_start⟩, fun z => by omega⟩
  have ea : dnQ G (gx G) (gr G) 0 = dnQ G (gx G) (gr G) (adv (Qr (gg G) (gr G)) (gm G) 0) := (adv_adv ok.2.2.2.1 (Nat.zero_le _) (fun j hj => by
    have : gg G j = gr G := of_decide_eq_true hj
    show bt (prt G (gx G) (gr G)) (gg G j) = true
    rw [this]
    exact conn_refl (H := gH G) (o := nI (gx G)) hr8)).symm
  obtain ⟨h1, Q1, e1, s1, q1, l1, a1, f1⟩ := x_arrive (n := n) (f := 0) (tp := 0) c s QP00 hsrc (by decide) ok.2.2.2.2.1 hr8 ht (Nat.zero_le _) ea (by omega)
  obtain ⟨h2, Q2, k, hd, e2, s2, q2, k2, p2, a2, o2, rs2, f2⟩ := x_14 (n := n) (v3 := v3) c s1 q1 a1 hn
  obtain ⟨v, fg, fs, fq, fp, t1, t2, t3, t4, t5, t6, t7, t8, t9, t10, t11, t12, t13, t14⟩ := s2
  obtain ⟨h3, e3, a3, f3⟩ := t3.put (k := 5) (Or.inr ⟨by decide, by decide⟩) (nI (B + qT Q2))
  have g8 : x_gI h3 sb 3 8 = some (bI (qfd Q2)) := by rw [a3.gI (k := 8) (Or.inr ⟨by decide, by decide⟩), pk_un (by decide), t9]
  refine ⟨h3, Q2, k, hd, ?_, q2, k2, p2, a2, o2, ?_, f1.trans (f2.trans (Fr.mono f3 (fun _ _ z => Or.inl z) (fun _ z => z.elim))), _, fg, fs, fq, fp, t1.fr f3 (fun k z => by omega) (fun _ _ _ z => z) (fun z => z), t2, a3, ?_, pk_us, by omega, ?_, ?_, ?_⟩
  · unfold f_X3_spread
    rw [s.choose_spec.choose_spec.choose_spec.choose_spec.choose_spec.2.2.1.ob, Option.bind_some, show f_X3_arrive n h sb (nI (gx G)) (nI (gr G)) 0 0 = some h1 from e1, Option.bind_some, e2, Option.bind_some, t3.gI (k := 5) (Or.inr ⟨by decide, by decide⟩), Option.bind_some, t3.gI (k := 6) (Or.inr ⟨by decide, by decide⟩), Option.bind_some, t6, t7, nI_add, e3, Option.bind_some, g8, Option.bind_some]
    cases qfd Q2
    · rw [if_pos (show bI false = 0 from rfl)]; rfl
    · rw [if_neg (show ¬ bI true = 0 by decide)]; rfl
  · rcases a2 with ⟨b1, b2, b3, b4⟩ | ⟨b1, j, b2, b3, b4, b5⟩
    · exact Or.inl b2
    · right
      obtain ⟨U, u1, u2, u3, u4, u5, u6⟩ := prt_spec (x := gx G) ok hr8
      obtain ⟨d1, d2, d3⟩ := senc_dec (G := G) (d := dnQ G (gx G) (gr G) (adv (Qr (gg G) (gr G)) (gm G) 0)) ok.2.2.2.2.1 u4
      apply q2.2.2.2.2.2.2 j b2
      rw [b3, d2, d3]
      exact conn_symm ok.1 hr8 u5
  · rw [pk_un (by decide), t5]
  · rw [pk_un (by decide), t10]
  · rw [pk_un (by decide), t11]
  · intro s' hs'
    obtain ⟨a, ha, hb⟩ := t13 s' hs'
    refine ⟨a, ha, ?_⟩
    rcases hb with hb | ⟨i, i1, i2, i3⟩ <;> omega
end SR
