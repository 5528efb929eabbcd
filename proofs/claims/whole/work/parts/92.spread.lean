/-! The class's Search over the heap: leaving, spreading. -/
section LV
variable {G : GP} {x r k : Nat}
theorem shF_bt (ok : HOk (gH G)) {y : Int32} (hk : k < 32) : bt (shF (gH G) y) k = (decide (k < hD (gH G)) && sShuts (gH G) k y && bt (gUs (gH G)) k) := by
  have := ok.1
  unfold shF
  rw [b_and, mkB_bt _ (by omega) k hk]
def cM (G : GP) (x r : Nat) : Int32 := nI x &&& (shF (gH G) (nI r) ||| othF (gH G) (gp G) (hP (gH G)))
theorem cM_us (ok : HOk (gH G)) : usS (gH G) (cM G x r) := by
  intro k hk
  have h32 := bt32 hk
  unfold cM at hk
  rw [b_and, b_or, Bool.and_eq_true, Bool.or_eq_true] at hk
  rcases hk.2 with h | h
  · rw [shF_bt ok h32] at h
    simp only [Bool.and_eq_true] at h
    exact h.2
  · rw [othF_bt] at h
    obtain ⟨j, -, hj⟩ := (anB_iff _).mp h
    rw [Bool.and_eq_true, shF_bt ok h32] at hj
    simp only [Bool.and_eq_true] at hj
    exact hj.2.2
theorem gS_bt (ok : GOk G) (hx : x < 2 ^ hD (gH G)) (hr : r < 8) (hk : k < 32) : bt (gS G x r) k = (decide (k < hD (gH G)) && (bt (nI x) k && anB (fun j => sShuts (gH G) k (if j = gp G then nI r else hR (gH G) j)) (hP (gH G)))) := by
  have ok' := gX_ok ok hx hr
  have := sShutM_bt (gX G x r) ok' hk
  unfold gS
  rw [show sRm (sO (gH G) (nI x)) (gp G) (nI r) = gX G x r from rfl, this]
  unfold sShut
  rw [anyN_0]
  rfl
theorem cM_bt (ok : GOk G) (hx : x < 2 ^ hD (gH G)) (hr : r < 8) (hk : bt (gUs (gH G)) k = true) : bt (cM G x r) k = bt (gS G x r) k := by
  have h32 := bt32 hk
  have h14 := ok.1.1
  have hD : k < hD (gH G) := by
    rw [gUs_bt h14 h32] at hk
    simp only [Bool.and_eq_true, decide_eq_true_eq] at hk
    exact hk.1
  rw [gS_bt ok hx hr h32, decide_eq_true hD, Bool.true_and]
  unfold cM
  rw [b_and, b_or, shF_bt ok.1 h32, othF_bt, hk, decide_eq_true hD, Bool.true_and, Bool.and_true]
  congr 1
  rw [Bool.eq_iff_iff, Bool.or_eq_true, anB_iff, anB_iff]
  constructor
  · rintro (h | ⟨j, hj, h⟩)
    · exact ⟨gp G, ok.2.2.1, by rw [if_pos rfl]; exact h⟩
    · rw [Bool.and_eq_true, shF_bt ok.1 h32] at h
      simp only [Bool.and_eq_true, Bool.not_eq_true', decide_eq_false_iff_not] at h
      exact ⟨j, hj, by rw [if_neg h.1]; exact h.2.1.2⟩
  · rintro ⟨j, hj, h⟩
    by_cases e : j = gp G
    · rw [if_pos e] at h; exact Or.inl h
    · rw [if_neg e] at h
      right
      refine ⟨j, hj, ?_⟩
      rw [shF_bt ok.1 h32, h, hk, decide_eq_true hD, decide_eq_false e]
      rfl
theorem opn_us (ok : GOk G) (hx : x < 2 ^ hD (gH G)) (hr : r < 8) {d s : Nat} (h : opn G x r d s) : usS (gH G) (nI s) := by
  obtain ⟨h1, h2, h3, h4, h5, h6⟩ := h
  intro k hk
  have h32 := bt32 hk
  have h14 := ok.1.1
  have hg := (sub_iff.mp h6) k h32 hk
  rw [gS_bt ok hx hr h32] at hg
  simp only [Bool.and_eq_true, decide_eq_true_eq] at hg
  obtain ⟨hkD, hxk, ha⟩ := hg
  obtain ⟨j, hj, hs⟩ := (anB_iff _).mp ha
  have n4 : ¬ hK (gH G) k = 4 := by
    intro e
    unfold sEn at h5
    rw [Bool.and_eq_true, decide_eq_true_eq, anyN_0, Bool.not_eq_true'] at h5
    have : anB (fun d => bt (nI s) d && decide (hLn (gH G) ≤ sW (gH G) (nI s) - wtN (hK (gH G) d))) (hD (gH G)) = true := (anB_iff _).mpr ⟨k, hkD, by rw [hk, e, show wtN 4 = 0 from by decide, Nat.sub_zero, decide_eq_true h5.1]; rfl⟩
    rw [this] at h5
    cases h5.2
  have n5 : ¬ hK (gH G) k = 5 := by
    intro e
    unfold sShuts at hs
    rw [if_neg n4, e] at hs
    simp at hs
  rw [gUs_bt h14 h32, decide_eq_true hkD, Bool.true_and]
  unfold sgD dbD
  by_cases h2' : hK (gH G) k = 2
  · rw [decide_eq_true h2', Bool.or_true]
  · have : wtN (hK (gH G) k) = 1 := by
      unfold wtN
      rw [if_neg (fun z => by rcases z with z | z; exact h2' z; exact n5 z), if_neg n4]
    rw [decide_eq_true this]; rfl
theorem src_open {v F t d s : Nat} (ok : GOk G) (h : SrcR G v F t x r) (ho : opn G x r d s) (ht : t < gm G) (hg : ¬ gg G t = r) : SrcR G (v + 1) (fbB F d) t (opx x s d) r := by
  have ea : adv (Qr (gg G) r) (gm G) t = t := adv_same (fun _ => decide_eq_false hg) (Nat.le_of_lt ht)
  refine ⟨fun z => by omega, fun _ => ?_⟩
  by_cases e : v = 0
  · subst e
    obtain ⟨h1, h2⟩ := h.1 rfl
    have h3 := R_open h2 ho
    rw [ea] at h3
    unfold fbB
    rw [if_pos h1]
    refine ⟨Nat.ne_of_gt (Nat.two_pow_pos d), fun b hb => ?_⟩
    rw [Nat.testBit_two_pow] at hb
    have : d = b := of_decide_eq_true hb
    rw [← this]
    exact h3
  · obtain ⟨h1, h2⟩ := h.2 (by omega)
    unfold fbB
    rw [if_neg h1]
    refine ⟨h1, fun b hb => ?_⟩
    have h3 := R_open (h2 b hb) ho
    rw [ea] at h3
    unfold fst1 at h3
    rw [if_neg e] at h3
    exact h3
end LV
theorem shrN {a k : Nat} (ha : a < 2 ^ 31) (hk : k < 32) : i_shr (nI a) (nI k) = nI (a / 2 ^ k) := pk_shrN ha (nI k &&& 31) k (s_l k hk)
section SR
variable {h h' : xH} {G : GP} {sb ap as aq sl len st B n : Nat} {w : Nat → Int32} {fA : Nat → Nat → Int32} {E L : Nat} {Q : QS}
theorem Prc.mono {i : Nat} {Q' : QS} (h : Prc G Q i) (hi : i < qT Q) (hE : i < E) (g : QLe E Q Q') : Prc G Q' i := by
  intro r d s hc ho
  obtain ⟨g1, g2, g3, g4⟩ := g.2.1 i hi
  rw [g1] at hc ho
  have := (h r d s hc ho).mono g
  rw [g1, g2, g4 hE]
  exact this
/-- one set, all doors -/
theorem x_144 (c : CX G sb ap as aq sl len st B w fA) (s : SHp h G sb ap as aq sl len st B w fA E Q) (q : QP G E L Q) {F v t x r u : Nat} {v8 : Int32} (hs : SrcR G v F t x r) (hL : v + 1 = L) (hF : F < 512) (hx : x < 2 ^ hD (gH G)) (hr : r < 8) (ht : t < gm G) (hg : ¬ gg G t = r) (hu : u < 2 ^ hD (gH G)) (en : sEn (gH G) (nI u) = true) (us : usS (gH G) (nI u)) (hn : 2000 ≤ n) :
    ∃ h' Q', f_X3_leaveFrom_L144 n sb (nI r) (nI F) (nI x) (nI t) (opF (gH G) (nI r) &&& (nI x ^^^ (-1))) (cM G x r) v8 (nI u) n 0 h = some h' ∧ SHp h' G sb ap as aq sl len st B w fA E Q' ∧ QP G E L Q' ∧ QLe E Q Q' ∧ (∀ d, opn G x r d u → Arr G Q' L (fbB F d) (opx x u d) r t) ∧ FrX sb ap as aq h h' := by
  obtain ⟨ok, lay, -⟩ := id c
  have h9 := ok.2.1
  have inS : nI u &&& (cM G x r ^^^ (-1)) = 0 ↔ nI u &&& (gS G x r ^^^ (-1)) = 0 := by
    rw [sub_iff, sub_iff]
    constructor
    · intro h k hk hb; rw [← cM_bt ok hx hr (us k hb)]; exact h k hk hb
    · intro h k hk hb; rw [cM_bt ok hx hr (us k hb)]; exact h k hk hb
  have getD : ∀ {h : xH} {Q : QS}, SHp h G sb ap as aq sl len st B w fA E Q → x_gR h sb 3 2 = some (sb + 2) ∧ x_gI h (sb + 2) 2 6 = some (nI (hD (gH G))) ∧ x_ob h sb 3 = some () := by
    rintro h Q ⟨v, fg, fs, fq, fp, s1, s2, s3, -⟩
    exact ⟨s3.pl, by rw [s1.gI (k := 6) (by decide) (by decide), lay.1], s3.ob⟩
  have := lp0 (L := fun k (z : xH) d => f_X3_leaveFrom_L144 n sb (nI r) (nI F) (nI x) (nI t) (opF (gH G) (nI r) &&& (nI x ^^^ (-1))) (cM G x r) v8 (nI u) k (nI d) z)
    (I := fun d z => ∃ Q', SHp z G sb ap as aq sl len st B w fA E Q' ∧ QP G E L Q' ∧ QLe E Q Q' ∧ (∀ d', d' < d → opn G x r d' u → Arr G Q' L (fbB F d') (opx x u d') r t) ∧ FrX sb ap as aq h z)
    (R := fun z => ∃ Q', SHp z G sb ap as aq sl len st B w fA E Q' ∧ QP G E L Q' ∧ QLe E Q Q' ∧ (∀ d', opn G x r d' u → Arr G Q' L (fbB F d') (opx x u d') r t) ∧ FrX sb ap as aq h z) (D := hD (gH G)) (n := n) (s := h) (by omega)
    ⟨Q, s, q, QLe.refl, fun d hd => absurd hd (Nat.not_lt_zero _), FrX.refl⟩
    (fun k z hz => by
      obtain ⟨Q', c1, c2, c3, c4, c5⟩ := hz
      obtain ⟨g1, g2, g3⟩ := getD c1
      refine ⟨z, ?_, Q', c1, c2, c3, fun d' ho => c4 d' ho.1 ho, c5⟩
      show f_X3_leaveFrom_L144 n sb (nI r) (nI F) (nI x) (nI t) _ _ v8 (nI u) (k + 1) (nI (hD (gH G))) z = _
      rw [f_X3_leaveFrom_L144, g1, Option.bind_some, g2, Option.bind_some, if_pos (nI_le (Nat.le_refl _) (by omega))])
    (fun k z d hd hz => by
      obtain ⟨Q', c1, c2, c3, c4, c5⟩ := hz
      obtain ⟨g1, g2, g3⟩ := getD c1
      have fbI : (if nI F = 0 then nI (fbB F d) else nI (fbB F d)) = nI (fbB F d) := by split <;> rfl
      have st0 : f_X3_leaveFrom_L144 n sb (nI r) (nI F) (nI x) (nI t) (opF (gH G) (nI r) &&& (nI x ^^^ (-1))) (cM G x r) v8 (nI u) (k + 1) (nI d) z = if nI u &&& (cM G x r ^^^ (-1)) = 0 then (if i_shr (opF (gH G) (nI r) &&& (nI x ^^^ (-1))) (nI d) &&& 1 = 0 then f_X3_leaveFrom_L144 n sb (nI r) (nI F) (nI x) (nI t) (opF (gH G) (nI r) &&& (nI x ^^^ (-1))) (cM G x r) v8 (nI u) k (nI (d + 1)) z else (f_X3_arrive n z sb (nI (opx x u d)) (nI r) (nI t) (nI (fbB F d))).bind fun q34 => f_X3_leaveFrom_L144 n sb (nI r) (nI F) (nI x) (nI t) (opF (gH G) (nI r) &&& (nI x ^^^ (-1))) (cM G x r) v8 (nI u) k (nI (d + 1)) q34) else some z := by
        rw [f_X3_leaveFrom_L144, g1, Option.bind_some, g2, Option.bind_some, if_neg (nI_ge hd (by omega)), g3]
        simp only [Option.bind_some, nI_1]
        rw [show (nI x &&& (nI u ^^^ (-1))) ||| i_shl 1 (nI d) = nI (opx x u d) from (opx_I _ _ _).symm]
        by_cases e0 : F = 0
        · have e1 : nI (fbB F d) = i_shl 1 (nI d) := by unfold fbB; rw [if_pos e0, bit_nI d (by omega)]
          rw [e1, if_pos (show nI F = 0 by rw [e0]; rfl)]
        · have e1 : nI (fbB F d) = nI F := by unfold fbB; rw [if_neg e0]
          rw [e1, if_neg (show ¬ nI F = 0 from nI_ne0 (by omega) (by omega))]
      by_cases hin : nI u &&& (cM G x r ^^^ (-1)) = 0
      · right
        rw [if_pos hin] at st0
        have bd : bt (opF (gH G) (nI r) &&& (nI x ^^^ (-1))) d = (sOpens (gH G) d (nI r) && !bt (nI x) d) := by
          unfold opF
          rw [b_and, b_not _ (by omega), mkB_bt _ (by omega) d (by omega), decide_eq_true hd, Bool.true_and]
        by_cases hb : bt (opF (gH G) (nI r) &&& (nI x ^^^ (-1))) d = true
        · rw [if_neg (fun y => by rw [(b_has _ (by omega)).mp y] at hb; cases hb)] at st0
          rw [bd, Bool.and_eq_true, Bool.not_eq_true'] at hb
          have ho : opn G x r d u := ⟨hd, hu, hb.2, hb.1, en, inS.mp hin⟩
          have hso := src_open ok hs ho ht hg
          rw [hL] at hso
          have hfb : fbB F d < 512 := by
            unfold fbB
            split
            · exact Nat.lt_of_lt_of_le (Nat.pow_lt_pow_right (by decide) (show d < 9 by omega)) (by decide)
            · exact hF
          obtain ⟨z2, Q2, e2, s2, q2, l2, a2, f2⟩ := x_arrive (n := n) c c1 c2 hso hfb (opx_lt ok hx hd) hr (Nat.le_of_lt ht) (Nat.le_of_lt ht) rfl hn
          refine ⟨z2, ?_, Q2, s2, q2, c3.trans l2, fun d' hd' ho' => ?_, c5.trans f2⟩
          · show f_X3_leaveFrom_L144 n sb (nI r) (nI F) (nI x) (nI t) _ _ v8 (nI u) (k + 1) (nI d) z = _
            rw [st0, e2, Option.bind_some]
          · by_cases ed : d' = d
            · subst ed; exact a2
            · exact (c4 d' (by omega) ho').mono l2
        · have hbf : bt (opF (gH G) (nI r) &&& (nI x ^^^ (-1))) d = false := by simpa using hb
          rw [if_pos ((b_has _ (by omega)).mpr hbf)] at st0
          refine ⟨z, st0, Q', c1, c2, c3, fun d' hd' ho' => ?_, c5⟩
          by_cases ed : d' = d
          · subst ed
            exfalso
            apply hb
            rw [bd, ho'.2.2.2.1, ho'.2.2.1]
            rfl
          · exact c4 d' (by omega) ho'
      · left
        rw [if_neg hin] at st0
        exact ⟨z, st0, Q', c1, c2, c3, fun d' ho' => absurd (inS.mpr ho'.2.2.2.2.2) hin, c5⟩)
  obtain ⟨z, e, Q', r⟩ := this
  exact ⟨z, Q', e, r⟩
/-- all sets -/
theorem x_117 (c : CX G sb ap as aq sl len st B w fA) (s : SHp h G sb ap as aq sl len st B w fA E Q) (q : QP G E L Q) {F v t x r : Nat} (hs : SrcR G v F t x r) (hL : v + 1 = L) (hF : F < 512) (hx : x < 2 ^ hD (gH G)) (hr : r < 8) (ht : t < gm G) (hg : ¬ gg G t = r) (hn : 2000 ≤ n) :
    ∃ h' Q', f_X3_leaveFrom_L117 n sb (nI r) (nI F) (nI x) (nI t) (opF (gH G) (nI r) &&& (nI x ^^^ (-1))) (cM G x r) n 0 h = some h' ∧ SHp h' G sb ap as aq sl len st B w fA E Q' ∧ QP G E L Q' ∧ QLe E Q Q' ∧ (∀ d u, opn G x r d u → Arr G Q' L (fbB F d) (opx x u d) r t) ∧ FrX sb ap as aq h h' := by
  obtain ⟨ok, lay, -⟩ := id c
  obtain ⟨-, -, -, -, -, -, -, ec, ew, eS⟩ := id lay
  obtain ⟨ec1, ec2, ec3⟩ := eS
  have getD : ∀ {h : xH} {Q : QS}, SHp h G sb ap as aq sl len st B w fA E Q → x_gR h sb 3 2 = some (sb + 2) ∧ x_gI h (sb + 2) 2 5 = some (nI ec) ∧ x_gR h (sb + 2) 2 3 = some (sb + 2 + 1 + 3) ∧ ∀ i, i < 126 → x_ld h (sb + 2 + 1 + 3) (nI i) = some (fA 3 i) := by
    rintro h Q ⟨v, fg, fs, fq, fp, s1, s2, s3, -⟩
    exact ⟨s3.pl, by rw [s1.gI (k := 5) (by decide) (by decide), ew], s1.gR (k := 3) (by decide), fun i hi => s1.ld (k := 3) (by decide) hi⟩
  have := lp0 (L := fun k (z : xH) i => f_X3_leaveFrom_L117 n sb (nI r) (nI F) (nI x) (nI t) (opF (gH G) (nI r) &&& (nI x ^^^ (-1))) (cM G x r) k (nI i) z)
    (I := fun i z => ∃ Q', SHp z G sb ap as aq sl len st B w fA E Q' ∧ QP G E L Q' ∧ QLe E Q Q' ∧ (∀ i' d u, i' < i → fA 3 i' = nI u → u < 2 ^ hD (gH G) → opn G x r d u → Arr G Q' L (fbB F d) (opx x u d) r t) ∧ FrX sb ap as aq h z)
    (R := fun z => ∃ Q', SHp z G sb ap as aq sl len st B w fA E Q' ∧ QP G E L Q' ∧ QLe E Q Q' ∧ (∀ d u, opn G x r d u → Arr G Q' L (fbB F d) (opx x u d) r t) ∧ FrX sb ap as aq h z) (D := ec) (n := n) (s := h) (by omega)
    ⟨Q, s, q, QLe.refl, fun i d u hi => absurd hi (Nat.not_lt_zero _), FrX.refl⟩
    (fun k z hz => by
      obtain ⟨Q', c1, c2, c3, c4, c5⟩ := hz
      obtain ⟨g1, g2, g3, g4⟩ := getD c1
      refine ⟨z, ?_, Q', c1, c2, c3, fun d u ho => ?_, c5⟩
      · show f_X3_leaveFrom_L117 n sb (nI r) (nI F) (nI x) (nI t) _ _ (k + 1) (nI ec) z = _
        rw [f_X3_leaveFrom_L117, g1, Option.bind_some, g2, Option.bind_some, if_pos (nI_le (Nat.le_refl _) (by omega))]
      · obtain ⟨i, hi, ei⟩ := ec3 u ho.2.1 ho.2.2.2.2.1 (opn_us ok hx hr ho)
        exact c4 i d u hi ei ho.2.1 ho)
    (fun k z i hi hz => by
      right
      obtain ⟨Q', c1, c2, c3, c4, c5⟩ := hz
      obtain ⟨g1, g2, g3, g4⟩ := getD c1
      obtain ⟨u, u1, u2, u3, u4⟩ := ec2 i hi
      obtain ⟨z2, Q2, e2, s2, q2, l2, a2, f2⟩ := x_144 (n := n) (v8 := nI i) c c1 c2 hs hL hF hx hr ht hg u2 u3 u4 hn
      refine ⟨z2, ?_, Q2, s2, q2, c3.trans l2, fun i' d y hi' ey hy ho => ?_, c5.trans f2⟩
      · show f_X3_leaveFrom_L117 n sb (nI r) (nI F) (nI x) (nI t) _ _ (k + 1) (nI i) z = _
        rw [f_X3_leaveFrom_L117, g1, Option.bind_some, g2, Option.bind_some, if_neg (nI_ge hi (by omega)), Option.bind_some, g3, Option.bind_some, g4 i (by omega), Option.bind_some, u1, e2, Option.bind_some, Option.bind_some, nI_1]
      · by_cases e : i' = i
        · subst e
          rw [u1] at ey
          have : u = y := (nI_eq (x31 ok u2) (x31 ok hy)).mp ey
          subst this
          exact a2 d ho
        · exact (c4 i' d y (by omega) ey hy ho).mono l2)
  obtain ⟨z, e, Q', r⟩ := this
  exact ⟨z, Q', e, r⟩
/-- leaving from a room -/
theorem x_leave (c : CX G sb ap as aq sl len st B w fA) (s : SHp h G sb ap as aq sl len st B w fA E Q) (q : QP G E L Q) {i r : Nat} (hi : i < E) (hL : qV Q i + 1 = L) (hr : r < 8) (hn : 2000 ≤ n) :
    ∃ h' Q', f_X3_leaveFrom n h sb (nI r) (nI (qS Q i)) (nI (qF Q i)) = some h' ∧ SHp h' G sb ap as aq sl len st B w fA E Q' ∧ QP G E L Q' ∧ QLe E Q Q' ∧ (conn (gH G) (nI (eX G (qS Q i))) (eR (qS Q i)) r → ∀ d u, opn G (eX G (qS Q i)) r d u → Arr G Q' L (fbB (qF Q i) d) (opx (eX G (qS Q i)) u d) r (eD G (qS Q i))) ∧ FrX sb ap as aq h h' := by
  obtain ⟨ok, lay, w11, hst, hle, hlen, sp, hns, hsl, hB, h32⟩ := id c
  obtain ⟨l6, l7, l8, l9, l10, lj, lr, -⟩ := id lay
  have hiT : i < qT Q := Nat.lt_of_lt_of_le hi q.1
  obtain ⟨en1, en2, en3, en4, en5⟩ := (q.2.1 i hiT).1
  obtain ⟨S, eS⟩ : ∃ S, S = qS Q i := ⟨_, rfl⟩
  obtain ⟨F, eF⟩ : ∃ F, F = qF Q i := ⟨_, rfl⟩
  rw [← eS] at en1 en2 en3 en5
  rw [← eF] at en4 en5
  rw [← eS, ← eF]
  have h9 := ok.2.1
  have p9 := pow9 ok
  have hnl := gNS_le ok
  have pp : 1 ≤ 2 ^ hD (gH G) := Nat.one_le_two_pow
  obtain ⟨v, fg, fs, fq, fp, s1, s2, s3, s4, s5, s6, s7, s8, s9, s10, s11, s12, s13, s14⟩ := id s
  have hS : S < gNS G := by rw [eS]; exact (s12 i hiT).2.1
  obtain ⟨x, ex⟩ : ∃ x, x = eX G S := ⟨_, rfl⟩
  obtain ⟨t, et⟩ : ∃ t, t = eD G S := ⟨_, rfl⟩
  rw [← ex] at en2 en3 en5
  rw [← et] at en1 en2 en5
  rw [← ex, ← et]
  have x3 : (i_shr (nI S) 3) &&& (i_shl 1 (nI (hD (gH G))) - 1) = nI x := by
    rw [show (3 : Int32) = nI 3 from rfl, shrN (by omega) (by decide), bit_nI _ (by omega), show nI (2 ^ hD (gH G)) - 1 = nI (2 ^ hD (gH G) - 1) from pk_sub (b := 1) pp, and_nI (by omega) (by omega), Nat.and_two_pow_sub_one_eq_mod, ex]
    rfl
  have x6 : i_shr (nI S) (3 + nI (hD (gH G))) = nI t := by
    rw [show (3 : Int32) + nI (hD (gH G)) = nI (3 + hD (gH G)) from nI_add 3 _, shrN (by omega) (by omega), Nat.pow_add, ← Nat.div_div_eq_div_mul, et]
    rfl
  have h7 : nI S &&& 7 = nI (eR S) := pk_andN (m := 7) (by omega) 3 rfl
  have g6 : x_gI h (sb + 2) 2 6 = some (nI (hD (gH G))) := by rw [s1.gI (k := 6) (by decide) (by decide), l6]
  have l1 : x_ld h (sb + 2 + 1 + 2) (nI r) = some (opF (gH G) (nI r)) := by rw [s1.ld (k := 2) (by decide) hr, (lr r hr).2]
  have l2 : x_ld h (sb + 2 + 1 + 1) (nI r) = some (shF (gH G) (nI r)) := by rw [s1.ld (k := 1) (by decide) hr, (lr r hr).1]
  have g10 : x_gI h (sb + 2) 2 10 = some (othF (gH G) (gp G) (hP (gH G))) := by rw [s1.gI (k := 10) (by decide) (by decide), l10]
  obtain ⟨eL, L1, L4⟩ := HOk.L (gH G) ok.1
  have g7 : x_gI h (sb + 2) 2 7 = some (nI (hLn (gH G))) := by rw [s1.gI (k := 7) (by decide) (by decide), l7, eL]
  have gW : f_X2_weigh h (sb + 2) (cM G x r) = some (nI (sW (gH G) (cM G x r))) := p_weigh s1 ok.1 h9 l8 l9 (cM_us ok.1)
  have hW := sW_le (gH G) ok.1 (cM G x r)
  have er8 : eR S < 8 := Nat.mod_lt _ (by decide)
  have st0 : f_X3_leaveFrom n h sb (nI r) (nI S) (nI F) = if opF (gH G) (nI r) &&& (nI x ^^^ (-1)) = 0 then some h else if nI (hLn (gH G)) ≤ nI (sW (gH G) (cM G x r)) then (f_X2_partOf n h (sb + 2) (nI x) (nI (eR S))).bind fun q24 => if i_shr q24.1 (nI r) &&& 1 = 0 then some q24.2 else (f_X3_leaveFrom_L117 n sb (nI r) (nI F) (nI x) (nI t) (opF (gH G) (nI r) &&& (nI x ^^^ (-1))) (cM G x r) n 0 q24.2).bind fun q46 => some q46 else some h := by
    unfold f_X3_leaveFrom
    rw [s3.pl, Option.bind_some, g6, Option.bind_some, Option.bind_some, Option.bind_some, g6]
    simp only [Option.bind_some]
    rw [x3, x6, s1.gR (k := 2) (by decide)]
    simp only [Option.bind_some]
    rw [l1]
    simp only [Option.bind_some]
    rw [s1.gR (k := 1) (by decide)]
    simp only [Option.bind_some]
    rw [l2]
    simp only [Option.bind_some]
    rw [g10]
    simp only [Option.bind_some]
    rw [s1.ob]
    simp only [Option.bind_some]
    rw [show nI x &&& (shF (gH G) (nI r) ||| othF (gH G) (gp G) (hP (gH G))) = cM G x r from rfl, gW]
    simp only [Option.bind_some]
    rw [g7, h7]
    simp only [Option.bind_some]
  have none_ : (∀ d u, ¬ opn G x r d u) → (conn (gH G) (nI x) (eR S) r → ∀ d u, opn G x r d u → Arr G Q L (fbB F d) (opx x u d) r t) := fun hno _ d u ho => absurd ho (hno d u)
  by_cases h0 : opF (gH G) (nI r) &&& (nI x ^^^ (-1)) = 0
  · rw [if_pos h0] at st0
    refine ⟨h, Q, st0, s, q, QLe.refl, none_ (fun d u ho => ?_), FrX.refl⟩
    have hd := ho.1
    apply and_ne0.mpr ⟨d, by omega, ?_, ?_⟩ h0
    · unfold opF; rw [mkB_bt _ (by omega) d (by omega), decide_eq_true hd, ho.2.2.2.1]; rfl
    · rw [b_not _ (by omega), ho.2.2.1]; rfl
  · rw [if_neg h0] at st0
    by_cases hw : hLn (gH G) ≤ sW (gH G) (cM G x r)
    · rw [if_pos (nI_le hw (by omega))] at st0
      have spP : sepP (sb + 2) ap := by obtain ⟨sp1, sp2, sp3, sp4, sp5, sp6⟩ := id sp; unfold sepP; omega
      obtain ⟨sp1, sp2, sp3, sp4, sp5, sp6⟩ := id sp
      obtain ⟨h1, fp', e1, p1, pc1, f1⟩ := p_part (n := n) s1 ok.1 h9 l6 w11 hst lj s2 hlen hle spP en3 er8 (by omega)
      have a1 : SAt h1 sb as aq sl v fg fs fq := s3.fr f1 (fun k z => z) (fun z => by omega) (fun z => sp2 z) (fun z => sp3 z)
      have S1 : SHp h1 G sb ap as aq sl len st B w fA E Q := ⟨v, fg, fs, fq, fp', p1, pc1, a1, s4, s5, s6, s7, s8, s9, s10, s11, s12, s13, s14⟩
      have F1 : FrX sb ap as aq h h1 := Fr.mono f1 (fun _ _ z => z.elim) (fun _ z => Or.inr (Or.inl z))
      rw [e1, Option.bind_some] at st0
      by_cases hc : conn (gH G) (nI x) (eR S) r
      · rw [if_neg (fun z => by have := (b_has _ (show r < 32 by omega)).mp z; have h2 : bt (sReach (gH G) (nI x) (nI (eR S))) r = true := hc; rw [this] at h2; cases h2)] at st0
        have hg : ¬ gg G t = r := fun z => en2 (by rw [z]; exact hc)
        obtain ⟨h2, Q2, e2, s2', q2, l2', a2, f2⟩ := x_117 (n := n) c S1 q (en5 r hc) hL en4 en3 hr en1 hg hn
        refine ⟨h2, Q2, ?_, s2', q2, l2', fun _ => a2, F1.trans f2⟩
        rw [st0, e2, Option.bind_some]
      · rw [if_pos ((b_has _ (show r < 32 by omega)).mpr (by cases e : bt (sReach (gH G) (nI x) (nI (eR S))) r; rfl; exact absurd e hc))] at st0
        exact ⟨h1, Q, st0, S1, q, QLe.refl, fun z => absurd z hc, F1⟩
    · rw [if_neg (fun z => hw ((nI_leI (by omega) (by omega)).mp z))] at st0
      refine ⟨h, Q, st0, s, q, QLe.refl, none_ (fun d u ho => ?_), FrX.refl⟩
      have us := opn_us ok en3 hr ho
      have h1 := sEn_le ho.2.2.2.2.1
      have h2 := sW_mono (T := nI u) (S := cM G x r) ok.1 (fun k hk hb => by
        rw [cM_bt ok en3 hr (us k hb)]
        exact (sub_iff.mp ho.2.2.2.2.2) k hk hb)
      omega
end SR
