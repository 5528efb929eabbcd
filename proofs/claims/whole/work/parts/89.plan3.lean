/-! The class's Plan: lay, partOf. -/
def LayOk (H : HS) (p : Nat) (w : Nat → Int32) (fA : Nat → Nat → Int32) : Prop := w 6 = nI (hD H) ∧ w 7 = hL H ∧ w 8 = gSg H ∧ w 9 = gDb H ∧ w 10 = othF H p (hP H) ∧ (∀ d, d < hD H → fA 0 d = sSd H d) ∧ (∀ r, r < 8 → fA 1 r = shF H (nI r) ∧ fA 2 r = opF H (nI r)) ∧ ∃ ec, w 5 = nI ec ∧ SetsOk H ec (fA 3)
def PC0 (st len : Nat) (fp : Nat → Int32) : Prop := ∀ j, j < len → ∃ s u, fp j = nI (s * 256 + u) ∧ u < 256 ∧ s ≤ st
def PCk (H : HS) (st len : Nat) (fp : Nat → Int32) : Prop := ∀ j, j < len → ∃ s u, fp j = nI (s * 256 + u) ∧ u < 256 ∧ s ≤ st ∧ (s = st → nI u = sReach H (nI (j / 8)) (nI (j % 8)))
theorem PCk.pc0 {H : HS} {st len : Nat} {fp : Nat → Int32} (h : PCk H st len fp) : PC0 st len fp := fun j hj => by
  obtain ⟨s, u, a, b, c, -⟩ := h j hj
  exact ⟨s, u, a, b, c⟩
theorem PC0.next {H : HS} {st len : Nat} {fp : Nat → Int32} (h : PC0 st len fp) : PCk H (st + 1) len fp := fun j hj => by
  obtain ⟨s, u, a, b, c⟩ := h j hj
  exact ⟨s, u, a, b, by omega, fun e => by omega⟩
theorem sh8 : ∀ D, D ≤ 9 → i_shl 8 (nI D) = nI (8 * 2 ^ D) ∧ x_sz (i_shl 8 (nI D)) = some (8 * 2 ^ D) := by decide +kernel
theorem At.lt {h : xH} {a n : Nat} {f : Nat → Int32} (q : At h a n f) : a < h.length + 16 := g_lt q
theorem or_nI {a c : Nat} (ha : a < 2 ^ 31) (hc : c < 2 ^ 31) : nI a ||| nI c = nI (a ||| c) := by
  apply b_ext
  intro i hi
  rw [b_or, bt_nI ha hi, bt_nI hc hi, bt_nI (Nat.or_lt_two_pow ha hc) hi, Nat.testBit_or]
theorem or_256 {s u : Nat} (hs : s < 2 ^ 22) (hu : u < 256) : nI (s * 256) ||| nI u = nI (s * 256 + u) := by
  rw [or_nI (by omega) (by omega), Nat.mul_comm s 256, show 256 = 2 ^ 8 from rfl, Nat.two_pow_add_eq_or_of_lt hu]
theorem shl8_n {s : Nat} (hs : s < 2 ^ 22) : i_shl (nI s) 8 = nI (s * 256) := pk_shlN ((8 : Int32) &&& 31) 8 (by decide) (by omega)
theorem shr8_n {a : Nat} (ha : a < 2 ^ 31) : i_shr (nI a) 8 = nI (a / 256) := pk_shrN ha ((8 : Int32) &&& 31) 8 (by decide)
theorem and255_n {a : Nat} (ha : a < 2 ^ 31) : nI a &&& 255 = nI (a % 256) := pk_andN (m := 255) (by omega) 8 rfl
section PL
variable {h h' : xH} {b ap len hb p n st : Nat} {w : Nat → Int32} {fA : Nat → Nat → Int32} {fp : Nat → Int32} {H : HS}
/-- lay -/
theorem p_lay (q : PAt h b ap len w fA fp) (qh : HAt h hb H) (ok : HOk H) (h9 : hD H ≤ 9) (hp : p < hP H) (w11 : w 11 = nI st) (pc : PC0 st len fp) (hl : len < 2 ^ 20) (sp : sepP b ap) (hx : b + 5 ≤ hb ∨ hb + 5 ≤ b) (hxa : ap < hb ∨ hb + 5 ≤ ap) (hn : 2000 ≤ n) :
    ∃ h' ap' len' w' fA' fp' c s, f_X2_lay n h b hb (nI p) = some (h', c, s) ∧ PAt h' b ap' len' w' fA' fp' ∧ LayOk H p w' fA' ∧ w' 11 = nI (st + 1) ∧ PCk H (st + 1) len' fp' ∧ 8 * 2 ^ hD H ≤ len' ∧ sepP b ap' ∧ (ap' < hb ∨ hb + 5 ≤ ap') ∧ HAt h' hb H ∧ FrP b h h' ∧
      ((ap' = ap ∧ len' = len ∧ c = 0 ∧ s = 0) ∨ ((∀ a e, x_at h a = some (.inl e) → a ≠ ap') ∧ len < len' ∧ len' = 8 * 2 ^ hD H ∧ c = 1 ∧ s = len')) := by
  have h14 := ok.1
  obtain ⟨e8, ez⟩ := sh8 (hD H) h9
  have p9 : 2 ^ hD H ≤ 512 := Nat.le_trans (Nat.pow_le_pow_right (by decide) h9) (by decide)
  have pp : 1 ≤ 2 ^ hD H := Nat.one_le_two_pow
  obtain ⟨h1, e1, q1, f1⟩ := q.put (k := 6) (by decide) (by decide) (nI (hD H))
  obtain ⟨h2, e2, q2, f2⟩ := q1.put (k := 7) (by decide) (by decide) (hL H)
  obtain ⟨h3, e3, q3, f3⟩ := q2.put (k := 11) (by decide) (by decide) (nI (st + 1))
  have qh1 := qh.frP (FrP.put f1) hx
  have qh2 := qh1.frP (FrP.put f2) hx
  have qh3 := qh2.frP (FrP.put f3) hx
  have fr3 : Fr (fun a _ => a = b) (fun _ => False) h h3 := Fr.trans f1 (Fr.trans f2 f3)
  have g11 : x_gI h2 b 2 11 = some (nI st) := by rw [q2.gI (k := 11) (by decide) (by decide), pk_un (by decide), pk_un (by decide), w11]
  have g6 : x_gI h3 b 2 6 = some (nI (hD H)) := by rw [q3.gI (k := 6) (by decide) (by decide), pk_un (by decide), pk_un (by decide), pk_us]
  -- the row of parts, made anew or not
  have mid : ∃ h4 ap' len' fp' c s, (if nI (8 * 2 ^ hD H) ≤ nI len then some ((h3, 0, 0) : xH × Nat × Nat) else x_add 1 (8 * 2 ^ hD H) <| (x_put (h3 ++ [.inl (.int, 8 * 2 ^ hD H, .inl (fun _ => 0))]) b 2 4 (.ref (h3.length + 16))).bind fun h15 => some (h15, 0, 0)) = some (h4, c, s) ∧ PAt h4 b ap' len' (upd (upd (upd w 6 (nI (hD H))) 7 (hL H)) 11 (nI (st + 1))) fA fp' ∧ PCk H (st + 1) len' fp' ∧ 8 * 2 ^ hD H ≤ len' ∧ sepP b ap' ∧ (ap' < hb ∨ hb + 5 ≤ ap') ∧ HAt h4 hb H ∧ FrP b h h4 ∧ ((ap' = ap ∧ len' = len ∧ c = 0 ∧ s = 0) ∨ ((∀ a e, x_at h a = some (.inl e) → a ≠ ap') ∧ len < len' ∧ len' = 8 * 2 ^ hD H ∧ c = 1 ∧ s = len')) := by
    by_cases hc : 8 * 2 ^ hD H ≤ len
    · refine ⟨h3, ap, len, fp, 0, 0, ?_, q3, pc.next, hc, sp, hxa, qh3, FrP.put fr3, Or.inl ⟨rfl, rfl, rfl, rfl⟩⟩
      rw [if_pos (nI_le hc (by omega))]
    · obtain ⟨a1, a2, a3, a4, a5⟩ := q3
      have ga : Fr (fun _ _ => False) (fun _ => False) h3 (h3 ++ [.inl (.int, 8 * 2 ^ hD H, .inl (fun _ => 0))]) := Fr.app
      obtain ⟨h5, e5, g5, f5⟩ := w_put (ga.1 _ _ _ _ id a2) (.ref (h3.length + 16))
      have fr5 : Fr (fun a _ => a = b) (fun _ => False) h3 h5 := Fr.trans (Fr.mono ga (fun _ _ z => z.elim) (fun _ z => z)) (Fr.mono f5 (fun _ _ z => z.1) (fun _ z => z))
      have lt4 : b + 1 + 3 < h3.length + 16 := (a4 3 (by decide)).lt
      have lth : hb + 4 < h3.length + 16 := by
        obtain ⟨-, fk, fa, fb, fr, x1, x2, x3, x4, -⟩ := qh3
        exact x4.lt
      refine ⟨h5, h3.length + 16, 8 * 2 ^ hD H, fun _ => 0, 1, 8 * 2 ^ hD H, ?_, ⟨fun j hj => f5.1 _ _ _ _ (fun z => by omega) (ga.1 _ _ _ _ id (a1 j hj)), g5, fun j j1 j2 => f5.1 _ _ _ _ (fun z => by omega) (ga.1 _ _ _ _ id (a3 j j1 j2)), fun j hj => fr5.2 _ _ id (a4 j hj), f5.2 _ _ id x_at_new⟩, ?_, Nat.le_refl _, Or.inr (by omega), Or.inr (by omega), ?_, FrP.put (Fr.trans fr3 fr5), Or.inr ⟨?_, by omega, rfl, rfl, rfl⟩⟩
      · rw [if_neg (nI_ge (by omega) (by omega)), e5]
        rfl
      · exact fun j hj => ⟨0, 0, rfl, by decide, by omega, fun z => by omega⟩
      · exact qh3.frP (FrP.put fr5) hx
      · intro a e ha
        have := g_lt (fr3.2 a e id ha)
        omega
  obtain ⟨h4, ap', len', fp', c, s, e4, q4, pc4, l4, sp4, hx4, qh4, fr4, alt⟩ := mid
  have w46 : upd (upd (upd w 6 (nI (hD H))) 7 (hL H)) 11 (nI (st + 1)) 6 = nI (hD H) := by rw [pk_un (by decide), pk_un (by decide), pk_us]
  obtain ⟨h5, w5, A5, e5, q5, x8, x9, xk, xj, f5⟩ := p_sort (n := n) q4 qh4 ok h9 w46 sp4 hx (by omega)
  have qh5 := qh4.frP f5 hx
  have w56 : w5 6 = nI (hD H) := by rw [xk 6 (by decide) (by decide)]; exact w46
  obtain ⟨h6, A6, e6, q6, y0, y3, yr, f6⟩ := p_66 (n := n) (v2 := nI p) q5 qh5 ok h9 w56 x8 x9 sp4 hx (by omega)
  have qh6 := qh5.frP f6 hx
  obtain ⟨h7, e7, q7, f7⟩ := q6.put (k := 10) (by decide) (by decide) 0
  have qh7 := qh6.frP (FrP.put f7) hx
  obtain ⟨h8, w8, e8', q8, z10, zk, f8⟩ := p_91 (n := n) (p := p) q7 qh7 ok (fun r hr => (yr r hr).1) pk_us hx (by omega) (by have := ok.2.1; omega)
  have qh8 := qh7.frP f8 hx
  have w8k : ∀ k, k ≠ 10 → w8 k = w5 k := fun k hk => by rw [zk k hk, pk_un hk]
  have w87 : w8 7 = hL H := by rw [w8k 7 (by decide), xk 7 (by decide) (by decide), pk_un (by decide), pk_us]
  obtain ⟨h9', w9, A9, ec, e9, q9, v5, vs, vk, va, f9⟩ := p_list (n := n) q8 ok h9 w87 (by rw [w8k 8 (by decide), x8]) (by rw [w8k 9 (by decide), x9]) sp4 (by omega)
  refine ⟨h9', ap', len', w9, A9, fp', c, s, ?_, q9, ⟨?_, ?_, ?_, ?_, ?_, ?_, ?_, ec, v5, vs⟩, ?_, pc4, l4, sp4, hx4, qh8.frP f9 hx, fr4.trans (f5.trans (f6.trans ((FrP.put f7).trans (f8.trans f9)))), alt⟩
  · unfold f_X2_lay
    rw [qh.D, Option.bind_some, show x_min (nI (hD H)) 9 = nI (hD H) by rw [show (9 : Int32) = nI 9 from rfl, x_min_nI (by omega) (by decide), Nat.min_eq_right h9], e1, Option.bind_some, qh1.L, Option.bind_some, e2, Option.bind_some, g11, Option.bind_some, nI_1, e3, Option.bind_some, q3.gP, Option.bind_some, x_len_n q3.2.2.2.2, Option.bind_some, g6, Option.bind_some]
    simp only [Option.bind_some]
    rw [ez]
    simp only [Option.bind_some]
    rw [e8, e4]
    simp only [Option.bind_some, q4.ob]
    rw [e5]
    simp only [Option.bind_some]
    rw [e6]
    simp only [Option.bind_some]
    rw [e7]
    simp only [Option.bind_some]
    rw [e8']
    simp only [Option.bind_some, q8.ob]
    rw [e9]
    show some (h9', c + 0, s + 0) = _
    rfl
  · rw [vk 6 (by decide), w8k 6 (by decide), w56]
  · rw [vk 7 (by decide), w87]
  · rw [vk 8 (by decide), w8k 8 (by decide), x8]
  · rw [vk 9 (by decide), w8k 9 (by decide), x9]
  · rw [vk 10 (by decide), z10]
  · intro d hd; rw [va 0 (by decide), y0]; exact xj d hd
  · intro r hr; rw [va 1 (by decide), va 2 (by decide)]; exact yr r hr
  · rw [vk 11 (by decide), w8k 11 (by decide), xk 11 (by decide) (by decide), pk_us]
theorem p_81 (q : PAt h b ap len w fA fp) (ok : HOk H) (h9 : hD H ≤ 9) (w6 : w 6 = nI (hD H)) (hj : ∀ d, d < hD H → fA 0 d = sSd H d) {o acc v5 v6 : Int32} (hn : 20 ≤ n) : f_X2_partOf_L81 h b o v5 v6 n acc 0 = some (rp H o acc (hD H)) := by
  refine lpE (L := fun k (s : Int32) d => f_X2_partOf_L81 h b o v5 v6 k s (nI d)) (fun d => rp H o acc d) (D := hD H) (n := n) (by omega) (fun k => ?_) (fun k d hd => ?_)
  · show f_X2_partOf_L81 h b o v5 v6 (k + 1) _ (nI (hD H)) = _
    rw [f_X2_partOf_L81, q.gI (k := 6) (by decide) (by decide), Option.bind_some, w6, if_pos (nI_le (Nat.le_refl _) (by omega))]
  · show f_X2_partOf_L81 h b o v5 v6 (k + 1) _ (nI d) = f_X2_partOf_L81 h b o v5 v6 k (if bt o d && !decide (rp H o acc d &&& sSd H d = 0) then _ else _) (nI (d + 1))
    rw [f_X2_partOf_L81, q.gI (k := 6) (by decide) (by decide), Option.bind_some, w6, if_neg (nI_ge hd (by omega))]
    simp only [Option.bind_some, q.gR (k := 0) (by decide), q.ld (k := 0) (by decide) (show d < 9 by omega), hj d hd, nI_1]
    cases e : bt o d
    · rw [if_pos ((b_has _ (by omega)).mpr e)]
      rfl
    · rw [if_neg (fun z => by rw [(b_has _ (by omega)).mp z] at e; cases e)]
      by_cases c : rp H o acc d &&& sSd H d = 0
      · rw [if_pos c, decide_eq_true c]; rfl
      · rw [if_neg c, decide_eq_false c]; rfl
theorem p_60 (q : PAt h b ap len w fA fp) (ok : HOk H) (h9 : hD H ≤ 9) (w6 : w 6 = nI (hD H)) (hj : ∀ d, d < hD H → fA 0 d = sSd H d) {o : Int32} (hn : 20 ≤ n) : ∀ (c k i : Nat) (acc prev : Int32), i + c = 8 → c < k → (acc = prev → rp H o acc (hD H) = acc) → f_X2_partOf_L60 n h b o k acc prev (nI i) = some (rpK H o acc c)
  | 0, 0, _, _, _, _, hk, _ => absurd hk (Nat.lt_irrefl _)
  | 0, k + 1, i, acc, prev, hi, _, _ => by
    rw [f_X2_partOf_L60, if_pos (show (8 : Int32) ≤ nI i from nI_le (a := 8) (by omega) (by omega))]
    rfl
  | c + 1, 0, _, _, _, _, hk, _ => absurd hk (Nat.not_lt_zero _)
  | c + 1, k + 1, i, acc, prev, hi, hk, hf => by
    rw [f_X2_partOf_L60, if_neg (show ¬ (8 : Int32) ≤ nI i from nI_ge (b := 8) (by omega) (by decide))]
    by_cases e : acc = prev
    · rw [if_pos e, rpK_fix H o acc (hf e)]
    · rw [if_neg e, p_81 q ok h9 w6 hj hn, Option.bind_some, Option.bind_some, nI_1, p_60 q ok h9 w6 hj hn c k (i + 1) _ acc (by omega) (by omega) (fun z => by rw [z, z])]
      rfl
theorem sR_lt (ok : HOk H) {o : Int32} {r : Nat} (hr : r < 8) : (sReach H o (nI r)).toBitVec.toNat < 256 := tn_lt (D := 8) (by decide) (fun k h1 h2 => by
  cases e : bt (sReach H o (nI r)) k
  · rfl
  · have := conn_lt ok hr (show conn H o r k from e)
    omega)
theorem PAt.stP (q : PAt h b ap len w fA fp) (sp : sepP b ap) {i : Nat} (hi : i < len) (hl : len < 2 ^ 20) (x : Int32) : ∃ h', x_st h ap (nI i) x = some h' ∧ PAt h' b ap len w fA (upd fp i x) ∧ Fr (fun _ _ => False) (fun a => a = ap) h h' := by
  obtain ⟨h', e1, g, f⟩ := w_st q.2.2.2.2 hi (by omega) x
  exact ⟨h', e1, ⟨fun j hj => f.1 _ _ _ _ id (q.1 j hj), f.1 _ _ _ _ id q.2.1, fun j j1 j2 => f.1 _ _ _ _ id (q.2.2.1 j j1 j2), fun j hj => f.2 _ _ (fun z => by unfold sepP at sp; omega) (q.2.2.2.1 j hj), g⟩, f⟩
/-- partOf -/
theorem p_part (q : PAt h b ap len w fA fp) (ok : HOk H) (h9 : hD H ≤ 9) (w6 : w 6 = nI (hD H)) (w11 : w 11 = nI st) (hst : st < 2 ^ 20) (hj : ∀ d, d < hD H → fA 0 d = sSd H d) (pc : PCk H st len fp) (hl : len < 2 ^ 20) (hle : 8 * 2 ^ hD H ≤ len) (sp : sepP b ap) {x r : Nat} (hx : x < 2 ^ hD H) (hr : r < 8) (hn : 20 ≤ n) : ∃ h' fp', f_X2_partOf n h b (nI x) (nI r) = some (sReach H (nI x) (nI r), h') ∧ PAt h' b ap len w fA fp' ∧ PCk H st len fp' ∧ Fr (fun _ _ => False) (fun a => a = ap) h h' := by
  have hjl : x * 8 + r < len := by omega
  have epl : nI x * 8 + nI r = nI (x * 8 + r) := by show nI x * nI 8 + nI r = _; rw [pk_mul, nI_add]
  obtain ⟨s, u, a1, a2, a3, a4⟩ := pc _ hjl
  have d8 : (x * 8 + r) / 8 = x ∧ (x * 8 + r) % 8 = r := mr hr
  rw [d8.1, d8.2] at a4
  have sb : s * 256 + u < 2 ^ 31 := by omega
  have ld0 : x_ld h ap (nI (x * 8 + r)) = some (nI (s * 256 + u)) := by rw [q.2.2.2.2.ld hjl (by omega), a1]
  have g11 : x_gI h b 2 11 = some (nI st) := by rw [q.gI (k := 11) (by decide) (by decide), w11]
  have sd : (s * 256 + u) / 256 = s ∧ (s * 256 + u) % 256 = u := mr a2
  unfold f_X2_partOf
  rw [Option.bind_some, epl, if_neg (nI_pos (by omega)), q.gP, Option.bind_some, x_len_n q.2.2.2.2, Option.bind_some, if_pos (nI_lt hjl (by omega)), Option.bind_some, ld0, Option.bind_some, g11, Option.bind_some, shr8_n sb, sd.1]
  by_cases e : s = st
  · rw [if_pos (by rw [e]), Option.bind_some, ld0, Option.bind_some, and255_n sb, sd.2, a4 e]
    exact ⟨h, fp, rfl, q, pc, Fr.rfl⟩
  · rw [if_neg (fun z => e ((nI_eq (by omega) (by omega)).mp z)), Option.bind_some]
    have e60 : f_X2_partOf_L60 n h b (nI x) n (i_shl 1 (nI r)) 0 0 = some (sReach H (nI x) (nI r)) := p_60 q ok h9 w6 hj hn 8 n 0 (i_shl 1 (nI r)) 0 (by omega) (by omega) (fun z => by
      exfalso
      have := congrArg (fun y => bt y r) z
      simp only [b_bit (show r < 32 by omega) (show r < 32 by omega), b_0] at this
      simp at this)
    rw [e60, Option.bind_some]
    obtain ⟨U, eU⟩ : ∃ U, U = (sReach H (nI x) (nI r)).toBitVec.toNat := ⟨_, rfl⟩
    have hU : U < 256 := by rw [eU]; exact sR_lt ok hr
    have eUI : sReach H (nI x) (nI r) = nI U := by rw [eU, nI_tn]
    have := lp0 (L := fun k (s : xH) i => f_X2_partOf_L139 b (nI x) (nI U) k (nI i) s) (I := fun _ s => ∃ fp', PAt s b ap len w fA fp' ∧ PCk H st len fp' ∧ Fr (fun _ _ => False) (fun a => a = ap) h s) (R := fun s => ∃ fp', PAt s b ap len w fA fp' ∧ PCk H st len fp' ∧ Fr (fun _ _ => False) (fun a => a = ap) h s) (D := 8) (n := n) (s := h) (by omega) ⟨fp, q, pc, Fr.rfl⟩
      (fun k s hs => by
        refine ⟨s, ?_, hs⟩
        show f_X2_partOf_L139 b (nI x) (nI U) (k + 1) (nI 8) s = _
        rw [f_X2_partOf_L139, if_pos (show (8 : Int32) ≤ nI 8 by decide)])
      (fun k s i hi hs => by
        right
        obtain ⟨fp', c1, c2, c3⟩ := hs
        by_cases hb : bt (nI U) i = true
        · have hc : conn H (nI x) r i := by show bt _ i = true; rw [eUI]; exact hb
          obtain ⟨h2, e2, q2, f2⟩ := c1.stP sp (show x * 8 + i < len by omega) hl (nI (st * 256 + U))
          refine ⟨h2, ?_, _, q2, ?_, Fr.trans c3 f2⟩
          · show f_X2_partOf_L139 b (nI x) (nI U) (k + 1) (nI i) s = _
            rw [f_X2_partOf_L139, if_neg (show ¬ (8 : Int32) ≤ nI i from nI_ge (b := 8) hi (by decide)), if_neg (fun z => by rw [(b_has _ (by omega)).mp z] at hb; cases hb), c1.gP, Option.bind_some, c1.gI (k := 11) (by decide) (by decide), Option.bind_some, w11, shl8_n (by omega), or_256 (by omega) hU, show nI x * 8 + nI i = nI (x * 8 + i) by show nI x * nI 8 + nI i = _; rw [pk_mul, nI_add], e2, Option.bind_some, Option.bind_some, nI_1]
          · intro j hj'
            by_cases ej : j = x * 8 + i
            · have dj : (x * 8 + i) / 8 = x ∧ (x * 8 + i) % 8 = i := mr hi
              refine ⟨st, U, by rw [ej, pk_us], hU, Nat.le_refl _, fun _ => ?_⟩
              rw [ej, dj.1, dj.2, conn_eq ok hr hc, eUI]
            · rw [pk_un ej]; exact c2 j hj'
        · refine ⟨s, ?_, fp', c1, c2, c3⟩
          show f_X2_partOf_L139 b (nI x) (nI U) (k + 1) (nI i) s = _
          rw [f_X2_partOf_L139, if_neg (show ¬ (8 : Int32) ≤ nI i from nI_ge (b := 8) hi (by decide)), if_pos ((b_has _ (by omega)).mpr (by simpa using hb)), Option.bind_some, nI_1])
    obtain ⟨s', es, fp', r1, r2, r3⟩ := this
    refine ⟨s', fp', ?_, r1, r2, r3⟩
    rw [eUI, show f_X2_partOf_L139 b (nI x) (nI U) n 0 h = some s' from es]
    rfl
end PL
