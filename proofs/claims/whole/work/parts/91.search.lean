/-! The class's Search over the heap: arriving. -/
def pgo (v a : Nat) : Nat := if v < a then a - 1 else a
theorem pgo_lt {v a N : Nat} (h1 : v < N + 1) (h2 : a < N + 1) (h3 : a ≠ v) : pgo v a < N := by unfold pgo; split <;> omega
theorem pgo_inj {v a c : Nat} (h1 : a ≠ v) (h2 : c ≠ v) (e : pgo v a = pgo v c) : a = c := by
  unfold pgo at e
  by_cases x : v < a
  · rw [if_pos x] at e
    by_cases y : v < c
    · rw [if_pos y] at e; omega
    · rw [if_neg y] at e; omega
  · rw [if_neg x] at e
    by_cases y : v < c
    · rw [if_pos y] at e; omega
    · rw [if_neg y] at e; exact e
theorem pig : ∀ (N T : Nat) (f : Nat → Nat), (∀ i, i < T → f i < N) → (∀ i j, i < T → j < T → f i = f j → i = j) → T ≤ N
  | 0, 0, _, _, _ => Nat.le_refl _
  | 0, T + 1, f, h, _ => absurd (h 0 (by omega)) (Nat.not_lt_zero _)
  | N + 1, 0, _, _, _ => Nat.zero_le _
  | N + 1, T + 1, f, h, hi => by
    have hv := h T (by omega)
    have ne : ∀ i, i < T → f i ≠ f T := fun i h1 h2 => by have := hi i T (by omega) (by omega) h2; omega
    have := pig N T (fun i => pgo (f T) (f i)) (fun i h1 => pgo_lt hv (h i (by omega)) (ne i h1)) (fun i j h1 h2 e => hi i j (by omega) (by omega) (pgo_inj (ne i h1) (ne j h2) e))
    omega
def SAt (h : xH) (sb as aq sl : Nat) (v fg fs fq : Nat → Int32) : Prop := x_get h sb 3 0 = some (.ref (sb + 1)) ∧ x_get h sb 3 2 = some (.ref (sb + 2)) ∧ x_get h sb 3 3 = some (.ref as) ∧ x_get h sb 3 4 = some (.ref aq) ∧ (∀ k, (k = 1 ∨ (5 ≤ k ∧ k < 11)) → x_get h sb 3 k = some (.int (v k))) ∧ At h (sb + 1) 4 fg ∧ At h as sl fs ∧ At h aq sl fq
def sep3 (sb ap as aq : Nat) : Prop := as ≠ aq ∧ as ≠ ap ∧ aq ≠ ap ∧ (ap < sb ∨ sb + 7 ≤ ap) ∧ (as < sb ∨ sb + 7 ≤ as) ∧ (aq < sb ∨ sb + 7 ≤ aq)
def FrX (sb ap as aq : Nat) (h h' : xH) : Prop := Fr (fun a _ => a = sb ∨ a = sb + 2) (fun a => (sb ≤ a ∧ a < sb + 7) ∨ a = ap ∨ a = as ∨ a = aq) h h'
section SA
variable {h h' : xH} {sb ap as aq sl : Nat} {v fg fs fq : Nat → Int32}
theorem FrX.trans {h1 h2 : xH} (x : FrX sb ap as aq h h1) (y : FrX sb ap as aq h1 h2) : FrX sb ap as aq h h2 := Fr.trans x y
theorem FrX.refl : FrX sb ap as aq h h := Fr.rfl
theorem SAt.gI (q : SAt h sb as aq sl v fg fs fq) {k : Nat} (hk : k = 1 ∨ (5 ≤ k ∧ k < 11)) : x_gI h sb 3 k = some (v k) := g_I (q.2.2.2.2.1 k hk)
theorem SAt.pl (q : SAt h sb as aq sl v fg fs fq) : x_gR h sb 3 2 = some (sb + 2) := g_R q.2.1
theorem SAt.gl (q : SAt h sb as aq sl v fg fs fq) : x_gR h sb 3 0 = some (sb + 1) := g_R q.1
theorem SAt.sn (q : SAt h sb as aq sl v fg fs fq) : x_gR h sb 3 3 = some as := g_R q.2.2.1
theorem SAt.qu (q : SAt h sb as aq sl v fg fs fq) : x_gR h sb 3 4 = some aq := g_R q.2.2.2.1
theorem SAt.ob (q : SAt h sb as aq sl v fg fs fq) : x_ob h sb 3 = some () := g_ob q.1
theorem SAt.fr {F : Nat → Nat → Prop} {P : Nat → Prop} (q : SAt h sb as aq sl v fg fs fq) (f : Fr F P h h') (hF : ∀ k, ¬ F sb k) (h1 : ¬ P (sb + 1)) (h2 : ¬ P as) (h3 : ¬ P aq) : SAt h' sb as aq sl v fg fs fq :=
  ⟨f.1 _ _ _ _ (hF _) q.1, f.1 _ _ _ _ (hF _) q.2.1, f.1 _ _ _ _ (hF _) q.2.2.1, f.1 _ _ _ _ (hF _) q.2.2.2.1, fun k hk => f.1 _ _ _ _ (hF _) (q.2.2.2.2.1 k hk), f.2 _ _ h1 q.2.2.2.2.2.1, f.2 _ _ h2 q.2.2.2.2.2.2.1, f.2 _ _ h3 q.2.2.2.2.2.2.2⟩
theorem SAt.put (q : SAt h sb as aq sl v fg fs fq) {k : Nat} (hk : k = 1 ∨ (5 ≤ k ∧ k < 11)) (x : Int32) : ∃ h', x_put h sb 3 k (.int x) = some h' ∧ SAt h' sb as aq sl (upd v k x) fg fs fq ∧ Fr (fun a _ => a = sb) (fun _ => False) h h' := by
  obtain ⟨q1, q2, q3, q4, q5, q6, q7, q8⟩ := q
  obtain ⟨h', e1, g, f⟩ := w_put (q5 k hk) (.int x)
  refine ⟨h', e1, ⟨f.1 _ _ _ _ (fun z => by omega) q1, f.1 _ _ _ _ (fun z => by omega) q2, f.1 _ _ _ _ (fun z => by omega) q3, f.1 _ _ _ _ (fun z => by omega) q4, fun j hj => ?_, f.2 _ _ id q6, f.2 _ _ id q7, f.2 _ _ id q8⟩, Fr.mono f (fun _ _ z => z.1) (fun _ z => z)⟩
  by_cases z : j = k
  · subst z; rw [g, pk_us]
  · rw [f.1 _ _ _ _ (fun y => z y.2) (q5 j hj), pk_un z]
theorem SAt.stS (q : SAt h sb as aq sl v fg fs fq) (sp : sep3 sb ap as aq) (hl : sl < 2 ^ 20) {i : Nat} (hi : i < sl) (x : Int32) : ∃ h', x_st h as (nI i) x = some h' ∧ SAt h' sb as aq sl v fg (upd fs i x) fq ∧ Fr (fun _ _ => False) (fun a => a = as) h h' := by
  obtain ⟨q1, q2, q3, q4, q5, q6, q7, q8⟩ := q
  obtain ⟨s1, s2, s3, s4, s5, s6⟩ := sp
  obtain ⟨h', e1, g, f⟩ := w_st q7 hi (by omega) x
  exact ⟨h', e1, ⟨f.1 _ _ _ _ id q1, f.1 _ _ _ _ id q2, f.1 _ _ _ _ id q3, f.1 _ _ _ _ id q4, fun j hj => f.1 _ _ _ _ id (q5 j hj), f.2 _ _ (fun z => by omega) q6, g, f.2 _ _ (fun z => s1 z.symm) q8⟩, f⟩
theorem SAt.stQ (q : SAt h sb as aq sl v fg fs fq) (sp : sep3 sb ap as aq) (hl : sl < 2 ^ 20) {i : Nat} (hi : i < sl) (x : Int32) : ∃ h', x_st h aq (nI i) x = some h' ∧ SAt h' sb as aq sl v fg fs (upd fq i x) ∧ Fr (fun _ _ => False) (fun a => a = aq) h h' := by
  obtain ⟨q1, q2, q3, q4, q5, q6, q7, q8⟩ := q
  obtain ⟨s1, s2, s3, s4, s5, s6⟩ := sp
  obtain ⟨h', e1, g, f⟩ := w_st q8 hi (by omega) x
  exact ⟨h', e1, ⟨f.1 _ _ _ _ id q1, f.1 _ _ _ _ id q2, f.1 _ _ _ _ id q3, f.1 _ _ _ _ id q4, fun j hj => f.1 _ _ _ _ id (q5 j hj), f.2 _ _ (fun z => by omega) q6, f.2 _ _ s1 q7, g⟩, f⟩
end SA
section PL
variable {h h' : xH} {b ap len : Nat} {w : Nat → Int32} {fA : Nat → Nat → Int32} {fp : Nat → Int32}
theorem PAt.fr {F : Nat → Nat → Prop} {P : Nat → Prop} (q : PAt h b ap len w fA fp) (f : Fr F P h h') (hF : ∀ k, ¬ F b k) (h1 : ∀ a, b + 1 ≤ a → a < b + 5 → ¬ P a) (h2 : ¬ P ap) : PAt h' b ap len w fA fp :=
  ⟨fun k hk => f.1 _ _ _ _ (hF _) (q.1 k hk), f.1 _ _ _ _ (hF _) q.2.1, fun k k1 k2 => f.1 _ _ _ _ (hF _) (q.2.2.1 k k1 k2), fun k hk => f.2 _ _ (h1 _ (by omega) (by omega)) (q.2.2.2.1 k hk), f.2 _ _ h2 q.2.2.2.2⟩
end PL
def gNS (G : GP) : Nat := max 1 (gm G) * (8 * 2 ^ hD (gH G))
/-- what is fixed while a search goes on -/
def CX (G : GP) (sb ap as aq sl len st B : Nat) (w : Nat → Int32) (fA : Nat → Nat → Int32) : Prop := GOk G ∧ LayOk (gH G) (gp G) w fA ∧ w 11 = nI st ∧ st < 2 ^ 20 ∧ 8 * 2 ^ hD (gH G) ≤ len ∧ len < 2 ^ 20 ∧ sep3 sb ap as aq ∧ gNS G ≤ sl ∧ sl < 2 ^ 20 ∧ B < 2 ^ 28 ∧ ∀ j, j < gm G → gg G j < 32
/-- the queue in the heap -/
def SHp (h : xH) (G : GP) (sb ap as aq sl len st B : Nat) (w : Nat → Int32) (fA : Nat → Nat → Int32) (E : Nat) (Q : QS) : Prop := ∃ v fg fs fq fp, PAt h (sb + 2) ap len w fA fp ∧ PCk (gH G) st len fp ∧ SAt h sb as aq sl v fg fs fq ∧ (∀ j, j < gm G → fg j = nI (gg G j)) ∧ v 1 = nI (gm G) ∧ v 5 = nI B ∧ v 6 = nI (qT Q) ∧ v 7 = nI E ∧ v 8 = bI (qfd Q) ∧ v 9 = nI (qff Q) ∧ v 10 = qrs Q ∧
  (∀ i, i < qT Q → fq i = nI (qF Q i * 16384 + qS Q i) ∧ qS Q i < gNS G ∧ fs (qS Q i) = nI (B + i)) ∧ (∀ s, s < sl → ∃ a, fs s = nI a ∧ (a < B ∨ ∃ i, i < qT Q ∧ a = B + i ∧ qS Q i = s)) ∧ qT Q ≤ gNS G
theorem shlD : ∀ D, D ≤ 9 → ∀ d, d ≤ 4 → i_shl (nI d) (nI D) = nI (d * 2 ^ D) := by decide +kernel
theorem shl14 : ∀ f, f < 512 → i_shl (nI f) 14 = nI (f * 16384) := by decide +kernel
theorem or_14 {f s : Nat} (hf : f < 512) (hs : s < 16384) : nI (f * 16384) ||| nI s = nI (f * 16384 + s) := by
  rw [or_nI (by omega) (by omega), Nat.mul_comm f 16384, show 16384 = 2 ^ 14 from rfl, Nat.two_pow_add_eq_or_of_lt hs]
theorem or_14o {F f s : Nat} (hF : F < 512) (hf : f < 512) (hs : s < 16384) : nI (F * 16384 + s) ||| nI (f * 16384) = nI ((F ||| f) * 16384 + s) := by
  have hb : F ||| f < 512 := b512 hF hf
  rw [or_nI (by omega) (by omega)]
  congr 1
  rw [Nat.mul_comm F, Nat.mul_comm f, Nat.mul_comm (F ||| f), show 16384 = 2 ^ 14 from rfl, Nat.two_pow_add_eq_or_of_lt hs, Nat.two_pow_add_eq_or_of_lt hs]
  apply Nat.eq_of_testBit_eq
  intro i
  simp only [Nat.testBit_or, Nat.testBit_two_pow_mul]
  cases decide (14 ≤ i) <;> simp [Bool.or_comm, Bool.or_assoc, Bool.or_left_comm]
section SR
variable {h h' : xH} {G : GP} {sb ap as aq sl len st B n : Nat} {w : Nat → Int32} {fA : Nat → Nat → Int32} {E L : Nat} {Q : QS}
theorem gNS_le (ok : GOk G) : gNS G ≤ 16384 := by
  have p9 := pow9 ok
  have h4 := ok.2.2.2.1
  unfold gNS
  have : max 1 (gm G) ≤ 4 := by omega
  exact Nat.le_trans (Nat.mul_le_mul this (Nat.mul_le_mul_left 8 p9)) (by decide)
theorem senc_lt (ok : GOk G) {d x r : Nat} (hd : d < gm G) (hx : x < 2 ^ hD (gH G)) (hr : r < 8) : senc G d x r < gNS G := by
  have h1 : d * 2 ^ hD (gH G) + x < gm G * 2 ^ hD (gH G) := mr_lt hx hd
  have h2 : senc G d x r < gm G * 2 ^ hD (gH G) * 8 := mr_lt hr h1
  have h3 : gm G * 2 ^ hD (gH G) * 8 ≤ gNS G := by
    unfold gNS
    rw [Nat.mul_assoc, Nat.mul_comm (2 ^ hD (gH G)) 8]
    exact Nat.mul_le_mul_right _ (by omega)
  omega
theorem a_25 {v fg fs fq : Nat → Int32} (q : SAt h sb as aq sl v fg fs fq) (h4 : gm G ≤ 4) (v1 : v 1 = nI (gm G)) (hg : ∀ j, j < gm G → fg j = nI (gg G j)) (h32 : ∀ j, j < gm G → gg G j < 32) {u1 u4 y : Int32} : ∀ (c k t : Nat), c < k → gm G < t + c → t < 2 ^ 31 - 10 → f_X3_arrive_L25 h sb u1 u4 y k (nI t) = some (nI (gadv (Qm (gg G) y) (gm G) c t))
  | 0, 0, _, hk, _, _ => absurd hk (Nat.lt_irrefl _)
  | 0, k + 1, t, _, hc, ht => by
    rw [f_X3_arrive_L25, q.gI (k := 1) (Or.inl rfl), Option.bind_some, v1, if_pos (nI_le (by omega) (by omega))]
    rfl
  | c + 1, 0, _, hk, _, _ => absurd hk (Nat.not_lt_zero _)
  | c + 1, k + 1, t, hk, hc, ht => by
    rw [f_X3_arrive_L25, q.gI (k := 1) (Or.inl rfl), Option.bind_some, v1]
    show _ = some (nI (if t < gm G ∧ Qm (gg G) y t = true then _ else t))
    by_cases hl : t < gm G
    · rw [if_neg (nI_ge hl (by omega)), q.gl, Option.bind_some, q.2.2.2.2.2.1.ld (by omega) (by decide), Option.bind_some, hg t hl]
      cases e : bt y (gg G t)
      · rw [if_pos ((b_has _ (h32 t hl)).mpr e), if_neg (fun z => by have : bt y (gg G t) = true := z.2; rw [e] at this; cases this)]
      · rw [if_neg (fun z => by rw [(b_has _ (h32 t hl)).mp z] at e; cases e), if_pos ⟨hl, e⟩, Option.bind_some, nI_1, a_25 q h4 v1 hg h32 c k (t + 1) (by omega) (by omega) (by omega)]
    · rw [if_pos (nI_le (by omega) (by omega)), if_neg (fun z => hl z.1)]
/-- arriving -/
theorem x_arrive (c : CX G sb ap as aq sl len st B w fA) (s : SHp h G sb ap as aq sl len st B w fA E Q) (q : QP G E L Q) {f t tp x r : Nat} (hs : SrcR G L f t x r) (hf : f < 512) (hx : x < 2 ^ hD (gH G)) (hr : r < 8) (ht : t ≤ gm G) (htp : tp ≤ gm G) (ea : dnQ G x r tp = dnQ G x r t) (hn : 2000 ≤ n) :
    ∃ h' Q', f_X3_arrive n h sb (nI x) (nI r) (nI tp) (nI f) = some h' ∧ SHp h' G sb ap as aq sl len st B w fA E Q' ∧ QP G E L Q' ∧ QLe E Q Q' ∧ Arr G Q' L f x r t ∧ FrX sb ap as aq h h' := by
  obtain ⟨ok, lay, w11, hst, hle, hlen, sp, hns, hsl, hB, h32⟩ := id c
  obtain ⟨v, fg, fs, fq, fp, s1, s2, s3, s4, s5, s6, s7, s8, s9, s10, s11, s12, s13, s14⟩ := s
  obtain ⟨sp1, sp2, sp3, sp4, sp5, sp6⟩ := id sp
  have h9 := ok.2.1
  have h4 := ok.2.2.2.1
  have hnl := gNS_le ok
  have w6 : w 6 = nI (hD (gH G)) := lay.1
  have spP : sepP (sb + 2) ap := by unfold sepP; omega
  obtain ⟨h1, fp', e1, p1, pc1, f1⟩ := p_part (n := n) s1 ok.1 h9 w6 w11 hst lay.2.2.2.2.2.1 s2 hlen hle spP hx hr (by omega)
  have a1 : SAt h1 sb as aq sl v fg fs fq := s3.fr f1 (fun k z => z) (fun z => by omega) (fun z => sp2 z) (fun z => sp3 z)
  obtain ⟨h5, e5, a5, f5⟩ := a1.put (k := 10) (Or.inr ⟨by decide, by decide⟩) (qrs Q ||| prt G x r)
  have p5 : PAt h5 (sb + 2) ap len w fA fp' := p1.fr f5 (fun k z => by omega) (fun _ _ _ z => z) (fun z => z)
  have FX15 : FrX sb ap as aq h h5 := Fr.trans (Fr.mono f1 (fun _ _ z => z.elim) (fun _ z => Or.inr (Or.inl z))) (Fr.mono f5 (fun _ _ z => Or.inl z) (fun _ z => z.elim))
  have v15 : upd v 10 (qrs Q ||| prt G x r) 1 = nI (gm G) := by rw [pk_un (by decide), s5]
  have e25 : f_X3_arrive_L25 h5 sb (nI x) (nI f) (prt G x r) n (nI tp) = some (nI (dnQ G x r t)) := by
    rw [← ea]
    exact a_25 a5 h4 v15 s4 h32 5 n tp (by omega) (by omega) (by omega)
  have dle : dnQ G x r t ≤ gm G := adv_le ht
  obtain ⟨U, u1, u2, u3, u4, u5, u6⟩ := prt_spec (x := x) ok hr
  have gdo : x_gI h5 (sb + 2) 2 6 = some (nI (hD (gH G))) := by rw [p5.gI (k := 6) (by decide) (by decide), w6]
  have ex : ((i_shl (nI (dnQ G x r t)) (nI (hD (gH G))) + nI x) * 8) + nI (rep (prt G x r)) = nI (senc G (dnQ G x r t) x (rep (prt G x r))) := by
    rw [shlD _ h9 _ (by omega)]
    show (nI _ + nI x) * nI 8 + nI _ = _
    rw [nI_add, pk_mul, nI_add]
    rfl
  have start : f_X3_arrive n h sb (nI x) (nI r) (nI tp) (nI f) = if nI (dnQ G x r t) = nI (gm G) then (x_put h5 sb 3 8 (.int (1 : Int32))).bind fun h14 => (x_gI h14 sb 3 9).bind fun x15 => (x_put h14 sb 3 9 (.int (x15 ||| nI f))).bind fun h16 => some h16 else if nI (senc G (dnQ G x r t) x (rep (prt G x r))) < 0 then some h5 else if nI (senc G (dnQ G x r t) x (rep (prt G x r))) < nI sl then (x_ld h5 as (nI (senc G (dnQ G x r t) x (rep (prt G x r))))).bind fun x24 => if 0 ≤ x24 - nI B then f_X3_arrive_J197 n h5 sb (nI f) (x24 - nI B) else if nI sl ≤ nI (qT Q) then f_X3_arrive_J197 n h5 sb (nI f) (x24 - nI B) else (x_st h5 as (nI (senc G (dnQ G x r t) x (rep (prt G x r)))) (nI B + nI (qT Q))).bind fun h40 => (x_gR h40 sb 3 4).bind fun a41 => (x_gI h40 sb 3 6).bind fun x42 => (x_st h40 a41 x42 (i_shl (nI f) 14 ||| nI (senc G (dnQ G x r t) x (rep (prt G x r))))).bind fun h43 => (x_gI h43 sb 3 6).bind fun x44 => (x_put h43 sb 3 6 (.int (x44 + 1))).bind fun h45 => some h45 else some h5 := by
    have g5 : x_gI h5 sb 3 5 = some (nI B) := by rw [a5.gI (k := 5) (Or.inr ⟨by decide, by decide⟩), pk_un (by decide), s6]
    have g6 : x_gI h5 sb 3 6 = some (nI (qT Q)) := by rw [a5.gI (k := 6) (Or.inr ⟨by decide, by decide⟩), pk_un (by decide), s7]
    have g10 : x_gI h1 sb 3 10 = some (qrs Q) := by rw [a1.gI (k := 10) (Or.inr ⟨by decide, by decide⟩), s11]
    unfold f_X3_arrive
    rw [s3.pl, Option.bind_some, s1.ob, Option.bind_some, e1, Option.bind_some, g10, Option.bind_some, e5, Option.bind_some, e25, Option.bind_some, a5.gI (k := 1) (Or.inl rfl), Option.bind_some, v15, a5.pl, Option.bind_some, gdo, Option.bind_some, u6, Option.bind_some, Option.bind_some, ex, a5.sn]
    simp only [Option.bind_some, x_len_n a5.2.2.2.2.2.2.1, g5, g6, a5.qu, x_len_n a5.2.2.2.2.2.2.2]
  rw [start]
  by_cases hd : dnQ G x r t = gm G
  · -- all goals are met
    rw [if_pos (by rw [hd])]
    obtain ⟨h14, e14, a14, f14⟩ := a5.put (k := 8) (Or.inr ⟨by decide, by decide⟩) 1
    obtain ⟨h16, e16, a16, f16⟩ := a14.put (k := 9) (Or.inr ⟨by decide, by decide⟩) (nI (qff Q ||| f))
    have g9 : x_gI h14 sb 3 9 = some (nI (qff Q)) := by rw [a14.gI (k := 9) (Or.inr ⟨by decide, by decide⟩), pk_un (by decide), pk_un (by decide), s10]
    obtain ⟨z1, z2, z3⟩ := q_fnd ok q hs hf hr ht hd
    have hff := q.2.2.2.2.1
    refine ⟨h16, qFnd Q L f (prt G x r), ?_, ⟨_, fg, fs, fq, fp', (p5.fr f14 (fun k z => by omega) (fun _ _ _ z => z) (fun z => z)).fr f16 (fun k z => by omega) (fun _ _ _ z => z) (fun z => z), pc1, a16, s4, ?_, ?_, ?_, ?_, ?_, ?_, ?_, s12, s13, s14⟩, z1, z2, z3, FX15.trans (Fr.trans (Fr.mono f14 (fun _ _ z => Or.inl z) (fun _ z => z.elim)) (Fr.mono f16 (fun _ _ z => Or.inl z) (fun _ z => z.elim)))⟩
    · rw [e14, Option.bind_some, g9, Option.bind_some, or_nI (by omega) (by omega), e16, Option.bind_some]
    · rw [pk_un (by decide), pk_un (by decide), v15]
    · rw [pk_un (by decide), pk_un (by decide), pk_un (by decide), s6]
    · rw [pk_un (by decide), pk_un (by decide), pk_un (by decide), s7]; rfl
    · rw [pk_un (by decide), pk_un (by decide), pk_un (by decide), s8]
    · rw [pk_un (by decide), pk_us]; rfl
    · rw [pk_us]; rfl
    · rw [pk_un (by decide), pk_un (by decide), pk_us]; rfl
  · have hdl : dnQ G x r t < gm G := by omega
    have hsn : senc G (dnQ G x r t) x (rep (prt G x r)) < gNS G := senc_lt ok hdl hx u4
    obtain ⟨S, eS⟩ : ∃ S, S = senc G (dnQ G x r t) x (rep (prt G x r)) := ⟨_, rfl⟩
    rw [← eS] at hsn
    rw [← eS, if_neg (fun z => hd ((nI_eq (by omega) (by omega)).mp z)), if_neg (nI_pos (by omega)), if_pos (nI_lt (by omega) (by omega))]
    obtain ⟨a, ha, hal⟩ := s13 S (by omega)
    rw [a5.2.2.2.2.2.2.1.ld (show S < sl by omega) (by omega), Option.bind_some, ha]
    rcases hal with hlt | ⟨i, hi, rfl, ei⟩
    · -- a new state
      have neg : nI a - nI B < 0 := pk_sneg (by omega) hlt
      have nge : ¬ (0 : Int32) ≤ nI a - nI B := fun z => by
        have := Int32.not_le.mpr neg
        exact this z
      have hnew : ∀ i, i < qT Q → qS Q i ≠ S := by
        intro i hi e
        obtain ⟨-, -, e3⟩ := s12 i hi
        rw [e, ha] at e3
        have := (nI_eq (a := a) (b := B + i) (by omega) (by omega)).mp e3
        omega
      have hinj : ∀ i j, i < qT Q → j < qT Q → qS Q i = qS Q j → i = j := by
        intro i j hi hj e
        have x1 := (s12 i hi).2.2
        rw [e, (s12 j hj).2.2] at x1
        have := (nI_eq (a := B + j) (b := B + i) (by omega) (by omega)).mp x1
        omega
      have hT : qT Q + 1 ≤ gNS G := by
        refine pig _ _ (uN (qS Q) (qT Q) S) (fun i hi => ?_) (fun i j hi hj e => ?_)
        · unfold uN
          by_cases ei : i = qT Q
          · rw [if_pos ei]; exact hsn
          · rw [if_neg ei]; exact (s12 i (by omega)).2.1
        · unfold uN at e
          by_cases ei : i = qT Q
          · by_cases ej : j = qT Q
            · omega
            · rw [if_pos ei, if_neg ej] at e
              exact absurd e.symm (hnew j (by omega))
          · by_cases ej : j = qT Q
            · rw [if_neg ei, if_pos ej] at e
              exact absurd e (hnew i (by omega))
            · rw [if_neg ei, if_neg ej] at e
              exact hinj i j (by omega) (by omega) e
      rw [if_neg nge, if_neg (nI_ge (by omega) (by omega)), nI_add]
      obtain ⟨h40, e40, a40, f40⟩ := a5.stS sp hsl (show S < sl by omega) (nI (B + qT Q))
      obtain ⟨h43, e43, a43, f43⟩ := a40.stQ sp hsl (show qT Q < sl by omega) (nI (f * 16384 + S))
      obtain ⟨h45, e45, a45, f45⟩ := a43.put (k := 6) (Or.inr ⟨by decide, by decide⟩) (nI (qT Q + 1))
      have g6a : x_gI h40 sb 3 6 = some (nI (qT Q)) := by rw [a40.gI (k := 6) (Or.inr ⟨by decide, by decide⟩), pk_un (by decide), s7]
      have g6b : x_gI h43 sb 3 6 = some (nI (qT Q)) := by rw [a43.gI (k := 6) (Or.inr ⟨by decide, by decide⟩), pk_un (by decide), s7]
      obtain ⟨z1, z2, z3⟩ := q_new ok q hs hf hx hr ht hdl
      rw [← eS] at z1 z2 z3
      have p40 : PAt h40 (sb + 2) ap len w fA fp' := p5.fr f40 (fun k z => z) (fun a _ _ z => by omega) (fun z => sp2 z.symm)
      have p43 : PAt h43 (sb + 2) ap len w fA fp' := p40.fr f43 (fun k z => z) (fun a _ _ z => by omega) (fun z => sp3 z.symm)
      have p45 : PAt h45 (sb + 2) ap len w fA fp' := p43.fr f45 (fun k z => by omega) (fun _ _ _ z => z) (fun z => z)
      refine ⟨h45, qNew Q L f S (prt G x r), ?_, ⟨_, fg, upd fs S (nI (B + qT Q)), upd fq (qT Q) (nI (f * 16384 + S)), fp', p45, pc1, a45, s4, ?_, ?_, ?_, ?_, ?_, ?_, ?_, ?_, ?_, ?_⟩, z1, z2, z3, FX15.trans (Fr.trans (Fr.mono f40 (fun _ _ z => z.elim) (fun _ z => Or.inr (Or.inr (Or.inl z)))) (Fr.trans (Fr.mono f43 (fun _ _ z => z.elim) (fun _ z => Or.inr (Or.inr (Or.inr z)))) (Fr.mono f45 (fun _ _ z => Or.inl z) (fun _ z => z.elim))))⟩
      · rw [e40, Option.bind_some, a40.qu, Option.bind_some, g6a, Option.bind_some, shl14 f hf, or_14 hf (by omega), e43, Option.bind_some, g6b, Option.bind_some, nI_1, e45, Option.bind_some]
      · rw [pk_un (by decide), v15]
      · rw [pk_un (by decide), pk_un (by decide), s6]
      · rw [pk_us]; rfl
      · rw [pk_un (by decide), pk_un (by decide), s8]
      · rw [pk_un (by decide), pk_un (by decide), s9]; rfl
      · rw [pk_un (by decide), pk_un (by decide), s10]; rfl
      · rw [pk_un (by decide), pk_us]; rfl
      · intro i hi
        show upd fq (qT Q) (nI (f * 16384 + S)) i = nI (uN (qF Q) (qT Q) f i * 16384 + uN (qS Q) (qT Q) S i) ∧ uN (qS Q) (qT Q) S i < gNS G ∧ upd fs S (nI (B + qT Q)) (uN (qS Q) (qT Q) S i) = nI (B + i)
        unfold uN
        by_cases ei : i = qT Q
        · rw [if_pos ei, if_pos ei, ei, pk_us, pk_us]
          exact ⟨rfl, hsn, rfl⟩
        · have hi' : i < qT Q := by have : i < qT Q + 1 := hi; omega
          rw [if_neg ei, if_neg ei, pk_un ei, pk_un (hnew i hi')]
          exact s12 i hi'
      · intro s hs'
        by_cases es : s = S
        · exact ⟨B + qT Q, by rw [es, pk_us], Or.inr ⟨qT Q, Nat.lt_succ_self _, rfl, by show uN (qS Q) (qT Q) S (qT Q) = s; unfold uN; rw [if_pos rfl, es]⟩⟩
        · obtain ⟨b, b1, b2⟩ := s13 s hs'
          refine ⟨b, by rw [pk_un es]; exact b1, ?_⟩
          rcases b2 with b2 | ⟨i, i1, i2, i3⟩
          · exact Or.inl b2
          · exact Or.inr ⟨i, Nat.lt_succ_of_lt i1, i2, by show uN (qS Q) (qT Q) S i = s; unfold uN; rw [if_neg (by omega)]; exact i3⟩
      · exact hT
    · -- a state that is there
      obtain ⟨x1, x2, x3⟩ := s12 i hi
      have en := (q.2.1 i hi).1
      have eIi : nI (B + i) - nI B = nI i := by rw [pk_sub (by omega), show B + i - B = i by omega]
      have g7 : x_gI h5 sb 3 7 = some (nI E) := by rw [a5.gI (k := 7) (Or.inr ⟨by decide, by decide⟩), pk_un (by decide), s8]
      have g6 : x_gI h5 sb 3 6 = some (nI (qT Q)) := by rw [a5.gI (k := 6) (Or.inr ⟨by decide, by decide⟩), pk_un (by decide), s7]
      have hET := q.1
      rw [eIi, if_pos (nI_pos' (by omega))]
      unfold f_X3_arrive_J197
      rw [g7, Option.bind_some]
      by_cases hE : i < E
      · rw [if_pos (nI_lt hE (by omega))]
        obtain ⟨z1, z2, z3⟩ := q_non ok q hs hf hr ht hdl hi hE (by rw [← eS]; exact ei)
        refine ⟨h5, qNon Q (prt G x r), rfl, ⟨_, fg, fs, fq, fp', p5, pc1, a5, s4, v15, ?_, ?_, ?_, ?_, ?_, ?_, s12, s13, s14⟩, z1, z2, z3, FX15⟩
        · rw [pk_un (by decide), s6]
        · rw [pk_un (by decide), s7]; rfl
        · rw [pk_un (by decide), s8]
        · rw [pk_un (by decide), s9]; rfl
        · rw [pk_un (by decide), s10]; rfl
        · rw [pk_us]; rfl
      · rw [if_neg (nI_nlt (by omega) (by omega)), g6, Option.bind_some, if_neg (nI_ge hi (by omega)), a5.qu, Option.bind_some, a5.2.2.2.2.2.2.2.ld (show i < sl by omega) (by omega), Option.bind_some, x1, shl14 f hf, or_14o en.2.2.2.1 hf (by omega)]
        obtain ⟨h31, e31, a31, f31⟩ := a5.stQ sp hsl (show i < sl by omega) (nI ((qF Q i ||| f) * 16384 + qS Q i))
        obtain ⟨z1, z2, z3⟩ := q_old ok q hs hf hx hr ht hdl hi (by omega) (by rw [← eS]; exact ei)
        have p31 : PAt h31 (sb + 2) ap len w fA fp' := p5.fr f31 (fun k z => z) (fun a _ _ z => by omega) (fun z => sp3 z.symm)
        refine ⟨h31, qOld Q i f (prt G x r), by rw [e31, Option.bind_some], ⟨_, fg, fs, upd fq i (nI ((qF Q i ||| f) * 16384 + qS Q i)), fp', p31, pc1, a31, s4, v15, ?_, ?_, ?_, ?_, ?_, ?_, ?_, s13, s14⟩, z1, z2, z3, FX15.trans (Fr.mono f31 (fun _ _ z => z.elim) (fun _ z => Or.inr (Or.inr (Or.inr z))))⟩
        · rw [pk_un (by decide), s6]
        · rw [pk_un (by decide), s7]; rfl
        · rw [pk_un (by decide), s8]
        · rw [pk_un (by decide), s9]; rfl
        · rw [pk_un (by decide), s10]; rfl
        · rw [pk_us]; rfl
        · intro j hj
          show upd fq i _ j = nI (uN (qF Q) i (qF Q i ||| f) j * 16384 + qS Q j) ∧ _
          unfold uN
          by_cases ej : j = i
          · rw [if_pos ej, ej, pk_us]
            exact ⟨rfl, (s12 i hi).2⟩
          · rw [if_neg ej, pk_un ej]
            exact s12 j hj
end SR
