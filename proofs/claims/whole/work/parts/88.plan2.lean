/-! The class's Plan: its sets, its parts; lay as a whole. -/
theorem bc512 : ∀ x, x < 512 → f_J6_bitCount_0f7a4 (nI x) = some (nI (smB (fun k => if x.testBit k then 1 else 0) 9)) := by decide +kernel
theorem bc9 {y : Int32} (hy : ∀ k, 9 ≤ k → k < 32 → bt y k = false) : f_J6_bitCount_0f7a4 y = some (nI (smB (fun k => if bt y k then 1 else 0) 9)) := by
  have hl : y.toBitVec.toNat < 512 := tn_lt (D := 9) (by decide) hy
  have := bc512 _ hl
  rw [nI_tn] at this
  rw [this]
  congr 2
theorem smB_cut {f : Nat → Nat} {D : Nat} : ∀ n, D ≤ n → (∀ j, D ≤ j → j < n → f j = 0) → smB f n = smB f D
  | 0, h, _ => by rw [show D = 0 by omega]
  | n + 1, h, hz => by
    by_cases e : D = n + 1
    · rw [e]
    · show smB f n + f n = _
      rw [smB_cut n (by omega) (fun j h1 h2 => hz j h1 (by omega)), hz n (by omega) (by omega)]
      rfl
theorem gSg_bt {H : HS} (h9 : hD H ≤ 14) {k : Nat} (hk : k < 32) : bt (gSg H) k = (decide (k < hD H) && sgD H k) := mkB_bt _ (by omega) k hk
theorem gDb_bt {H : HS} (h9 : hD H ≤ 14) {k : Nat} (hk : k < 32) : bt (gDb H) k = (decide (k < hD H) && dbD H k) := mkB_bt _ (by omega) k hk
theorem gUs_bt {H : HS} (h9 : hD H ≤ 14) {k : Nat} (hk : k < 32) : bt (gUs H) k = (decide (k < hD H) && (sgD H k || dbD H k)) := by
  unfold gUs
  rw [b_or, gSg_bt h9 hk, gDb_bt h9 hk]
  cases decide (k < hD H) <;> rfl
/-- a set of doors that can be of use -/
def usS (H : HS) (s : Int32) : Prop := ∀ k, bt s k = true → bt (gUs H) k = true
theorem usS_iff {H : HS} {s : Int32} : s &&& (gUs H ^^^ (-1)) = 0 ↔ usS H s := by
  rw [sub_iff]
  exact ⟨fun h k hk => h k (bt32 hk) hk, fun h k _ hk => h k hk⟩
theorem us_wt {H : HS} (h14 : hD H ≤ 14) {s : Int32} (hs : usS H s) {k : Nat} (hk : bt s k = true) : k < hD H ∧ ((wtN (hK H k) = 1 ∧ ¬ hK H k = 2) ∨ hK H k = 2) := by
  have h1 := hs k hk
  rw [gUs_bt h14 (bt32 hk)] at h1
  simp only [Bool.and_eq_true, Bool.or_eq_true, decide_eq_true_eq] at h1
  refine ⟨h1.1, ?_⟩
  by_cases h2 : hK H k = 2
  · exact Or.inr h2
  · rcases h1.2 with h | h
    · exact Or.inl ⟨of_decide_eq_true h, h2⟩
    · exact absurd (of_decide_eq_true h) h2
section PL
variable {h h' : xH} {b ap len hb p n : Nat} {w : Nat → Int32} {fA : Nat → Nat → Int32} {fp : Nat → Int32} {H : HS}
theorem p_weigh (q : PAt h b ap len w fA fp) (ok : HOk H) (h9 : hD H ≤ 9) (w8 : w 8 = gSg H) (w9 : w 9 = gDb H) {s : Int32} (hs : usS H s) : f_X2_weigh h b s = some (nI (sW H s)) := by
  have b8 : ∀ k, 9 ≤ k → k < 32 → bt (s &&& gSg H) k = false := fun k h1 h2 => by rw [b_and, gSg_bt ok.1 h2, decide_eq_false (by omega)]; simp
  have b9 : ∀ k, 9 ≤ k → k < 32 → bt (s &&& gDb H) k = false := fun k h1 h2 => by rw [b_and, gDb_bt ok.1 h2, decide_eq_false (by omega)]; simp
  unfold f_X2_weigh
  rw [q.gI (k := 8) (by decide) (by decide), Option.bind_some, w8, bc9 b8, Option.bind_some, q.gI (k := 9) (by decide) (by decide), Option.bind_some, w9, bc9 b9, Option.bind_some, nI_2m, nI_add]
  congr 2
  unfold sW
  rw [sumN_0, smB_cut (D := hD H) 9 h9 (fun j h1 h2 => by rw [b_and, gSg_bt ok.1 (by omega), decide_eq_false (by omega)]; simp), smB_cut (D := hD H) (f := fun k => if bt (s &&& gDb H) k then 1 else 0) 9 h9 (fun j h1 h2 => by rw [b_and, gDb_bt ok.1 (by omega), decide_eq_false (by omega)]; simp)]
  have : ∀ i, i ≤ hD H → smB (fun k => if bt (s &&& gSg H) k then 1 else 0) i + 2 * smB (fun k => if bt (s &&& gDb H) k then 1 else 0) i = smB (sWt H s) i := by
    intro i
    induction i with
    | zero => intro _; rfl
    | succ i ih =>
      intro hi
      show smB _ i + (if bt (s &&& gSg H) i then 1 else 0) + 2 * (smB _ i + (if bt (s &&& gDb H) i then 1 else 0)) = smB (sWt H s) i + sWt H s i
      rw [← ih (by omega)]
      have : (if bt (s &&& gSg H) i = true then 1 else 0) + 2 * (if bt (s &&& gDb H) i = true then 1 else 0) = sWt H s i := by
        unfold sWt
        rw [b_and, b_and, gSg_bt ok.1 (by have := ok.1; omega), gDb_bt ok.1 (by have := ok.1; omega), decide_eq_true (show i < hD H by omega)]
        cases e : bt s i
        · simp
        · have := us_wt ok.1 hs e
          unfold sgD dbD
          rcases this.2 with ⟨x1, x2⟩ | x
          · simp [x1, x2]
          · simp [x, wtN_2]
      omega
  exact this _ (Nat.le_refl _)
/-- the class's own test of a set -/
theorem p_en (ok : HOk H) {s : Int32} (hs : usS H s) (hne : ∃ k, bt s k = true) {lt : Nat} (hlt : lt = if s &&& gSg H = 0 then 2 else 1) : lt ≤ sW H s ∧ (sEn H s = true ↔ hLn H ≤ sW H s ∧ sW H s - lt < hLn H) := by
  have h14 := ok.1
  have wt_le : ∀ k, bt s k = true → wtN (hK H k) ≤ sW H s := by
    intro k hk
    have hu := us_wt h14 hs hk
    unfold sW
    have := sumN_ge (f := sWt H s) (hD H) 0 k (Nat.zero_le _) (by omega)
    have e : sWt H s k = wtN (hK H k) := by unfold sWt; rw [hk]; rfl
    rw [e] at this
    exact this
  have lt_le : ∀ k, bt s k = true → lt ≤ wtN (hK H k) := by
    intro k hk
    have hu := us_wt h14 hs hk
    rcases hu.2 with ⟨x1, x2⟩ | x
    · by_cases c : s &&& gSg H = 0
      · exfalso
        apply (and_ne0.mpr ⟨k, bt32 hk, hk, ?_⟩) c
        rw [gSg_bt h14 (bt32 hk), decide_eq_true hu.1]
        exact decide_eq_true x1
      · rw [hlt, if_neg c]; omega
    · rw [x, wtN_2, hlt]; split <;> omega
  have ex : ∃ k, bt s k = true ∧ wtN (hK H k) = lt := by
    by_cases c : s &&& gSg H = 0
    · obtain ⟨k, hk⟩ := hne
      refine ⟨k, hk, ?_⟩
      have l1 := lt_le k hk
      have l2 := wtN_le (hK H k)
      rw [hlt, if_pos c] at l1 ⊢
      omega
    · obtain ⟨k, h1, h2, h3⟩ := and_ne0.mp c
      rw [gSg_bt h14 h1] at h3
      simp only [Bool.and_eq_true] at h3
      refine ⟨k, h2, ?_⟩
      rw [hlt, if_neg c]
      exact of_decide_eq_true h3.2
  obtain ⟨k0, k1, k2⟩ := ex
  have l0 := wt_le k0 k1
  refine ⟨by omega, ?_⟩
  unfold sEn
  rw [Bool.and_eq_true, decide_eq_true_eq, anyN_0, Bool.not_eq_true']
  constructor
  · rintro ⟨a1, a2⟩
    refine ⟨a1, ?_⟩
    apply Classical.byContradiction
    intro hn
    have : anB (fun d => bt s d && decide (hLn H ≤ sW H s - wtN (hK H d))) (hD H) = true := (anB_iff _).mpr ⟨k0, (us_wt h14 hs k1).1, by rw [k1, k2, decide_eq_true (by omega)]; rfl⟩
    rw [this] at a2
    cases a2
  · rintro ⟨a1, a2⟩
    refine ⟨a1, ?_⟩
    rw [Bool.eq_false_iff]
    intro z
    obtain ⟨j, hj, hz⟩ := (anB_iff _).mp z
    simp only [Bool.and_eq_true, decide_eq_true_eq] at hz
    have := lt_le j hz.1
    omega
end PL
/-- the next lower set within u -/
theorem sub_next : ∀ (v u s : Nat), v &&& u = v → s &&& u = s → 0 < v → s < v → s ≤ (v - 1) &&& u := by
  intro v
  induction v using Nat.strongRecOn with
  | _ v ih =>
    intro u s hv hs h0 hl
    have half : ∀ a : Nat, a = 2 * (a / 2) + a % 2 := fun a => by omega
    have dv := congrArg (· / 2) hv
    have ds := congrArg (· / 2) hs
    have mv := congrArg (· % 2) hv
    have ms := congrArg (· % 2) hs
    simp only [Nat.and_div_two] at dv ds
    have am : ∀ a c : Nat, (a &&& c) % 2 = (a % 2) * (c % 2) := by
      intro a c
      have e := Nat.and_mod_two_pow (a := a) (b := c) (n := 1)
      simp only [Nat.pow_one] at e
      rw [e]
      have h1 : a % 2 = 0 ∨ a % 2 = 1 := by omega
      have h2 : c % 2 = 0 ∨ c % 2 = 1 := by omega
      rcases h1 with h1 | h1 <;> rcases h2 with h2 | h2 <;> rw [h1, h2] <;> rfl
    simp only [am] at mv ms
    have ea := half ((v - 1) &&& u)
    rw [Nat.and_div_two, am] at ea
    by_cases hodd : v % 2 = 1
    · have e1 : (v - 1) / 2 = v / 2 := by omega
      have e2 : (v - 1) % 2 = 0 := by omega
      rw [e1, e2, dv] at ea
      omega
    · have e1 : (v - 1) / 2 = v / 2 - 1 := by omega
      have e2 : (v - 1) % 2 = 1 := by omega
      rw [e1, e2, Nat.one_mul] at ea
      have hv2 : 0 < v / 2 := by omega
      have := ih (v / 2) (by omega) (u / 2) (s / 2) dv ds hv2 (by omega)
      have hsm : s % 2 ≤ u % 2 := by
        have h1 : s % 2 = 0 ∨ s % 2 = 1 := by omega
        rcases h1 with h1 | h1
        · omega
        · rw [h1, Nat.one_mul] at ms; omega
      omega
theorem and_nI {a c : Nat} (ha : a < 2 ^ 31) (hc : c < 2 ^ 31) : nI a &&& nI c = nI (a &&& c) := by
  apply b_ext
  intro i hi
  rw [b_and, bt_nI ha hi, bt_nI hc hi, bt_nI (Nat.lt_of_le_of_lt Nat.and_le_left ha) hi, Nat.testBit_and]
theorem in_and {a c : Nat} (ha : a < 2 ^ 31) (hc : c < 2 ^ 31) : (∀ k, bt (nI a) k = true → bt (nI c) k = true) ↔ a &&& c = a := by
  constructor
  · intro hh
    have : nI (a &&& c) = nI a := by
      rw [← and_nI ha hc]
      apply b_ext
      intro i hi
      rw [b_and]
      cases e : bt (nI a) i
      · rfl
      · rw [hh i e]; rfl
    exact (nI_eq (Nat.lt_of_le_of_lt Nat.and_le_left ha) ha).mp this
  · intro hh k hk
    have := hk
    rw [← hh, ← and_nI ha hc, b_and] at this
    simp only [Bool.and_eq_true] at this
    exact this.2
section PL
variable {h h' : xH} {b ap len hb p n : Nat} {w : Nat → Int32} {fA : Nat → Nat → Int32} {fp : Nat → Int32} {H : HS}
/-- the sets that are kept -/
def SetsOk (H : HS) (ec : Nat) (fs : Nat → Int32) : Prop := ec ≤ 126 ∧ (∀ i, i < ec → ∃ s, fs i = nI s ∧ s < 2 ^ hD H ∧ sEn H (nI s) = true ∧ usS H (nI s)) ∧ ∀ s, s < 2 ^ hD H → sEn H (nI s) = true → usS H (nI s) → ∃ i, i < ec ∧ fs i = nI s
theorem p_list (q : PAt h b ap len w fA fp) (ok : HOk H) (h9 : hD H ≤ 9) (w7 : w 7 = hL H) (w8 : w 8 = gSg H) (w9 : w 9 = gDb H) (sp : sepP b ap) (hn : 2000 ≤ n) : ∃ h' w' fA' ec, f_X2_listSets n h b = some h' ∧ PAt h' b ap len w' fA' fp ∧ w' 5 = nI ec ∧ SetsOk H ec (fA' 3) ∧ (∀ k, k ≠ 5 → w' k = w k) ∧ (∀ k, k ≠ 3 → fA' k = fA k) ∧ FrP b h h' := by
  have h14 := ok.1
  have p9 : 2 ^ hD H ≤ 512 := Nat.le_trans (Nat.pow_le_pow_right (by decide) h9) (by decide)
  obtain ⟨eL, L1, L4⟩ := HOk.L H ok
  have ul : (gUs H).toBitVec.toNat < 2 ^ hD H := tn_lt (by omega) (fun k h1 h2 => by rw [gUs_bt h14 h2, decide_eq_false (by omega)]; rfl)
  obtain ⟨u, eu⟩ : ∃ u, u = (gUs H).toBitVec.toNat := ⟨_, rfl⟩
  rw [← eu] at ul
  have eU : gUs H = nI u := by rw [eu, nI_tn]
  have us_and : ∀ s, s < 2 ^ hD H → (usS H (nI s) ↔ s &&& u = s) := fun s hs => by
    rw [← in_and (by omega) (by omega), ← eU]
    exact Iff.rfl
  obtain ⟨h1, e1, q1, f1⟩ := q.put (k := 5) (by decide) (by decide) 0
  have hc : smB (fun s => if wqM H (gUs H) s then 1 else 0) (2 ^ hD H) ≤ 126 := wqM_126 ok h9 _
  have wq_iff : ∀ s, wqM H (gUs H) s = true ↔ usS H (nI s) ∧ sEn H (nI s) = true := fun s => by
    unfold wqM
    rw [Bool.and_eq_true, decide_eq_true_eq, usS_iff]
  have mono : ∀ a c, a ≤ c → smB (fun s => if wqM H (gUs H) s then 1 else 0) a ≤ smB (fun s => if wqM H (gUs H) s then 1 else 0) c := by
    intro a c hac
    rw [show c = a + (c - a) by omega, smB_add]
    omega
  have := lpM (L := fun k (s : Int32 × xH) => f_X2_listSets_L17 b (nI u) k s.1 s.2)
    (I := fun c s => ∃ v w' fA' ec, s.1 = nI v ∧ c = v ∧ v < 2 ^ hD H ∧ v &&& u = v ∧ PAt s.2 b ap len w' fA' fp ∧ w' 5 = nI ec ∧ (∀ k, k ≠ 5 → w' k = w k) ∧ (∀ k, k ≠ 3 → fA' k = fA k) ∧ (∀ i, i < ec → ∃ s, fA' 3 i = nI s ∧ s < 2 ^ hD H ∧ sEn H (nI s) = true ∧ usS H (nI s)) ∧ (∀ s, s < 2 ^ hD H → v < s → sEn H (nI s) = true → usS H (nI s) → ∃ i, i < ec ∧ fA' 3 i = nI s) ∧ ec + smB (fun s => if wqM H (gUs H) s then 1 else 0) (v + 1) ≤ 126 ∧ FrP b h s.2)
    (R := fun s => ∃ w' fA' ec, PAt s b ap len w' fA' fp ∧ w' 5 = nI ec ∧ SetsOk H ec (fA' 3) ∧ (∀ k, k ≠ 5 → w' k = w k) ∧ (∀ k, k ≠ 3 → fA' k = fA k) ∧ FrP b h s)
    (fun k c s hs => by
      obtain ⟨v, w', fA', ec, c1, c2, c3, c4, c5, c6, c7, c8, c9, c10, c11, c12⟩ := hs
      by_cases hv : v = 0
      · left
        refine ⟨s.2, ?_, w', fA', ec, c5, c6, ⟨by omega, c9, fun s hs en us => ?_⟩, c7, c8, c12⟩
        · show f_X2_listSets_L17 b (nI u) (k + 1) s.1 s.2 = _
          rw [f_X2_listSets_L17, c1, hv, if_pos (show nI 0 ≤ 0 by decide)]
        · by_cases e0 : s = 0
          · rw [e0, show nI 0 = 0 from rfl, sEn_0 ok] at en; cases en
          · exact c10 s hs (by omega) en us
      · right
        have hus : usS H (nI v) := (us_and v c3).mpr c4
        obtain ⟨lt, hlt⟩ : ∃ lt, lt = if nI v &&& gSg H = 0 then 2 else 1 := ⟨_, rfl⟩
        have hne : ∃ k, bt (nI v) k = true := by
          apply Classical.byContradiction
          intro hno
          apply hv
          have : nI v = nI 0 := b_ext (fun i hi => by
            rw [show nI 0 = 0 from rfl, b_0]
            cases e : bt (nI v) i
            · rfl
            · exact absurd ⟨i, e⟩ hno)
          exact (nI_eq (by omega) (by decide)).mp this
        have pe := p_en ok hus hne hlt
        have hW := sW_le H ok (nI v)
        have nx : (nI v - 1) &&& nI u = nI ((v - 1) &&& u) := by
          rw [show nI v - 1 = nI (v - 1) from pk_sub (b := 1) (by omega), and_nI (by omega) (by omega)]
        have nl : (v - 1) &&& u ≤ v - 1 := Nat.and_le_left
        have nin : ((v - 1) &&& u) &&& u = (v - 1) &&& u := by rw [Nat.and_assoc, Nat.and_self]
        have g7 : x_gI s.2 b 2 7 = some (nI (hLn H)) := by rw [c5.gI (k := 7) (by decide) (by decide), c7 7 (by decide), w7, eL]
        have g8 : x_gI s.2 b 2 8 = some (gSg H) := by rw [c5.gI (k := 8) (by decide) (by decide), c7 8 (by decide), w8]
        have g5 : x_gI s.2 b 2 5 = some (nI ec) := by rw [c5.gI (k := 5) (by decide) (by decide), c6]
        have gW : f_X2_weigh s.2 b (nI v) = some (nI (sW H (nI v))) := p_weigh c5 ok h9 (by rw [c7 8 (by decide), w8]) (by rw [c7 9 (by decide), w9]) hus
        have hltI : (if nI v &&& gSg H = 0 then some (2 : Int32) else some 1) = some (nI lt) := by rw [hlt]; split <;> rfl
        have st : f_X2_listSets_L17 b (nI u) (k + 1) s.1 s.2 = (if nI (sW H (nI v)) < nI (hLn H) then some s.2 else if nI (hLn H) ≤ nI (sW H (nI v) - lt) then some s.2 else if (126 : Int32) ≤ nI ec then some s.2 else (x_st s.2 (b + 1 + 3) (nI ec) (nI v)).bind fun h16 => (x_gI h16 b 2 5).bind fun x17 => (x_put h16 b 2 5 (.int (x17 + 1))).bind fun h18 => some h18).bind fun q11 => f_X2_listSets_L17 b (nI u) k (nI ((v - 1) &&& u)) q11 := by
          rw [f_X2_listSets_L17, c1, if_neg (nI_nle (by omega) (by omega)), c5.ob, Option.bind_some, gW, Option.bind_some, g8, Option.bind_some, hltI, Option.bind_some, g7]
          simp only [Option.bind_some, g5, c5.gR (k := 3) (by decide), nx]
          rw [pk_sub pe.1]
        by_cases en : sEn H (nI v) = true
        · obtain ⟨p1, p2⟩ := pe.2.mp en
          have hcnt : smB (fun s => if wqM H (gUs H) s then 1 else 0) (v + 1) = smB (fun s => if wqM H (gUs H) s then 1 else 0) v + 1 := by
            show smB _ v + (if wqM H (gUs H) v then 1 else 0) = _
            rw [if_pos ((wq_iff v).mpr ⟨hus, en⟩)]
          obtain ⟨h16, t1, t2, t3⟩ := c5.st sp (k := 3) (i := ec) (by decide) (show ec < 126 by omega) (nI v)
          obtain ⟨h18, u1, u2, u3⟩ := t2.put (k := 5) (by decide) (by decide) (nI (ec + 1))
          have g5' : x_gI h16 b 2 5 = some (nI ec) := by rw [t2.gI (k := 5) (by decide) (by decide), c6]
          refine ⟨(nI ((v - 1) &&& u), h18), (v - 1) &&& u, by omega, ?_, (v - 1) &&& u, _, _, ec + 1, rfl, rfl, by omega, nin, u2, pk_us, fun k hk => by rw [pk_un hk]; exact c7 k hk, fun k hk => ?_, fun i hi => ?_, fun s hs hl en' us' => ?_, ?_, c12.trans (t3.trans (FrP.put u3))⟩
          · show f_X2_listSets_L17 b (nI u) (k + 1) s.1 s.2 = _
            rw [st, if_neg (nI_nlt p1 (by omega)), if_neg (nI_ge p2 (by omega)), if_neg (show ¬ (126 : Int32) ≤ nI ec from nI_ge (b := 126) (by omega) (by decide)), t1, Option.bind_some, g5', Option.bind_some, nI_1, u1, Option.bind_some, Option.bind_some]
          · unfold uA; rw [if_neg hk]; exact c8 k hk
          · unfold uA
            rw [if_pos rfl]
            by_cases ei : i = ec
            · exact ⟨v, by rw [ei, pk_us], c3, en, hus⟩
            · rw [pk_un ei]; exact c9 i (by omega)
          · unfold uA
            rw [if_pos rfl]
            by_cases es : s = v
            · exact ⟨ec, by omega, by rw [pk_us, es]⟩
            · have : v < s := by
                apply Classical.byContradiction
                intro hnl
                have := sub_next v u s c4 ((us_and s hs).mp us') (by omega) (by omega)
                omega
              obtain ⟨i, i1, i2⟩ := c10 s hs this en' us'
              exact ⟨i, by omega, by rw [pk_un (by omega)]; exact i2⟩
          · have := mono (((v - 1) &&& u) + 1) v (by omega)
            omega
        · refine ⟨(nI ((v - 1) &&& u), s.2), (v - 1) &&& u, by omega, ?_, (v - 1) &&& u, w', fA', ec, rfl, rfl, by omega, nin, c5, c6, c7, c8, c9, fun s hs hl en' us' => ?_, ?_, c12⟩
          · show f_X2_listSets_L17 b (nI u) (k + 1) s.1 s.2 = _
            rw [st]
            by_cases p1 : hLn H ≤ sW H (nI v)
            · have p2 : ¬ sW H (nI v) - lt < hLn H := fun z => en (pe.2.mpr ⟨p1, z⟩)
              rw [if_neg (nI_nlt p1 (by omega)), if_pos (nI_le (by omega) (by omega)), Option.bind_some]
            · rw [if_pos (nI_lt (by omega) (by omega)), Option.bind_some]
          · by_cases es : s = v
            · subst es; exact absurd en' en
            · have : v < s := by
                apply Classical.byContradiction
                intro hnl
                have := sub_next v u s c4 ((us_and s hs).mp us') (by omega) (by omega)
                omega
              exact c10 s hs this en' us'
          · have := mono (((v - 1) &&& u) + 1) (v + 1) (by omega)
            omega)
    n u (nI u, h1) (by omega) ⟨u, _, fA, 0, rfl, rfl, ul, Nat.and_self u, q1, pk_us, fun k hk => pk_un hk, fun _ _ => rfl, fun i hi => absurd hi (Nat.not_lt_zero _), fun s hs hl en us => by
      exfalso
      have := (us_and s hs).mp us
      have l2 : s &&& u ≤ u := Nat.and_le_right
      omega, by have := mono (u + 1) (2 ^ hD H) (by omega); omega, FrP.put f1⟩
  obtain ⟨s, es, w', fA', ec, r⟩ := this
  refine ⟨s, w', fA', ec, ?_, r⟩
  unfold f_X2_listSets
  rw [e1, Option.bind_some, q1.gI (k := 8) (by decide) (by decide), Option.bind_some, q1.gI (k := 9) (by decide) (by decide), Option.bind_some, pk_un (by decide), pk_un (by decide), w8, w9, Option.bind_some, show gSg H ||| gDb H = nI u from eU, show f_X2_listSets_L17 b (nI u) n (nI u) h1 = some s from es]
  rfl
end PL
