/-! Masks, sums, any, by how far; more of the class's House. -/
def mkB (f : Nat → Bool) : Nat → Int32
  | 0 => 0
  | i + 1 => if f i then mkB f i ||| i_shl 1 (nI i) else mkB f i
theorem mkB_bt {f : Nat → Bool} : ∀ (i : Nat), i ≤ 32 → ∀ k, k < 32 → bt (mkB f i) k = (decide (k < i) && f k)
  | 0, _, k, hk => by simp [mkB, b_0]
  | i + 1, h, k, hk => by
    have ih := mkB_bt (f := f) i (by omega) k hk
    unfold mkB
    by_cases hf : f i
    · rw [if_pos hf, b_or, b_bit (by omega) hk, ih]
      by_cases e : k = i
      · subst e; simp [hf]
      · simp [e, show (k < i + 1) = (k < i) by simp only [eq_iff_iff]; omega]
    · rw [if_neg hf, ih]
      by_cases e : k = i
      · subst e; simp [hf]
      · simp [show (k < i + 1) = (k < i) by simp only [eq_iff_iff]; omega]
def smB (f : Nat → Nat) : Nat → Nat
  | 0 => 0
  | i + 1 => smB f i + f i
theorem sumN_smB {f : Nat → Nat} : ∀ (c i : Nat), sumN f c i + smB f i = smB f (i + c)
  | 0, i => by simp [sumN]
  | c + 1, i => by
    have := sumN_smB (f := f) c (i + 1)
    rw [show i + (c + 1) = i + 1 + c by omega, ← this]
    show f i + sumN f c (i + 1) + smB f i = sumN f c (i + 1) + (smB f i + f i)
    omega
theorem sumN_0 {f : Nat → Nat} (c : Nat) : sumN f c 0 = smB f c := by
  have := sumN_smB (f := f) c 0
  simpa [smB] using this
theorem smB_le {f : Nat → Nat} {m : Nat} (hm : ∀ j, f j ≤ m) : ∀ i, smB f i ≤ i * m
  | 0 => by simp [smB]
  | i + 1 => by
    have := smB_le hm i
    have := hm i
    show smB f i + f i ≤ _
    rw [Nat.succ_mul]; omega
theorem smB_congr {f g : Nat → Nat} : ∀ i, (∀ j, j < i → f j = g j) → smB f i = smB g i
  | 0, _ => rfl
  | i + 1, h => by
    show smB f i + f i = smB g i + g i
    rw [smB_congr i (fun j hj => h j (by omega)), h i (by omega)]
def anB (f : Nat → Bool) : Nat → Bool
  | 0 => false
  | i + 1 => anB f i || f i
theorem anB_iff {f : Nat → Bool} : ∀ i, anB f i = true ↔ ∃ j, j < i ∧ f j = true
  | 0 => by simp [anB]
  | i + 1 => by
    show (anB f i || f i) = true ↔ _
    rw [Bool.or_eq_true, anB_iff i]
    constructor
    · rintro (⟨j, h1, h2⟩ | h)
      · exact ⟨j, by omega, h2⟩
      · exact ⟨i, by omega, h⟩
    · rintro ⟨j, h1, h2⟩
      by_cases e : j = i
      · subst e; exact Or.inr h2
      · exact Or.inl ⟨j, by omega, h2⟩
theorem anyN_0 {f : Nat → Bool} (c : Nat) : anyN f c 0 = anB f c := by
  rw [Bool.eq_iff_iff, anyN_iff, anB_iff]
  constructor
  · rintro ⟨j, _, h2, h3⟩; exact ⟨j, by omega, h3⟩
  · rintro ⟨j, h2, h3⟩; exact ⟨j, by omega, by omega, h3⟩
theorem anB_congr {f g : Nat → Bool} (i : Nat) (h : ∀ j, j < i → f j = g j) : anB f i = anB g i := by
  rw [Bool.eq_iff_iff, anB_iff, anB_iff]
  constructor
  · rintro ⟨j, h2, h3⟩; exact ⟨j, h2, by rw [← h j h2]; exact h3⟩
  · rintro ⟨j, h2, h3⟩; exact ⟨j, h2, by rw [h j h2]; exact h3⟩
theorem mkB_congr {f g : Nat → Bool} : ∀ i, (∀ j, j < i → f j = g j) → mkB f i = mkB g i
  | 0, _ => rfl
  | i + 1, h => by
    unfold mkB
    rw [mkB_congr i (fun j hj => h j (by omega)), h i (by omega)]
theorem orB_0 {f : Nat → Bool} (c : Nat) (hc : c ≤ 32) : orB f c 0 0 = mkB f c := by
  apply b_ext
  intro k hk
  rw [orB_bt c 0 0 (by omega) k hk, mkB_bt c hc k hk, b_0]
  simp
theorem lpAny {β : Type} {L : Nat → Nat → Option β} (f : Nat → Bool) {D n : Nat} {yes no : β} (hn : D < n) (h1 : ∀ k, L (k + 1) D = some no) (h2 : ∀ k i, i < D → L (k + 1) i = if f i then some yes else L k (i + 1)) : L n 0 = some (if anB f D then yes else no) := by
  obtain ⟨b, e, r⟩ := lp0 (L := fun k (_ : Unit) i => L k i) (I := fun i _ => anB f i = false) (R := fun b => b = if anB f D then yes else no) (D := D) (n := n) (s := ()) hn rfl
    (fun k s hs => ⟨no, h1 k, by rw [hs]; rfl⟩)
    (fun k s i hi hs => by
      by_cases hf : f i
      · left
        refine ⟨yes, by rw [h2 k i hi, if_pos hf], ?_⟩
        rw [(anB_iff D).mpr ⟨i, hi, hf⟩]; rfl
      · right
        refine ⟨(), by rw [h2 k i hi, if_neg hf], ?_⟩
        show (anB f i || f i) = false
        rw [hs]; simpa using hf)
  rw [e, r]
def sDoorsAt (H : HS) (r : Int32) : Int32 := mkB (fun d => sAt H d r) (hD H)
def sSome (H : HS) (r : Int32) : Bool := anB (fun p => decide (hR H p = r)) (hP H)
def sStk (H : HS) (d : Nat) : Nat := if bt (hO H) d && !decide (hK H d = 5) then wtN (hK H d) else 0
def sStock (H : HS) : Nat := smB (sStk H) (hD H)
def sIs (n : Nat) (x : Int32) : Bool := !decide (x < 0) && !decide (nI n ≤ x)
theorem sIs_iff {n : Nat} (hn : n < 2 ^ 31) (x : Int32) : sIs n x = true ↔ ∃ j, j < n ∧ x = nI j := by
  unfold sIs
  constructor
  · intro h
    simp only [Bool.and_eq_true, Bool.not_eq_true', decide_eq_false_iff_not] at h
    rcases pk_ix x hn with g | g | g
    · exact absurd g h.1
    · exact absurd g h.2
    · exact g
  · rintro ⟨j, hj, rfl⟩
    simp only [Bool.and_eq_true, Bool.not_eq_true', decide_eq_false_iff_not]
    exact ⟨nI_pos (by omega), nI_ge hj hn⟩
/-- the sides of a door as bits -/
def sSd (H : HS) (d : Nat) : Int32 := i_shl 1 (hA H d) ||| i_shl 1 (hB H d)
def rp (H : HS) (o : Int32) (acc : Int32) : Nat → Int32
  | 0 => acc
  | d + 1 => if bt o d && !decide (rp H o acc d &&& sSd H d = 0) then rp H o acc d ||| sSd H d else rp H o acc d
def rpK (H : HS) (o : Int32) (acc : Int32) : Nat → Int32
  | 0 => acc
  | k + 1 => rpK H o (rp H o acc (hD H)) k
theorem rpK_fix (H : HS) (o acc : Int32) (he : rp H o acc (hD H) = acc) : ∀ k, rpK H o acc k = acc
  | 0 => rfl
  | k + 1 => by show rpK H o (rp H o acc (hD H)) k = acc; rw [he, rpK_fix H o acc he k]
def sReach (H : HS) (o r : Int32) : Int32 := rpK H o (i_shl 1 r) 8
def sShutIn (H : HS) : Int32 := mkB (fun p => decide (sReach H (hO H) (hR H p) &&& 1 = 0)) (hP H)
section HL
variable {h : xH} {b d p n : Nat} {H : HS} {r set x : Int32}
theorem h_hasDoor (q : HAt h b H) : f_X0_hasDoor h b x = some (bI (sIs (hD H) x)) := by
  simp only [f_X0_hasDoor, q.D, Option.bind_some, sIs]
  by_cases h1 : x < 0
  · rw [if_pos h1, decide_eq_true h1]; rfl
  · rw [if_neg h1, decide_eq_false h1]
    by_cases h2 : nI (hD H) ≤ x
    · rw [if_pos h2, decide_eq_true h2]; rfl
    · rw [if_neg h2, decide_eq_false h2]; rfl
theorem h_hasOne (q : HAt h b H) : f_X0_hasOne h b x = some (bI (sIs (hP H) x)) := by
  simp only [f_X0_hasOne, q.P, Option.bind_some, sIs]
  by_cases h1 : x < 0
  · rw [if_pos h1, decide_eq_true h1]; rfl
  · rw [if_neg h1, decide_eq_false h1]
    by_cases h2 : nI (hP H) ≤ x
    · rw [if_pos h2, decide_eq_true h2]; rfl
    · rw [if_neg h2, decide_eq_false h2]; rfl
def sSet (H : HS) (x : Int32) : Bool := decide (i_shr x (nI (hD H)) = 0)
theorem h_hasDoors (q : HAt h b H) : f_X0_hasDoors h b x = some (bI (sSet H x)) := by
  simp only [f_X0_hasDoors, q.D, Option.bind_some, sSet]
  by_cases h1 : i_shr x (nI (hD H)) = 0
  · rw [if_pos h1, decide_eq_true h1]; rfl
  · rw [if_neg h1, decide_eq_false h1]; rfl
theorem h_doorsAt (q : HAt h b H) (ok : HOk H) (hn : 20 ≤ n) : f_X0_doorsAt n h b r = some (sDoorsAt H r) := by
  have h14 := ok.1
  unfold f_X0_doorsAt
  have := lpE (L := fun k s i => f_X0_doorsAt_L4 h b r k s (nI i)) (g := mkB (fun d => sAt H d r)) (D := hD H) (n := n) (fin := sDoorsAt H r) (by omega)
    (fun k => by
      show f_X0_doorsAt_L4 h b r (k + 1) _ (nI (hD H)) = _
      simp only [f_X0_doorsAt_L4, q.D, Option.bind_some]
      rw [if_pos (nI_le (Nat.le_refl _) (by omega))]; rfl)
    (fun k i hi => by
      show f_X0_doorsAt_L4 h b r (k + 1) _ (nI i) = f_X0_doorsAt_L4 h b r k _ (nI (i + 1))
      rw [f_X0_doorsAt_L4]
      simp only [q.D, q.ob, h_isAt q ok hi, Option.bind_some, nI_1]
      rw [if_neg (nI_ge hi (by omega)), mkB]
      cases sAt H i r
      · rw [if_pos ((bI_0 _).mpr rfl)]; rfl
      · rw [if_neg (by decide)]; rfl)
  rw [show (0 : Int32) = nI 0 from rfl, show f_X0_doorsAt_L4 h b r n (nI 0) (nI 0) = some (sDoorsAt H r) from this]
  rfl
theorem h_someoneIn (q : HAt h b H) (ok : HOk H) (hn : 20 ≤ n) : f_X0_someoneIn n h b r = some (bI (sSome H r)) := by
  have h4 := ok.2.1
  unfold f_X0_someoneIn
  have := lpAny (L := fun k i => f_X0_someoneIn_L2 h b r k (nI i)) (fun p => decide (hR H p = r)) (D := hP H) (n := n) (yes := .inl 1) (no := .inr ()) (by omega)
    (fun k => by
      show f_X0_someoneIn_L2 h b r (k + 1) (nI (hP H)) = _
      simp only [f_X0_someoneIn_L2, q.P, Option.bind_some]
      rw [if_pos (nI_le (Nat.le_refl _) (by omega))])
    (fun k i hi => by
      show f_X0_someoneIn_L2 h b r (k + 1) (nI i) = _
      rw [f_X0_someoneIn_L2]
      simp only [q.P, q.rr, q.ldR ok hi, Option.bind_some, nI_1]
      rw [if_neg (nI_ge hi (by omega))]
      by_cases e : hR H i = r
      · simp [e]
      · simp [e])
  rw [show (0 : Int32) = nI 0 from rfl, show f_X0_someoneIn_L2 h b r n (nI 0) = _ from this]
  unfold sSome
  cases anB (fun p => decide (hR H p = r)) (hP H) <;> rfl
theorem sStk_le (H : HS) (j : Nat) : sStk H j ≤ 2 := by unfold sStk; split; exact wtN_le _; omega
theorem h_openStock (q : HAt h b H) (ok : HOk H) (hn : 20 ≤ n) : f_X0_openStock n h b = some (nI (sStock H)) := by
  have h14 := ok.1
  unfold f_X0_openStock
  have := lpE (L := fun k s i => f_X0_openStock_L4 h b k s (nI i)) (g := fun i => nI (smB (sStk H) i)) (D := hD H) (n := n) (fin := nI (sStock H)) (by omega)
    (fun k => by
      show f_X0_openStock_L4 h b (k + 1) _ (nI (hD H)) = _
      simp only [f_X0_openStock_L4, q.D, Option.bind_some]
      rw [if_pos (nI_le (Nat.le_refl _) (by omega))]; rfl)
    (fun k i hi => by
      show f_X0_openStock_L4 h b (k + 1) _ (nI i) = f_X0_openStock_L4 h b k _ (nI (i + 1))
      rw [f_X0_openStock_L4]
      simp only [q.D, q.ob, h_isOpen q (ok.d32 hi), q.rk, q.ldK ok hi, h_weightOf q ok hi, Option.bind_some, nI_1, nI_add]
      rw [if_neg (nI_ge hi (by omega)), smB]
      unfold sStk
      cases bt (hO H) i
      · rw [if_pos ((bI_0 _).mpr rfl)]; rfl
      · rw [if_neg (by decide)]
        by_cases e : hK H i = 5
        · rw [if_pos e, decide_eq_true e]; rfl
        · rw [if_neg e, decide_eq_false e]; rfl)
  rw [show (0 : Int32) = nI 0 from rfl, show f_X0_openStock_L4 h b n (nI 0) (nI 0) = _ from this]
  rfl
theorem h_reach18 (q : HAt h b H) (ok : HOk H) (hn : 20 ≤ n) (v3 acc : Int32) : f_X0_reachFrom_L18 h b v3 acc n acc 0 = some (rp H (hO H) acc (hD H)) := by
  have h14 := ok.1
  have := lpE (L := fun k s i => f_X0_reachFrom_L18 h b v3 acc k s (nI i)) (g := rp H (hO H) acc) (D := hD H) (n := n) (fin := rp H (hO H) acc (hD H)) (by omega)
    (fun k => by
      show f_X0_reachFrom_L18 h b v3 acc (k + 1) _ (nI (hD H)) = _
      simp only [f_X0_reachFrom_L18, q.D, Option.bind_some]
      rw [if_pos (nI_le (Nat.le_refl _) (by omega))])
    (fun k i hi => by
      show f_X0_reachFrom_L18 h b v3 acc (k + 1) _ (nI i) = f_X0_reachFrom_L18 h b v3 acc k _ (nI (i + 1))
      rw [f_X0_reachFrom_L18]
      simp only [q.D, q.ob, h_isOpen q (ok.d32 hi), q.ra, q.rb, q.ldA ok hi, q.ldB ok hi, Option.bind_some, nI_1]
      rw [if_neg (nI_ge hi (by omega)), rp]
      cases bt (hO H) i
      · rw [if_pos ((bI_0 _).mpr rfl)]; rfl
      · rw [if_neg (by decide)]
        show (if rp H (hO H) acc i &&& sSd H i = 0 then _ else _) = _
        by_cases e : rp H (hO H) acc i &&& sSd H i = 0
        · rw [if_pos e, decide_eq_true e]; rfl
        · rw [if_neg e, decide_eq_false e]; rfl)
  exact this
theorem h_reach6 (q : HAt h b H) (ok : HOk H) (hn : 20 ≤ n) : ∀ (c k i : Nat) (acc : Int32), i + c = 8 → c < k → ∃ s : Sum Int32 Int32, f_X0_reachFrom_L6 n h b k acc (nI i) = some s ∧ (match s with | .inl r => r | .inr e => e) = rpK H (hO H) acc c
  | _, 0, _, _, _, hk => absurd hk (by omega)
  | 0, k + 1, i, acc, hi, hk => by
    have : i = 8 := by omega
    subst this
    refine ⟨.inr acc, ?_, rfl⟩
    unfold f_X0_reachFrom_L6
    rw [if_pos (by decide)]
  | c + 1, k + 1, i, acc, hi, hk => by
    unfold f_X0_reachFrom_L6
    rw [if_neg (show ¬ (8 : Int32) ≤ nI i from nI_ge (b := 8) (by omega) (by omega)), h_reach18 q ok hn]
    simp only [Option.bind_some, nI_1]
    by_cases e : rp H (hO H) acc (hD H) = acc
    · rw [if_pos e]
      exact ⟨_, rfl, by rw [rpK_fix H _ acc e]; exact e⟩
    · rw [if_neg e]
      exact h_reach6 q ok hn c k (i + 1) _ (by omega) (by omega)
theorem h_reachFrom (q : HAt h b H) (ok : HOk H) (hn : 20 ≤ n) : f_X0_reachFrom n h b r = some (sReach H (hO H) r) := by
  unfold f_X0_reachFrom
  simp only [Option.bind_some]
  obtain ⟨s, e1, e2⟩ := h_reach6 q ok hn 8 n 0 (i_shl 1 r) (by omega) (by omega)
  rw [show (0 : Int32) = nI 0 from rfl, e1]
  unfold sReach
  rw [← e2]
  cases s <;> rfl
theorem h_shutInBits (q : HAt h b H) (ok : HOk H) (hn : 20 ≤ n) : f_X0_shutInBits n h b = some (sShutIn H) := by
  have h4 := ok.2.1
  unfold f_X0_shutInBits
  have := lpE (L := fun k s i => f_X0_shutInBits_L4 n h b k s (nI i)) (g := mkB (fun p => decide (sReach H (hO H) (hR H p) &&& 1 = 0))) (D := hP H) (n := n) (fin := sShutIn H) (by omega)
    (fun k => by
      show f_X0_shutInBits_L4 n h b (k + 1) _ (nI (hP H)) = _
      simp only [f_X0_shutInBits_L4, q.P, Option.bind_some]
      rw [if_pos (nI_le (Nat.le_refl _) (by omega))]; rfl)
    (fun k i hi => by
      show f_X0_shutInBits_L4 n h b (k + 1) _ (nI i) = f_X0_shutInBits_L4 n h b k _ (nI (i + 1))
      rw [f_X0_shutInBits_L4]
      simp only [q.P, q.ob, q.rr, q.ldR ok hi, h_reachFrom q ok hn, Option.bind_some, nI_1]
      rw [if_neg (nI_ge hi (by omega)), mkB]
      by_cases e : sReach H (hO H) (hR H i) &&& 1 = 0
      · rw [if_pos e, decide_eq_true e]; rfl
      · rw [if_neg e, decide_eq_false e]; rfl)
  rw [show (0 : Int32) = nI 0 from rfl, show f_X0_shutInBits_L4 n h b n (nI 0) (nI 0) = _ from this]
  rfl
end HL
