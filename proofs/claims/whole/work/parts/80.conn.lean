/-! Walking: what sReach is. -/
theorem and_ne0 {x y : Int32} : ¬ x &&& y = 0 ↔ ∃ k, k < 32 ∧ bt x k = true ∧ bt y k = true := by
  constructor
  · intro h
    apply Classical.byContradiction
    intro hn
    apply h
    apply b_ext
    intro i hi
    rw [b_and, b_0]
    cases h1 : bt x i
    · rfl
    · cases h2 : bt y i
      · rfl
      · exact absurd ⟨i, hi, h1, h2⟩ hn
  · rintro ⟨k, hk, h1, h2⟩ z
    have := congrArg (fun w => bt w k) z
    simp only [b_and, b_0, h1, h2] at this
    cases this
theorem smB_lt {f g : Nat → Nat} : ∀ i, (∀ j, j < i → f j ≤ g j) → ∀ j, j < i → f j < g j → smB f i < smB g i
  | 0, _, j, hj, _ => absurd hj (Nat.not_lt_zero _)
  | i + 1, h, j, hj, hl => by
    show smB f i + f i < smB g i + g i
    have m := smB_mono (f := f) (g := g) i (fun k hk => h k (by omega))
    have hi := h i (by omega)
    by_cases e : j = i
    · subst e; omega
    · have := smB_lt i (fun k hk => h k (by omega)) j (by omega) hl
      omega
theorem bt32 {x : Int32} {k : Nat} (h : bt x k = true) : k < 32 := by
  apply Classical.byContradiction
  intro hk
  rw [b_big (by omega)] at h
  cases h
section CN
variable {H : HS} {o acc : Int32} {d a b r : Nat}
theorem sSd_bt (ha : hA H d = nI a) (hb : hB H d = nI b) (la : a < 8) (lb : b < 8) {k : Nat} (hk : k < 32) : bt (sSd H d) k = (decide (k = a) || decide (k = b)) := by
  unfold sSd
  rw [ha, hb, b_or, b_bit (by omega) hk, b_bit (by omega) hk]
theorem rp_step : ∀ d, ∀ k, bt (rp H o acc d) k = true → bt (rp H o acc (d + 1)) k = true := by
  intro d k h
  show bt (if _ then rp H o acc d ||| sSd H d else rp H o acc d) k = true
  split
  · rw [b_or, h]; rfl
  · exact h
theorem rp_le (d e : Nat) : ∀ k, bt (rp H o acc d) k = true → bt (rp H o acc (d + e)) k = true := by
  induction e with
  | zero => exact fun k h => h
  | succ e ih => exact fun k h => rp_step (d + e) k (ih k h)
/-- what holds of all that is there and goes over open doors holds of all that is reached -/
theorem rp_ind (ok : HOk H) (Q : Nat → Prop) (cl : ∀ d, d < hD H → bt o d = true → ∀ a b, hA H d = nI a → hB H d = nI b → a < 8 → b < 8 → (Q a ↔ Q b)) : ∀ d, d ≤ hD H → (∀ k, bt acc k = true → Q k) → ∀ k, bt (rp H o acc d) k = true → Q k
  | 0, _, h, k, hk => h k hk
  | d + 1, hd, h, k, hk => by
    have ih := rp_ind ok Q cl d (by omega) h
    have hk32 := bt32 hk
    change bt (if bt o d && !decide (rp H o acc d &&& sSd H d = 0) then rp H o acc d ||| sSd H d else rp H o acc d) k = true at hk
    split at hk
    · rename_i hc
      simp only [Bool.and_eq_true, Bool.not_eq_true', decide_eq_false_iff_not] at hc
      obtain ⟨-, ⟨a, la, ea⟩, ⟨b, lb, eb⟩, -⟩ := ok.2.2.1 d (by omega)
      have cd := cl d (by omega) hc.1 a b ea eb la lb
      obtain ⟨j, hj, j1, j2⟩ := and_ne0.mp hc.2
      rw [sSd_bt ea eb la lb hj] at j2
      have qab : Q a ∧ Q b := by
        simp only [Bool.or_eq_true, decide_eq_true_eq] at j2
        rcases j2 with rfl | rfl
        · exact ⟨ih _ j1, cd.mp (ih _ j1)⟩
        · exact ⟨cd.mpr (ih _ j1), ih _ j1⟩
      rw [b_or, sSd_bt ea eb la lb hk32] at hk
      simp only [Bool.or_eq_true, decide_eq_true_eq] at hk
      rcases hk with hk | rfl | rfl
      · exact ih k hk
      · exact qab.1
      · exact qab.2
    · exact ih k hk
theorem rpK_ind (ok : HOk H) (Q : Nat → Prop) (cl : ∀ d, d < hD H → bt o d = true → ∀ a b, hA H d = nI a → hB H d = nI b → a < 8 → b < 8 → (Q a ↔ Q b)) : ∀ (n : Nat) (acc : Int32), (∀ k, bt acc k = true → Q k) → ∀ k, bt (rpK H o acc n) k = true → Q k
  | 0, _, h => h
  | n + 1, acc, h => rpK_ind ok Q cl n _ (rp_ind ok Q cl (hD H) (Nat.le_refl _) h)
theorem rp_closed (ok : HOk H) (e : rp H o acc (hD H) = acc) (hd : d < hD H) (ho : bt o d = true) (ea : hA H d = nI a) (eb : hB H d = nI b) (la : a < 8) (lb : b < 8) (h : bt acc a = true ∨ bt acc b = true) : bt acc a = true ∧ bt acc b = true := by
  have up : ∀ k, bt (rp H o acc (d + 1)) k = true → bt acc k = true := by
    intro k hk
    rw [← e]
    have := rp_le (H := H) (o := o) (acc := acc) (d + 1) (hD H - (d + 1)) k hk
    rw [show d + 1 + (hD H - (d + 1)) = hD H by omega] at this
    exact this
  have lo : ∀ k, bt acc k = true → bt (rp H o acc d) k = true := by
    intro k hk
    have := rp_le (H := H) (o := o) (acc := acc) 0 d k hk
    rw [Nat.zero_add] at this
    exact this
  have hn : ¬ rp H o acc d &&& sSd H d = 0 := by
    rw [and_ne0]
    rcases h with h | h
    · exact ⟨a, by omega, lo a h, by rw [sSd_bt ea eb la lb (by omega)]; simp⟩
    · exact ⟨b, by omega, lo b h, by rw [sSd_bt ea eb la lb (by omega)]; simp⟩
  have e1 : rp H o acc (d + 1) = rp H o acc d ||| sSd H d := by
    show (if _ then _ else _) = _
    rw [if_pos (by rw [ho, decide_eq_false hn]; rfl)]
  constructor
  · apply up; rw [e1, b_or, sSd_bt ea eb la lb (by omega)]; simp
  · apply up; rw [e1, b_or, sSd_bt ea eb la lb (by omega)]; simp
def cn8 (x : Int32) : Nat := smB (fun k => if bt x k then 1 else 0) 8
theorem cn8_le (x : Int32) : cn8 x ≤ 8 := smB_le (m := 1) (fun j => by split <;> omega) 8
theorem rp_8 (ok : HOk H) (h8 : ∀ k, bt acc k = true → k < 8) : ∀ k, bt (rp H o acc (hD H)) k = true → k < 8 := rp_ind ok (fun k => k < 8) (fun d _ _ a b _ _ la lb => ⟨fun _ => lb, fun _ => la⟩) (hD H) (Nat.le_refl _) h8
theorem rp_grow (ok : HOk H) (h8 : ∀ k, bt acc k = true → k < 8) (hne : ¬ rp H o acc (hD H) = acc) : cn8 acc < cn8 (rp H o acc (hD H)) := by
  have lo : ∀ k, bt acc k = true → bt (rp H o acc (hD H)) k = true := by
    intro k hk
    have := rp_le (H := H) (o := o) (acc := acc) 0 (hD H) k hk
    rw [Nat.zero_add] at this
    exact this
  have : ∃ k, bt acc k = false ∧ bt (rp H o acc (hD H)) k = true := by
    apply Classical.byContradiction
    intro hn
    apply hne
    apply b_ext
    intro i hi
    cases h1 : bt acc i
    · cases h2 : bt (rp H o acc (hD H)) i
      · rfl
      · exact absurd ⟨i, h1, h2⟩ hn
    · exact lo i h1
  obtain ⟨k, k1, k2⟩ := this
  have hk := rp_8 ok h8 k k2
  refine smB_lt 8 (fun j _ => ?_) k hk ?_
  · show (if _ then _ else _) ≤ (if _ then _ else _)
    cases h1 : bt acc j
    · simp
    · rw [lo j h1]; simp
  · show (if _ then _ else _) < (if _ then _ else _)
    rw [k1, k2]; decide
theorem rpK_8 (ok : HOk H) : ∀ (n : Nat) (acc : Int32), (∀ k, bt acc k = true → k < 8) → ∀ k, bt (rpK H o acc n) k = true → k < 8
  | 0, _, h => h
  | n + 1, acc, h => rpK_8 ok n _ (rp_8 ok h)
theorem rpK_fixed (ok : HOk H) (h8 : ∀ k, bt acc k = true → k < 8) (h1 : 1 ≤ cn8 acc) : ∀ n, rp H o (rpK H o acc n) (hD H) = rpK H o acc n ∨ n + 1 ≤ cn8 (rpK H o acc n)
  | 0 => Or.inr h1
  | n + 1 => by
    rw [rpK_succ]
    rcases rpK_fixed ok h8 h1 n with e | e
    · left; rw [e, e]
    · by_cases hc : rp H o (rpK H o acc n) (hD H) = rpK H o acc n
      · left; rw [hc, hc]
      · right
        have := rp_grow (o := o) ok (rpK_8 ok n acc h8) hc
        omega
theorem bit8 (hr : r < 8) : ∀ k, bt (i_shl 1 (nI r)) k = true → k = r := by
  intro k hk
  have := bt32 hk
  rw [b_bit (by omega) this] at hk
  simpa using hk
theorem sReach_fix (ok : HOk H) (hr : r < 8) : rp H o (sReach H o (nI r)) (hD H) = sReach H o (nI r) := by
  have h1 : 1 ≤ cn8 (i_shl 1 (nI r)) := by
    have := smB_ge (f := fun k => if bt (i_shl 1 (nI r)) k then 1 else 0) 8 r hr
    simp only [b_bit (show r < 32 by omega) (show r < 32 by omega), decide_true, if_true] at this
    exact this
  rcases rpK_fixed (o := o) ok (acc := i_shl 1 (nI r)) (fun k hk => by rw [bit8 hr k hk]; exact hr) h1 8 with e | e
  · exact e
  · have := cn8_le (rpK H o (i_shl 1 (nI r)) 8)
    omega
/-- a is reached from r -/
def conn (H : HS) (o : Int32) (r a : Nat) : Prop := bt (sReach H o (nI r)) a = true
theorem conn_lt (ok : HOk H) (hr : r < 8) (h : conn H o r a) : a < 8 := rpK_8 ok 8 _ (fun k hk => by rw [bit8 hr k hk]; exact hr) a h
theorem rpK_mono (o : Int32) : ∀ (n : Nat) (acc : Int32) (k : Nat), bt acc k = true → bt (rpK H o acc n) k = true
  | 0, _, _, h => h
  | n + 1, acc, k, h => by
    apply rpK_mono o n
    have := rp_le (H := H) (o := o) (acc := acc) 0 (hD H) k h
    rw [Nat.zero_add] at this
    exact this
theorem conn_refl (hr : r < 8) : conn H o r r := rpK_mono o 8 _ r (by rw [b_bit (by omega) (by omega)]; simp)
theorem conn_door (ok : HOk H) (hr : r < 8) (hd : d < hD H) (ho : bt o d = true) (ea : hA H d = nI a) (eb : hB H d = nI b) (la : a < 8) (lb : b < 8) : conn H o r a ↔ conn H o r b :=
  ⟨fun h => (rp_closed ok (sReach_fix ok hr) hd ho ea eb la lb (Or.inl h)).2, fun h => (rp_closed ok (sReach_fix ok hr) hd ho ea eb la lb (Or.inr h)).1⟩
theorem conn_ind (ok : HOk H) (hr : r < 8) (Q : Nat → Prop) (q : Q r) (cl : ∀ d, d < hD H → bt o d = true → ∀ a b, hA H d = nI a → hB H d = nI b → a < 8 → b < 8 → (Q a ↔ Q b)) (h : conn H o r a) : Q a :=
  rpK_ind ok Q cl 8 _ (fun k hk => by rw [bit8 hr k hk]; exact q) a h
theorem conn_trans (ok : HOk H) {c : Nat} (hr : r < 8) (ha : a < 8) (h1 : conn H o r a) (h2 : conn H o a c) : conn H o r c :=
  conn_ind ok ha (fun x => conn H o r x) h1 (fun d hd ho a b ea eb la lb => conn_door ok hr hd ho ea eb la lb) h2
theorem conn_symm (ok : HOk H) (hr : r < 8) (h : conn H o r a) : conn H o a r := by
  refine (conn_ind ok hr (fun x => x < 8 ∧ conn H o x r) ⟨hr, conn_refl hr⟩ (fun d hd ho a b ea eb la lb => ?_) h).2
  have s1 : conn H o a b := (conn_door ok la hd ho ea eb la lb).mp (conn_refl la)
  have s2 : conn H o b a := (conn_door ok lb hd ho ea eb la lb).mpr (conn_refl lb)
  exact ⟨fun z => ⟨lb, conn_trans ok lb la s2 z.2⟩, fun z => ⟨la, conn_trans ok la lb s1 z.2⟩⟩
theorem conn_eq (ok : HOk H) (hr : r < 8) (h : conn H o r a) : sReach H o (nI a) = sReach H o (nI r) := by
  have ha := conn_lt ok hr h
  apply b_ext
  intro i hi
  rw [Bool.eq_iff_iff]
  exact ⟨fun z => conn_trans ok hr ha h z, fun z => conn_trans ok ha hr (conn_symm ok hr h) z⟩
/-- more open doors: more is reached -/
theorem conn_mono (ok : HOk H) {o' : Int32} (hr : r < 8) (hs : ∀ d, d < hD H → bt o d = true → bt o' d = true) (h : conn H o r a) : conn H o' r a :=
  conn_ind ok hr (fun x => conn H o' r x) (conn_refl hr) (fun d hd ho a b ea eb la lb => conn_door ok hr hd (hs d hd ho) ea eb la lb) h
end CN
