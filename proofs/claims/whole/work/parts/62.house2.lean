/-! Loops over doors and people: sums, any, masks. -/
def anyN (f : Nat → Bool) : Nat → Nat → Bool
  | 0, _ => false
  | c + 1, i => f i || anyN f c (i + 1)
theorem anyN_iff {f : Nat → Bool} : ∀ (c i : Nat), anyN f c i = true ↔ ∃ j, i ≤ j ∧ j < i + c ∧ f j = true
  | 0, i => by
    constructor
    · intro h; cases h
    · rintro ⟨j, h1, h2, -⟩; omega
  | c + 1, i => by
    show (f i || anyN f c (i + 1)) = true ↔ _
    rw [Bool.or_eq_true, anyN_iff c (i + 1)]
    constructor
    · rintro (h | ⟨j, h1, h2, h3⟩)
      · exact ⟨i, Nat.le_refl _, by omega, h⟩
      · exact ⟨j, by omega, by omega, h3⟩
    · rintro ⟨j, h1, h2, h3⟩
      by_cases e : j = i
      · subst e; exact Or.inl h3
      · exact Or.inr ⟨j, by omega, by omega, h3⟩
theorem anyN_congr {f g : Nat → Bool} : ∀ (c i : Nat), (∀ j, i ≤ j → j < i + c → f j = g j) → anyN f c i = anyN g c i
  | 0, _, _ => rfl
  | c + 1, i, h => by
    show (f i || anyN f c (i + 1)) = (g i || anyN g c (i + 1))
    rw [h i (Nat.le_refl _) (by omega), anyN_congr c (i + 1) (fun j h1 h2 => h j (by omega) (by omega))]
def sumN (f : Nat → Nat) : Nat → Nat → Nat
  | 0, _ => 0
  | c + 1, i => f i + sumN f c (i + 1)
theorem sumN_ge {f : Nat → Nat} : ∀ (c i j : Nat), i ≤ j → j < i + c → f j ≤ sumN f c i
  | 0, i, j, h1, h2 => by omega
  | c + 1, i, j, h1, h2 => by
    show f j ≤ f i + sumN f c (i + 1)
    by_cases e : j = i
    · subst e; omega
    · have := sumN_ge (f := f) c (i + 1) j (by omega) (by omega)
      omega
theorem sumN_le {f : Nat → Nat} {m : Nat} (hm : ∀ j, f j ≤ m) : ∀ (c i : Nat), sumN f c i ≤ c * m
  | 0, _ => by show 0 ≤ _; omega
  | c + 1, i => by
    show f i + sumN f c (i + 1) ≤ _
    have := sumN_le hm c (i + 1)
    have := hm i
    rw [Nat.succ_mul]
    omega
theorem sumN_congr {f g : Nat → Nat} : ∀ (c i : Nat), (∀ j, i ≤ j → j < i + c → f j = g j) → sumN f c i = sumN g c i
  | 0, _, _ => rfl
  | c + 1, i, h => by
    show f i + sumN f c (i + 1) = g i + sumN g c (i + 1)
    rw [h i (Nat.le_refl _) (by omega), sumN_congr c (i + 1) (fun j h1 h2 => h j (by omega) (by omega))]
def hLn (H : HS) : Nat := (hL H).toNatClampNeg
theorem HOk.L (H : HS) (ok : HOk H) : hL H = nI (hLn H) ∧ 1 ≤ hLn H ∧ hLn H ≤ 4 := by
  obtain ⟨k, h1, h2, h3⟩ := ok.2.2.2.2.1
  unfold hLn
  rw [h3, nI_clamp (by omega)]
  exact ⟨rfl, h1, h2⟩
theorem wtN_le (k : Int32) : wtN k ≤ 2 := by unfold wtN; split <;> (try split) <;> omega
/-- doors that somebody may shut now -/
def sShut (H : HS) (d : Nat) : Bool := bt (hO H) d && anyN (fun p => sShuts H d (hR H p)) (hP H) 0
def sShutM (H : HS) : Int32 := orB (sShut H) (hD H) 0 0
def sWt (H : HS) (set : Int32) (d : Nat) : Nat := if bt set d then wtN (hK H d) else 0
def sW (H : HS) (set : Int32) : Nat := sumN (sWt H set) (hD H) 0
def sEn (H : HS) (set : Int32) : Bool := decide (hLn H ≤ sW H set) && !anyN (fun d => bt set d && decide (hLn H ≤ sW H set - wtN (hK H d))) (hD H) 0
theorem sW_le (H : HS) (ok : HOk H) (set : Int32) : sW H set ≤ 28 := by
  have h := sumN_le (f := sWt H set) (m := 2) (fun j => by unfold sWt; split; exact wtN_le _; omega) (hD H) 0
  have := ok.1
  unfold sW
  omega
def orP (F : Nat → Nat → Bool) (D : Nat) : Nat → Nat → Int32 → Int32
  | 0, _, a => a
  | c + 1, i, a => orP F D c (i + 1) (orB (F i) D 0 a)
theorem orP_bt {F : Nat → Nat → Bool} {D : Nat} (hD : D ≤ 32) : ∀ (c i : Nat) (a : Int32) (k : Nat), k < 32 → bt (orP F D c i a) k = (bt a k || (decide (k < D) && anyN (fun p => F p k) c i))
  | 0, i, a, k, hk => by show bt a k = _; simp [anyN]
  | c + 1, i, a, k, hk => by
    show bt (orP F D c (i + 1) _) k = _
    rw [orP_bt hD c (i + 1) _ k hk, orB_bt D 0 a (by omega) k hk]
    show _ = (bt a k || (decide (k < D) && (F i k || anyN (fun p => F p k) c (i + 1))))
    simp
    cases bt a k <;> cases decide (k < D) <;> cases F i k <;> simp
theorem sShutM_bt (H : HS) (ok : HOk H) {k : Nat} (hk : k < 32) : bt (sShutM H) k = (decide (k < hD H) && sShut H k) := by
  have := ok.1
  unfold sShutM
  rw [orB_bt _ _ _ (by omega) k hk, b_0]
  simp
theorem sShut_orP (H : HS) (ok : HOk H) : orP (fun p d => bt (hO H) d && sShuts H d (hR H p)) (hD H) (hP H) 0 0 = sShutM H := by
  have h14 := ok.1
  apply b_ext
  intro k hk
  rw [orP_bt (by omega) _ _ _ k hk, sShutM_bt H ok hk, b_0]
  unfold sShut
  have e : anyN (fun p => bt (hO H) k && sShuts H k (hR H p)) (hP H) 0 = (bt (hO H) k && anyN (fun p => sShuts H k (hR H p)) (hP H) 0) := by
    cases bt (hO H) k
    · simp
      have : ∀ c i, anyN (fun _ => false) c i = false := by
        intro c
        induction c with
        | zero => intro i; rfl
        | succ c ih => intro i; exact ih (i + 1)
      exact this _ _
    · simp
  rw [e]
  simp
section HL
variable {h : xH} {b d p n : Nat} {H : HS} {r set : Int32}
theorem h_shut4 (q : HAt h b H) (ok : HOk H) (hn : 20 ≤ n) : ∀ (c k i : Nat) (acc : Int32), i + c = hP H → c < k → f_X0_shuttable_L4 n h b k acc (nI i) = some (orP (fun p d => bt (hO H) d && sShuts H d (hR H p)) (hD H) c i acc)
  | 0, 0, i, acc, hi, hk => absurd hk (Nat.lt_irrefl 0)
  | 0, k + 1, i, acc, hi, hk => by
    unfold f_X0_shuttable_L4
    simp only [q.P, Option.bind_some]
    rw [if_pos (by rw [← hi]; exact nI_le (Nat.le_refl _) (by have := ok.2.1; omega))]
    rfl
  | c + 1, 0, i, acc, hi, hk => absurd hk (by omega)
  | c + 1, k + 1, i, acc, hi, hk => by
    have hp : i < hP H := by omega
    have h4 := ok.2.1
    have h14 := ok.1
    unfold f_X0_shuttable_L4
    have e0 : (0 : Int32) = nI 0 := rfl
    simp only [q.P, Option.bind_some, nI_1]
    rw [if_neg (nI_ge hp (by omega)), e0, h_shut14 q ok hp (hD H) n 0 acc (by omega) (by omega)]
    simp only [Option.bind_some]
    rw [h_shut4 q ok hn c k (i + 1) _ (by omega) (by omega)]
    rfl
theorem h_shuttable (q : HAt h b H) (ok : HOk H) (hn : 20 ≤ n) : f_X0_shuttable n h b = some (sShutM H) := by
  have h4 := ok.2.1
  unfold f_X0_shuttable
  rw [show (0 : Int32) = nI 0 from rfl, h_shut4 q ok hn (hP H) n 0 (nI 0) (by omega) (by omega)]
  simp only [Option.bind_some]
  rw [show nI 0 = (0 : Int32) from rfl, sShut_orP H ok]
theorem h_weigh4 (q : HAt h b H) (ok : HOk H) : ∀ (c k i a : Nat), i + c = hD H → c < k → f_X0_weigh_L4 h b set k (nI a) (nI i) = some (nI (a + sumN (sWt H set) c i))
  | 0, 0, i, a, hi, hk => absurd hk (Nat.lt_irrefl 0)
  | 0, k + 1, i, a, hi, hk => by
    unfold f_X0_weigh_L4
    simp only [q.D, Option.bind_some]
    rw [if_pos (by rw [← hi]; exact nI_le (Nat.le_refl _) (by have := ok.1; omega))]
    rfl
  | c + 1, 0, i, a, hi, hk => absurd hk (by omega)
  | c + 1, k + 1, i, a, hi, hk => by
    have hd : i < hD H := by omega
    have h14 := ok.1
    unfold f_X0_weigh_L4
    simp only [q.D, q.ob, h_weightOf q ok hd, Option.bind_some, nI_1, nI_add]
    rw [if_neg (nI_ge hd (by omega))]
    show _ = some (nI (a + (sWt H set i + sumN (sWt H set) c (i + 1))))
    cases e : bt set i
    · rw [if_pos ((b_has _ (by omega)).mpr e), h_weigh4 q ok c k (i + 1) a (by omega) (by omega)]
      have : sWt H set i = 0 := by unfold sWt; rw [e]; rfl
      rw [this]
      congr 2
      omega
    · rw [if_neg (fun z => by rw [(b_has _ (by omega)).mp z] at e; cases e), h_weigh4 q ok c k (i + 1) _ (by omega) (by omega)]
      have : sWt H set i = wtN (hK H i) := by unfold sWt; rw [e]; rfl
      rw [this]
      congr 2
      omega
theorem h_weigh (q : HAt h b H) (ok : HOk H) (hn : 20 ≤ n) : f_X0_weigh n h b set = some (nI (sW H set)) := by
  have h14 := ok.1
  unfold f_X0_weigh
  rw [show (0 : Int32) = nI 0 from rfl, h_weigh4 q ok (hD H) n 0 0 (by omega) (by omega)]
  simp only [Option.bind_some]
  rw [Nat.zero_add]
  rfl
theorem h_en18 (q : HAt h b H) (ok : HOk H) : ∀ (c k i : Nat), i + c = hD H → c < k → f_X0_isEnoughAndNoneInVain_L18 h b set (nI (sW H set)) k (nI i) = some (if anyN (fun d => bt set d && decide (hLn H ≤ sW H set - wtN (hK H d))) c i then .inl 0 else .inr ())
  | 0, 0, i, hi, hk => absurd hk (Nat.lt_irrefl 0)
  | 0, k + 1, i, hi, hk => by
    unfold f_X0_isEnoughAndNoneInVain_L18
    simp only [q.D, Option.bind_some]
    rw [if_pos (by rw [← hi]; exact nI_le (Nat.le_refl _) (by have := ok.1; omega))]
    rfl
  | c + 1, 0, i, hi, hk => absurd hk (by omega)
  | c + 1, k + 1, i, hi, hk => by
    have hd : i < hD H := by omega
    have h14 := ok.1
    obtain ⟨eL, hL1, hL4⟩ := HOk.L H ok
    have hw := sW_le H ok set
    unfold f_X0_isEnoughAndNoneInVain_L18
    simp only [q.D, q.ob, q.L, h_weightOf q ok hd, Option.bind_some, nI_1]
    rw [if_neg (nI_ge hd (by omega)), h_en18 q ok c k (i + 1) (by omega) (by omega)]
    show _ = some (if ((bt set i && decide (hLn H ≤ sW H set - wtN (hK H i))) || anyN _ c (i + 1)) then (Sum.inl 0 : Sum Int32 Unit) else Sum.inr ())
    cases e : bt set i
    · rw [if_pos ((b_has _ (by omega)).mpr e)]
      simp
    · rw [if_neg (fun z => by rw [(b_has _ (by omega)).mp z] at e; cases e)]
      have hge : wtN (hK H i) ≤ sW H set := by
        have := sumN_ge (f := sWt H set) (hD H) 0 i (by omega) (by omega)
        have e2 : sWt H set i = wtN (hK H i) := by unfold sWt; rw [e]; rfl
        rw [e2] at this
        exact this
      rw [pk_sub hge, eL]
      by_cases hc : hLn H ≤ sW H set - wtN (hK H i)
      · rw [if_neg (nI_nlt hc (by omega))]
        simp [hc]
      · rw [if_pos (nI_lt (by omega) (by omega))]
        simp [hc]
theorem h_enough (q : HAt h b H) (ok : HOk H) (hn : 20 ≤ n) : f_X0_isEnoughAndNoneInVain n h b set = some (bI (sEn H set)) := by
  have h14 := ok.1
  obtain ⟨eL, hL1, hL4⟩ := HOk.L H ok
  have hw := sW_le H ok set
  unfold f_X0_isEnoughAndNoneInVain
  simp only [q.ob, h_weigh q ok hn, q.L, Option.bind_some, eL]
  rw [show (0 : Int32) = nI 0 from rfl, h_en18 q ok (hD H) n 0 (by omega) (by omega)]
  unfold sEn
  by_cases hc : hLn H ≤ sW H set
  · rw [if_pos (nI_le hc (by omega))]
    simp only [Option.bind_some]
    cases anyN (fun d => bt set d && decide (hLn H ≤ sW H set - wtN (hK H d))) (hD H) 0
    · simp [hc]; rfl
    · simp [hc]; rfl
  · rw [if_neg (fun z => hc ((nI_leI (by omega) (by omega)).mp z))]
    simp [hc]
    rfl
/-- a set within another -/
def sIn (H : HS) (set m : Int32) : Prop := set &&& (m ^^^ (-1)) = 0
theorem h_opensBy (q : HAt h b H) (ok : HOk H) (hn : 20 ≤ n) (hp : p < hP H) (hd : d < hD H) : f_X0_opensBy n h b (nI p) (nI d) set = some (bI (!bt (hO H) d && sOpens H d (hR H p) && decide (set &&& (sShutM H ^^^ (-1)) = 0) && sEn H set)) := by
  simp only [f_X0_opensBy, q.ob, h_stands q ok hp hd, h_shuttable q ok hn, h_enough q ok hn, Option.bind_some]
  cases !bt (hO H) d && sOpens H d (hR H p)
  · rw [if_pos ((bI_0 _).mpr rfl)]; rfl
  · rw [if_neg (by decide)]
    by_cases hc : set &&& (sShutM H ^^^ (-1)) = 0
    · rw [if_pos hc, decide_eq_true hc]
      cases sEn H set
      · rw [if_pos ((bI_0 _).mpr rfl)]; rfl
      · rw [if_neg (by decide)]; rfl
    · rw [if_neg hc, decide_eq_false hc]; rfl
end HL
