/-! The law's loop, whole. -/
theorem tC_max (D : DS) (w : Nat → Nat) : tC D w ≤ 171940 ∧ tS D w ≤ 227378 := by
  have a := P1_max D.2.2.2.2.1
  have b := P2_max D.2.2.2.1
  have c := mC_max (w := w)
  have d := mS_max (w := w)
  unfold tC tS
  omega
theorem ex6 : ∀ m, m < 6 → (Int32.ofNat m - 6).toInt < 0 := by decide +kernel
theorem lw_exit {S : Nat × (Nat → Int32)} {i : Nat} (hS : S.1 ≤ 3072) (hi : S.1 < 6 * i + 6) (hi2 : i < 1000) : (Int32.ofNat S.1 - 6) < nI (6 * i) := by
  rcases Nat.lt_or_ge S.1 6 with h | h
  · rw [Int32.lt_iff_toInt_lt, nI_toInt (by omega)]
    have := ex6 S.1 h
    omega
  · rw [show Int32.ofNat S.1 - 6 = nI (S.1 - 6) from nI_sub' (a := S.1) (b := 6) h]
    exact nI_lt (by omega) (by omega)
theorem lw_loop {S : Nat × (Nat → Int32)} {n : Nat} (hS : S.1 ≤ 3072) (hn : 700000 ≤ n) : ∀ (c i k : Nat) (h : xH) (D : DS) (w : Nat → Nat) (A : AS), S.1 < 6 * (i + c) + 6 → i + c < 1000 → c < k → JJ h D w A → lim D (4 * c) → Gd D w (f_L_law_L18 S n 16 64 k (nI (6 * i)) h)
  | 0, i, k, h, D, w, A, h1, h2, h3, j, l => by
    obtain ⟨k, rfl⟩ : ∃ x, k = x + 1 := ⟨k - 1, by omega⟩
    have := tC_max D w
    refine ⟨h, 0, 0, ?_, this.1, this.2⟩
    rw [f_L_law_L18, if_pos (lw_exit hS (by omega) (by omega))]
  | c + 1, i, k, h, D, w, A, h1, h2, h3, j, l => by
    obtain ⟨k, rfl⟩ : ∃ x, k = x + 1 := ⟨k - 1, by omega⟩
    rcases Nat.lt_or_ge S.1 (6 * i + 6) with hx | hx
    · have := tC_max D w
      refine ⟨h, 0, 0, ?_, this.1, this.2⟩
      rw [f_L_law_L18, if_pos (lw_exit hS hx (by omega))]
    · rw [show 4 * (c + 1) = 4 + 4 * c by omega] at l
      exact lw_step hS hx hn j (lim_mono (Nat.le_add_right _ _) l) (fun h2 D' w' A' j' f => lw_loop hS hn c (i + 1) k h2 D' w' A' (by omega) (by omega) (by omega) j' (lim_fx l f))
