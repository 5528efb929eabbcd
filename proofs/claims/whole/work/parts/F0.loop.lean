/-! The law's loop. -/
theorem lw_step {S : Nat × (Nat → Int32)} {n i k : Nat} {h : xH} {D : DS} {w : Nat → Nat} {A : AS} (hS : S.1 ≤ 3072) (hi : 6 * i + 6 ≤ S.1) (hn : 700000 ≤ n) (j : JJ h D w A) (l : lim D 4) (ih : ∀ h2 D' w' A', JJ h2 D' w' A' → fx D 4 D' → Gd D' w' (f_L_law_L18 S n 16 64 k (nI (6 * (i + 1))) h2)) : Gd D w (f_L_law_L18 S n 16 64 (k + 1) (nI (6 * i)) h) := by
  have s0 : x_scr S (nI (6 * i)) = some (S.2 (6 * i)) := by
    have := scr_ok hS hi (d := 0) (by decide)
    rw [nI_add] at this
    exact this
  have s1 : x_scr S (nI (6 * i) + 1) = some (S.2 (6 * i + 1)) := scr_ok hS hi (d := 1) (by decide)
  have s2 : x_scr S (nI (6 * i) + 2) = some (S.2 (6 * i + 2)) := scr_ok hS hi (d := 2) (by decide)
  have s3 : x_scr S (nI (6 * i) + 3) = some (S.2 (6 * i + 3)) := scr_ok hS hi (d := 3) (by decide)
  have s4 : x_scr S (nI (6 * i) + 4) = some (S.2 (6 * i + 4)) := scr_ok hS hi (d := 4) (by decide)
  have s5 : x_scr S (nI (6 * i) + 5) = some (S.2 (6 * i + 5)) := scr_ok hS hi (d := 5) (by decide)
  have v6 : nI (6 * i) + 6 = nI (6 * (i + 1)) := by
    rw [show 6 * (i + 1) = 6 * i + 6 by omega, ← nI_add]
    rfl
  have bb : ∀ x : Int32, (if x = 0 then some (0 : Int32) else some (1 : Int32)) = some (bI (!decide (x = 0))) := fun x => by
    by_cases z : x = 0
    · rw [if_pos z, decide_eq_true z]; rfl
    · rw [if_neg z, decide_eq_false z]; rfl
  have ex : ¬ (Int32.ofNat S.1 - 6) < nI (6 * i) := by
    rw [show Int32.ofNat S.1 - 6 = nI (S.1 - 6) from nI_sub' (a := S.1) (b := 6) (by omega)]
    exact nI_nlt (by omega) (by omega)
  have q := j.1
  have ok := j.2.2.2
  rw [f_L_law_L18, if_neg ex, s0, Option.bind_some]
  refine gd_ite (fun _ => ?_) (fun _ => ?_)
  · simp only [s1, s2, s3, v6, Option.bind_some]
    have t := ls_S (K := fun g => f_L_law_L18 S n 16 64 k (nI (6 * (i + 1))) g) (Z := fun g => some (.inl (0, g), 0, 0)) j (b_row (n := n) q ok (S.2 (6 * i + 1)) (S.2 (6 * i + 2)) (S.2 (6 * i + 3)) (by omega)) ih
    exact t
  refine gd_ite (fun _ => ?_) (fun _ => ?_)
  · simp only [s1, s2, s3, s4, v6, Option.bind_some]
    have t := ls_S (K := fun g => f_L_law_L18 S n 16 64 k (nI (6 * (i + 1))) g) (Z := fun g => some (.inl (0, g), 0, 0)) j (b_set q ok (S.2 (6 * i + 1)) (S.2 (6 * i + 2)) ((l_shl (S.2 (6 * i + 3)).toInt64 (32 : Int32)) ||| ((S.2 (6 * i + 4)).toInt64 &&& (4294967295 : Int64)))) ih
    exact t
  refine gd_ite (fun _ => ?_) (fun _ => ?_)
  · simp only [s1, s2, s3, s4, s5, v6, Option.bind_some]
    have t := ls_S (K := fun g => f_L_law_L18 S n 16 64 k (nI (6 * (i + 1))) g) (Z := fun g => some (.inl (0, g), 0, 0)) j (b_copy (n := n) q ok (S.2 (6 * i + 1)) (S.2 (6 * i + 2)) (S.2 (6 * i + 3)) (S.2 (6 * i + 4)) (S.2 (6 * i + 5)) (by omega)) ih
    exact t
  refine gd_ite (fun _ => ?_) (fun _ => ?_)
  · simp only [s1, s2, v6, Option.bind_some]
    have t := ls_L (K := fun g => f_L_law_L18 S n 16 64 k (nI (6 * (i + 1))) g) (Z := fun g => some (.inl (0, g), 0, 0)) j (b_element q ok (S.2 (6 * i + 1)) (S.2 (6 * i + 2))) ih
    exact t
  refine gd_ite (fun _ => ?_) (fun _ => ?_)
  · simp only [s1, v6, Option.bind_some]
    have t := ls_V (K := fun g => f_L_law_L18 S n 16 64 k (nI (6 * (i + 1))) g) (Z := fun g => some (.inl (0, g), 0, 0)) j (b_holds q ok (S.2 (6 * i + 1))) ih
    exact t
  refine gd_ite (fun _ => ?_) (fun _ => ?_)
  · simp only [s1, s2, v6, Option.bind_some]
    have t := ls_S (K := fun g => f_L_law_L18 S n 16 64 k (nI (6 * (i + 1))) g) (Z := fun g => some (.inl (0, g), 0, 0)) j (b_show q ok (S.2 (6 * i + 1)) (S.2 (6 * i + 2))) ih
    exact t
  refine gd_ite (fun _ => ?_) (fun _ => ?_)
  · simp only [s1, s2, v6, Option.bind_some]
    have t := ls_S (K := fun g => f_L_law_L18 S n 16 64 k (nI (6 * (i + 1))) g) (Z := fun g => some (.inl (0, g), 0, 0)) j (b_says (n := n) q ok (S.2 (6 * i + 1)) (S.2 (6 * i + 2)) (by omega)) ih
    exact t
  refine gd_ite (fun _ => ?_) (fun _ => ?_)
  · simp only [s1, s2, s3, v6, Option.bind_some]
    have t := ls_S (K := fun g => f_L_law_L18 S n 16 64 k (nI (6 * (i + 1))) g) (Z := fun g => some (.inl (0, g), 0, 0)) j (b_door q ok (S.2 (6 * i + 1)) (S.2 (6 * i + 2)) (S.2 (6 * i + 3))) ih
    exact t
  refine gd_ite (fun _ => ?_) (fun _ => ?_)
  · simp only [s1, v6, Option.bind_some]
    have t := ls_S (K := fun g => f_L_law_L18 S n 16 64 k (nI (6 * (i + 1))) g) (Z := fun g => some (.inl (0, g), 0, 0)) j (b_one q ok (S.2 (6 * i + 1))) ih
    exact t
  refine gd_ite (fun _ => ?_) (fun _ => ?_)
  · simp only [s1, s2, v6, Option.bind_some]
    have t := ls_S (K := fun g => f_L_law_L18 S n 16 64 k (nI (6 * (i + 1))) g) (Z := fun g => some (.inl (0, g), 0, 0)) j (b_ask q ok (S.2 (6 * i + 1)) (S.2 (6 * i + 2))) ih
    exact t
  refine gd_ite (fun _ => ?_) (fun _ => ?_)
  · simp only [s1, s2, bb, v6, Option.bind_some]
    have t := ls_S (K := fun g => f_L_law_L18 S n 16 64 k (nI (6 * (i + 1))) g) (Z := fun g => some (.inl (0, g), 0, 0)) j (b_stand q ok (S.2 (6 * i + 1)) (!decide (S.2 (6 * i + 2) = 0))) ih
    exact t
  refine gd_ite (fun _ => ?_) (fun _ => ?_)
  · simp only [s1, s2, v6, Option.bind_some]
    have t := ls_S (K := fun g => f_L_law_L18 S n 16 64 k (nI (6 * (i + 1))) g) (Z := fun g => some (.inl (0, g), 0, 0)) j (b_move q ok (S.2 (6 * i + 1)) (S.2 (6 * i + 2))) ih
    exact t
  refine gd_ite (fun _ => ?_) (fun _ => ?_)
  · simp only [s1, s2, v6, Option.bind_some]
    have t := ls_S (K := fun g => f_L_law_L18 S n 16 64 k (nI (6 * (i + 1))) g) (Z := fun g => some (.inl (0, g), 0, 0)) j (b_feed (n := n) q ok (S.2 (6 * i + 1)) (S.2 (6 * i + 2)) (by omega)) ih
    exact t
  refine gd_ite (fun _ => ?_) (fun _ => ?_)
  · simp only [v6, Option.bind_some]
    have t := ls_S (K := fun g => f_L_law_L18 S n 16 64 k (nI (6 * (i + 1))) g) (Z := fun g => some (.inl (0, g), 0, 0)) j (b_wipe q ok ) ih
    exact t
  refine gd_ite (fun _ => ?_) (fun _ => ?_)
  · simp only [v6, Option.bind_some]
    have t := ls_M (K := fun g => f_L_law_L18 S n 16 64 k (nI (6 * (i + 1))) g) (Z := fun g => some (.inl (0, g), 0, 0)) j (b_house (n := n) q ok  (by omega)) ih
    exact t
  refine gd_ite (fun _ => ?_) (fun _ => ?_)
  · simp only [s1, s2, v6, Option.bind_some]
    have t := ls_S (K := fun g => f_L_law_L18 S n 16 64 k (nI (6 * (i + 1))) g) (Z := fun g => some (.inl (0, g), 0, 0)) j (b_doorOf q ok (S.2 (6 * i + 1)) (S.2 (6 * i + 2))) ih
    exact t
  refine gd_ite (fun _ => ?_) (fun _ => ?_)
  · simp only [s1, v6, Option.bind_some]
    have t := ls_S (K := fun g => f_L_law_L18 S n 16 64 k (nI (6 * (i + 1))) g) (Z := fun g => some (.inl (0, g), 0, 0)) j (b_where q ok (S.2 (6 * i + 1))) ih
    exact t
  refine gd_ite (fun _ => ?_) (fun _ => ?_)
  · simp only [s1, s2, v6, Option.bind_some]
    have t := ls_S (K := fun g => f_L_law_L18 S n 16 64 k (nI (6 * (i + 1))) g) (Z := fun g => some (.inl (0, g), 0, 0)) j (b_doors (n := n) q ok (S.2 (6 * i + 1)) (S.2 (6 * i + 2)) (by omega)) ih
    exact t
  refine gd_ite (fun _ => ?_) (fun _ => ?_)
  · simp only [s1, s2, s3, v6, Option.bind_some]
    have t := ls_S (K := fun g => f_L_law_L18 S n 16 64 k (nI (6 * (i + 1))) g) (Z := fun g => some (.inl (0, g), 0, 0)) j (b_may (n := n) q ok (S.2 (6 * i + 1)) (S.2 (6 * i + 2)) (S.2 (6 * i + 3)) (by omega)) ih
    exact t
  refine gd_ite (fun _ => ?_) (fun _ => ?_)
  · simp only [s1, s2, s3, v6, Option.bind_some]
    have t := ls_S (K := fun g => f_L_law_L18 S n 16 64 k (nI (6 * (i + 1))) g) (Z := fun g => some (.inl (0, g), 0, 0)) j (b_by (n := n) q ok (S.2 (6 * i + 1)) (S.2 (6 * i + 2)) (S.2 (6 * i + 3)) (by omega)) ih
    exact t
  refine gd_ite (fun _ => ?_) (fun _ => ?_)
  · simp only [s1, s2, s3, v6, Option.bind_some]
    have t := ls_S (K := fun g => f_L_law_L18 S n 16 64 k (nI (6 * (i + 1))) g) (Z := fun g => some (.inl (0, g), 0, 0)) j (b_ways (n := n) q ok (S.2 (6 * i + 1)) (S.2 (6 * i + 2)) (S.2 (6 * i + 3)) (by omega)) ih
    exact t
  refine gd_ite (fun _ => ?_) (fun _ => ?_)
  · simp only [s1, s2, v6, Option.bind_some]
    have t := ls_S (K := fun g => f_L_law_L18 S n 16 64 k (nI (6 * (i + 1))) g) (Z := fun g => some (.inl (0, g), 0, 0)) j (b_walk q ok (S.2 (6 * i + 1)) (S.2 (6 * i + 2))) ih
    exact t
  refine gd_ite (fun _ => ?_) (fun _ => ?_)
  · simp only [s1, s2, v6, Option.bind_some]
    have t := ls_S (K := fun g => f_L_law_L18 S n 16 64 k (nI (6 * (i + 1))) g) (Z := fun g => some (.inl (0, g), 0, 0)) j (b_shut (n := n) q ok (S.2 (6 * i + 1)) (S.2 (6 * i + 2)) (by omega)) ih
    exact t
  refine gd_ite (fun _ => ?_) (fun _ => ?_)
  · simp only [s1, s2, s3, v6, Option.bind_some]
    have t := ls_S (K := fun g => f_L_law_L18 S n 16 64 k (nI (6 * (i + 1))) g) (Z := fun g => some (.inl (0, g), 0, 0)) j (b_open (n := n) q ok (S.2 (6 * i + 1)) (S.2 (6 * i + 2)) (S.2 (6 * i + 3)) (by omega)) ih
    exact t
  refine gd_ite (fun _ => ?_) (fun _ => ?_)
  · simp only [s1, v6, Option.bind_some]
    have t := ls_S (K := fun g => f_L_law_L18 S n 16 64 k (nI (6 * (i + 1))) g) (Z := fun g => some (.inl (0, g), 0, 0)) j (b_reach (n := n) q ok (S.2 (6 * i + 1)) (by omega)) ih
    exact t
  refine gd_ite (fun _ => ?_) (fun _ => ?_)
  · simp only [v6, Option.bind_some]
    have t := ls_V (K := fun g => f_L_law_L18 S n 16 64 k (nI (6 * (i + 1))) g) (Z := fun g => some (.inl (0, g), 0, 0)) j (b_shutIn (n := n) q ok  (by omega)) ih
    exact t
  refine gd_ite (fun _ => ?_) (fun _ => ?_)
  · simp only [s1, s2, v6, Option.bind_some]
    have t := ls_G (K := fun g => f_L_law_L18 S n 16 64 k (nI (6 * (i + 1))) g) (Z := fun g => some (.inl (0, g), 0, 0)) j (b_coming (n := n) j l (S.2 (6 * i + 1)) (S.2 (6 * i + 2)) hn) ih
    exact t
  refine gd_ite (fun _ => ?_) (fun _ => ?_)
  · simp only [s1, v6, Option.bind_some]
    have t := ls_G (K := fun g => f_L_law_L18 S n 16 64 k (nI (6 * (i + 1))) g) (Z := fun g => some (.inl (0, g), 0, 0)) j (b_all (n := n) j l (S.2 (6 * i + 1)) hn) ih
    exact t
  refine gd_ite (fun _ => ?_) (fun _ => ?_)
  · simp only [s1, s2, v6, Option.bind_some]
    have t := ls_G (K := fun g => f_L_law_L18 S n 16 64 k (nI (6 * (i + 1))) g) (Z := fun g => some (.inl (0, g), 0, 0)) j (b_first (n := n) j l (S.2 (6 * i + 1)) (S.2 (6 * i + 2)) hn) ih
    exact t
  refine gd_ite (fun _ => ?_) (fun _ => ?_)
  · simp only [s1, s2, s3, v6, Option.bind_some]
    have t := ls_G (K := fun g => f_L_law_L18 S n 16 64 k (nI (6 * (i + 1))) g) (Z := fun g => some (.inl (0, g), 0, 0)) j (b_errands (n := n) j l (S.2 (6 * i + 1)) (S.2 (6 * i + 2)) (S.2 (6 * i + 3)) hn) ih
    exact t
  refine gd_ite (fun _ => ?_) (fun _ => ?_)
  · simp only [v6, Option.bind_some]
    have t := ls_G (K := fun g => f_L_law_L18 S n 16 64 k (nI (6 * (i + 1))) g) (Z := fun g => some (.inl (0, g), 0, 0)) j (b_lost (n := n) j l  hn) ih
    exact t
  refine gd_ite (fun _ => ?_) (fun _ => ?_)
  · simp only [v6, Option.bind_some]
    have t := ls_V (K := fun g => f_L_law_L18 S n 16 64 k (nI (6 * (i + 1))) g) (Z := fun g => some (.inl (0, g), 0, 0)) j (b_stock (n := n) q ok  (by omega)) ih
    exact t
  refine gd_ite (fun _ => ?_) (fun _ => ?_)
  · simp only [v6, Option.bind_some]
    have t := ls_M (K := fun g => f_L_law_L18 S n 16 64 k (nI (6 * (i + 1))) g) (Z := fun g => some (.inl (0, g), 0, 0)) j (b_lasts (n := n) q ok  (by omega)) ih
    exact t
  refine gd_ite (fun _ => ?_) (fun _ => ?_)
  · simp only [s1, v6, Option.bind_some]
    have t := ls_M (K := fun g => f_L_law_L18 S n 16 64 k (nI (6 * (i + 1))) g) (Z := fun g => some (.inl (0, g), 0, 0)) j (b_worth (n := n) q ok (S.2 (6 * i + 1)) (by omega)) ih
    exact t
  refine gd_ite (fun _ => ?_) (fun _ => ?_)
  · simp only [v6, Option.bind_some]
    have t := ls_M (K := fun g => f_L_law_L18 S n 16 64 k (nI (6 * (i + 1))) g) (Z := fun g => some (.inl (0, g), 0, 0)) j (b_spare (n := n) q ok  (by omega)) ih
    exact t
  refine gd_ite (fun _ => ?_) (fun _ => ?_)
  · simp only [v6, Option.bind_some]
    have t := ls_M (K := fun g => f_L_law_L18 S n 16 64 k (nI (6 * (i + 1))) g) (Z := fun g => some (.inl (0, g), 0, 0)) j (b_endless (n := n) q ok  (by omega)) ih
    exact t
  refine gd_ite (fun _ => ?_) (fun _ => ?_)
  · simp only [s1, v6, Option.bind_some]
    have t := ls_M (K := fun g => f_L_law_L18 S n 16 64 k (nI (6 * (i + 1))) g) (Z := fun g => some (.inl (0, g), 0, 0)) j (b_boxes (n := n) q ok (S.2 (6 * i + 1)) (by omega)) ih
    exact t
  refine gd_ite (fun _ => ?_) (fun _ => ?_)
  · simp only [s1, s2, v6, Option.bind_some]
    have t := ls_M (K := fun g => f_L_law_L18 S n 16 64 k (nI (6 * (i + 1))) g) (Z := fun g => some (.inl (0, g), 0, 0)) j (b_judge (n := n) q ok (S.2 (6 * i + 1)) (S.2 (6 * i + 2)) (by omega)) ih
    exact t
  refine gd_ite (fun _ => ?_) (fun _ => ?_)
  · simp only [s1, s2, s3, v6, Option.bind_some]
    have t := ls_M (K := fun g => f_L_law_L18 S n 16 64 k (nI (6 * (i + 1))) g) (Z := fun g => some (.inl (0, g), 0, 0)) j (b_told (n := n) q ok (S.2 (6 * i + 1)) (S.2 (6 * i + 2)) (S.2 (6 * i + 3)) (by omega)) ih
    exact t
  refine gd_ite (fun _ => ?_) (fun _ => ?_)
  · simp only [s1, v6, Option.bind_some]
    have t := ls_S (K := fun g => f_L_law_L18 S n 16 64 k (nI (6 * (i + 1))) g) (Z := fun g => some (.inl (0, g), 0, 0)) j (b_evening (n := n) q ok (S.2 (6 * i + 1)) (by omega)) ih
    exact t
  refine gd_ite (fun _ => ?_) (fun _ => ?_)
  · simp only [v6, Option.bind_some]
    have t := ls_S (K := fun g => f_L_law_L18 S n 16 64 k (nI (6 * (i + 1))) g) (Z := fun g => some (.inl (0, g), 0, 0)) j (b_night' (n := n) q ok  (by omega)) ih
    exact t
  refine gd_ite (fun _ => ?_) (fun _ => ?_)
  · simp only [s1, v6, Option.bind_some]
    have t := ls_S (K := fun g => f_L_law_L18 S n 16 64 k (nI (6 * (i + 1))) g) (Z := fun g => some (.inl (0, g), 0, 0)) j (b_seed q ok (S.2 (6 * i + 1))) ih
    exact t
  refine gd_ite (fun _ => ?_) (fun _ => ?_)
  · simp only [v6, Option.bind_some]
    have t := ls_M (K := fun g => f_L_law_L18 S n 16 64 k (nI (6 * (i + 1))) g) (Z := fun g => some (.inl (0, g), 0, 0)) j (b_image (n := n) q ok  (by omega)) ih
    exact t
  refine gd_ite (fun _ => ?_) (fun _ => ?_)
  · simp only [v6, Option.bind_some]
    have t := ls_S (K := fun g => f_L_law_L18 S n 16 64 k (nI (6 * (i + 1))) g) (Z := fun g => some (.inl (0, g), 0, 0)) j (b_back (n := n) q ok  (by omega)) ih
    exact t
  refine gd_ite (fun _ => ?_) (fun _ => ?_)
  · simp only [s1, v6, Option.bind_some]
    have t := ls_V (K := fun g => f_L_law_L18 S n 16 64 k (nI (6 * (i + 1))) g) (Z := fun g => some (.inl (0, g), 0, 0)) j (b_status (n := n) q ok (S.2 (6 * i + 1)) (by omega)) ih
    exact t
  simp only [v6, Option.bind_some]
  exact ih h D w A j fx_0
