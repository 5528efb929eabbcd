/-! night, whole. -/
theorem b_night' {h : xH} {D : DS} {w : Nat → Nat} {A : AS} {n : Nat} (q : CI h D A) (ok : AOk A) (hn : 20 ≤ n) : BSt h D w A (f_X6_night n h 16) (fun g => f_X7_night n g 64) := b_night q ok (ok_blow ok.H _ (Nat.le_refl _)) hn
