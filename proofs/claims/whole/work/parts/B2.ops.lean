/-! One call on both sides: the same answer, the same state after. -/
def refC (h : xH) (p : Int32) : Option (Int32 × xH) := (x_ob h 16 6).bind fun _ => (f_X6_refuse h 16 p).bind fun q3 => some (q3.1, q3.2)
def refM7 (h : xH) (p : Int32) : Option (Int32 × xH) := (x_ob h 64 7).bind fun _ => (f_X7_refuse h 64 p).bind fun q3 => some (q3.1, q3.2)
def BSt (h : xH) (D : DS) (w : Nat → Nat) (A : AS) (X : Option (Int32 × xH)) (Y : xH → Option (Int32 × xH)) : Prop := ∃ r A', CSt h D X r A' ∧ (∀ g, MIn g w A → MSt g w (Y g) r A') ∧ AOk A'
section Bop
variable {h : xH} {D : DS} {w : Nat → Nat} {A : AS} {X : Option (Int32 × xH)} {Y : xH → Option (Int32 × xH)} {n : Nat}
theorem AOk.ref (ok : AOk A) (i : Nat) : AOk (ref1 A i) := ok
theorem b_ref (q : CI h D A) (ok : AOk A) {i : Nat} (hi : i < 5) {p : Int32} (hp : -2 - p = nI i) (hp2 : -p = nI (2 + i)) (eX : X = refC h p) (eY : ∀ g, MIn g w A → Y g = refM7 g p) : BSt h D w A X Y := by
  refine ⟨p, ref1 A i, ?_, fun g qg => ?_, ok.ref i⟩
  · rw [eX]; exact c_refuse q hi hp
  · rw [eY g qg]; exact m_refuse qg hi hp2
theorem b_ref2 (q : CI h D A) (ok : AOk A) (eX : X = refC h (-2)) (eY : ∀ g, MIn g w A → Y g = refM7 g (-2)) : BSt h D w A X Y := b_ref q ok (i := 0) (by decide) (by decide) (by decide) eX eY
theorem b_ref3 (q : CI h D A) (ok : AOk A) (eX : X = refC h (-3)) (eY : ∀ g, MIn g w A → Y g = refM7 g (-3)) : BSt h D w A X Y := b_ref q ok (i := 1) (by decide) (by decide) (by decide) eX eY
theorem b_ref4 (q : CI h D A) (ok : AOk A) (eX : X = refC h (-4)) (eY : ∀ g, MIn g w A → Y g = refM7 g (-4)) : BSt h D w A X Y := b_ref q ok (i := 2) (by decide) (by decide) (by decide) eX eY
theorem b_ref5 (q : CI h D A) (ok : AOk A) (eX : X = refC h (-5)) (eY : ∀ g, MIn g w A → Y g = refM7 g (-5)) : BSt h D w A X Y := b_ref q ok (i := 3) (by decide) (by decide) (by decide) eX eY
theorem b_ref6 (q : CI h D A) (ok : AOk A) (eX : X = refC h (-6)) (eY : ∀ g, MIn g w A → Y g = refM7 g (-6)) : BSt h D w A X Y := b_ref q ok (i := 4) (by decide) (by decide) (by decide) eX eY
theorem b_val (q : CI h D A) (ok : AOk A) (r : Int32) (eX : X = some (r, h)) (eY : ∀ g, MIn g w A → Y g = some (r, g)) : BSt h D w A X Y := ⟨r, A, CSt.id q eX, fun g qg => MSt.here qg (eY g qg), ok⟩
theorem b_now {r : Int32} {H : HS} {h1 : xH} (q : CI h D A) (ok : AOk A) (hH : HOk H) (eX : X = some (r, h1)) (q1 : HAt h1 17 H) (f1 : FrB 17 5 h h1) (eY : ∀ g, MIn g w A → ∃ g1, Y g = some (r, g1) ∧ MH g1 64 H ∧ FrH 64 g g1) (hle : hD (zH A) ≤ hD H := by first | exact Nat.le_refl _ | exact Nat.le_succ _) : BSt h D w A X Y := by
  obtain ⟨c1, c2⟩ := q.now q1 f1
  refine ⟨r, setH A H, ⟨h1, eX, c1, c2⟩, fun g qg => ?_, hH, ok.2.1, ok.2.2.1, ok.2.2.2.1, fun j hj d hd e => Nat.lt_of_lt_of_le (ok.2.2.2.2 j hj d hd e) hle⟩
  obtain ⟨g1, e1, m1, f⟩ := eY g qg
  obtain ⟨d1, d2⟩ := qg.now m1 f
  exact ⟨g1, e1, d1, d2⟩
theorem AOk.H (ok : AOk A) : HOk (zH A) := ok.1
theorem sIs_no {k : Nat} {x : Int32} (c : ¬ sIs k x = true) : sIs k x = false := by cases e : sIs k x with | false => rfl | true => exact absurd e c
theorem c_is8 {g : xH} (x : Int32) : f_X6_isShelf g x = some (bI (sIs 8 x)) := by
  unfold f_X6_isShelf sIs
  by_cases h1 : x < 0
  · rw [if_pos h1, decide_eq_true h1]; rfl
  · rw [if_neg h1, decide_eq_false h1]
    by_cases h2 : (8 : Int32) ≤ x
    · rw [if_pos h2, decide_eq_true (show nI 8 ≤ x from h2)]; rfl
    · rw [if_neg h2, decide_eq_false (show ¬ nI 8 ≤ x from h2)]; rfl
theorem c_isR {g : xH} (x : Int32) : f_X6_isRoom g x = some (bI (sIs 8 x)) := c_is8 (g := g) x
theorem c_isK {g : xH} (x : Int32) : f_X6_isKind g x = some (bI (sIs 6 x)) := by
  unfold f_X6_isKind sIs
  by_cases h1 : x < 0
  · rw [if_pos h1, decide_eq_true h1]; rfl
  · rw [if_neg h1, decide_eq_false h1]
    by_cases h2 : (6 : Int32) ≤ x
    · rw [if_pos h2, decide_eq_true (show nI 6 ≤ x from h2)]; rfl
    · rw [if_neg h2, decide_eq_false (show ¬ nI 6 ≤ x from h2)]; rfl
theorem m_is {g : xH} {hi : Int64} {k : Nat} (hk : k < 2 ^ 31) (e : hi.toInt = (k : Int) - 1) (x : Int32) : f_X7_in g x.toInt64 0 hi = some (bI (sIs k x)) := by
  rw [m_in (a := 0) (c := (k : Int) - 1) rfl e, sIs_toInt hk]
theorem m_is8 {g : xH} (x : Int32) : f_X7_in g x.toInt64 0 7 = some (bI (sIs 8 x)) := m_is (by decide) (by decide) x
theorem m_is6 {g : xH} (x : Int32) : f_X7_in g x.toInt64 0 5 = some (bI (sIs 6 x)) := m_is (by decide) (by decide) x
theorem m_isR {g : xH} (x : Int32) : f_X7_isRoom g x.toInt64 = some (bI (sIs 8 x)) := by
  unfold f_X7_isRoom
  rw [m_is8, Option.bind_some, x_bool_bI, Option.bind_some]
/-- one -/
theorem b_one (q : CI h D A) (ok : AOk A) (p : Int32) : BSt h D w A (f_X6_one h 16 p) (fun g => f_X7_one g 64 p) := by
  have h4 := ok.H.2.1
  by_cases c : sIs 8 p = true
  · obtain ⟨j, hj, rfl⟩ := (sIs_iff (by decide) p).mp c
    by_cases cP : hP (zH A) < 4
    · obtain ⟨h1, e1, q1, f1⟩ := h_addOne q.H cP (nI j)
      refine b_now (r := nI (hP (zH A))) q ok (ok_addP ok.H cP hj) ?_ q1 f1 (fun g qg => ?_)
      · unfold f_X6_one
        rw [c_isR, Option.bind_some, c, if_neg (show ¬ bI true = 0 by decide), q.g0, Option.bind_some, q.H.P, Option.bind_some, if_pos (show nI (hP (zH A)) < 4 from nI_lt (b := 4) cP (by decide)), Option.bind_some, q.H.ob, Option.bind_some, e1, Option.bind_some]
      · exact m_addP qg.H cP hj
    · refine b_ref6 q ok ?_ (fun g qg => ?_)
      · unfold f_X6_one
        rw [c_isR, Option.bind_some, c, if_neg (show ¬ bI true = 0 by decide), q.g0, Option.bind_some, q.H.P, Option.bind_some, if_neg (show ¬ nI (hP (zH A)) < 4 from nI_nlt (b := 4) (by omega) (by omega))]
        rfl
      · show f_X7_one g 64 _ = _
        unfold f_X7_one
        rw [m_isR, Option.bind_some, c, if_neg (show ¬ bI true = 0 by decide), qg.H.P, Option.bind_some, if_pos (show nI (hP (zH A)) = 4 by rw [show hP (zH A) = 4 by omega]; rfl)]
        rfl
  · refine b_ref2 q ok ?_ (fun g qg => ?_)
    · unfold f_X6_one
      rw [c_isR, Option.bind_some, sIs_no c, if_pos (show bI false = 0 from rfl)]
      rfl
    · show f_X7_one g 64 _ = _
      unfold f_X7_one
      rw [m_isR, Option.bind_some, sIs_no c, if_pos (show bI false = 0 from rfl)]
      rfl
/-- seed -/
theorem ok_S (ok : HOk (zH A)) (x : Int32) : HOk (sSeed (zH A) x) := ok
theorem b_seed (q : CI h D A) (ok : AOk A) (p : Int32) : BSt h D w A (f_X6_seed h 16 p) (fun g => f_X7_seed g 64 p) := by
  obtain ⟨h1, e1, q1, f1⟩ := q.H.putS p
  refine b_now (r := hS (zH A)) q ok (ok_S ok.H p) ?_ q1 f1 (fun g qg => ?_)
  · unfold f_X6_seed
    rw [q.g0, Option.bind_some, q.H.S, Option.bind_some, Option.bind_some, e1, Option.bind_some]
  · obtain ⟨g1, e2, q2, f2⟩ := qg.H.putS p
    refine ⟨g1, ?_, q2, f2⟩
    show f_X7_seed g 64 _ = _
    unfold f_X7_seed
    rw [qg.H.S, Option.bind_some, e2, Option.bind_some]
/-- move -/
theorem b_move (q : CI h D A) (ok : AOk A) (p r : Int32) : BSt h D w A (f_X6_move h 16 p r) (fun g => f_X7_move g 64 p r) := by
  have h4 := ok.H.2.1
  by_cases c : sIs (hP (zH A)) p = true
  · obtain ⟨j, hj, rfl⟩ := (sIs_iff (by omega) p).mp c
    by_cases c2 : sIs 8 r = true
    · obtain ⟨k, hk, rfl⟩ := (sIs_iff (by decide) r).mp c2
      obtain ⟨h1, e1, q1, f1⟩ := q.H.stR h4 hj (nI k)
      refine b_now (r := hR (zH A) j) q ok (ok_Rm ok.H hk) ?_ q1 f1 (fun g qg => ?_)
      · unfold f_X6_move
        rw [q.g0, Option.bind_some, q.H.ob, Option.bind_some, h_hasOne q.H, Option.bind_some, c, if_neg (show ¬ bI true = 0 by decide), c_isR, Option.bind_some, c2, if_neg (show ¬ bI true = 0 by decide), Option.bind_some, q.H.rr, Option.bind_some, q.H.ldR ok.H hj, Option.bind_some, Option.bind_some, q.H.rr, Option.bind_some, e1, Option.bind_some]
      · obtain ⟨g1, e2, q2, f2⟩ := qg.H.stR h4 hj (nI k)
        refine ⟨g1, ?_, q2, f2⟩
        show f_X7_move g 64 _ _ = _
        unfold f_X7_move
        rw [qg.ob, Option.bind_some, m_isOne qg.H ok.H, Option.bind_some, c, if_neg (show ¬ bI true = 0 by decide), m_isR, Option.bind_some, c2, if_neg (show ¬ bI true = 0 by decide), qg.H.rr, Option.bind_some, qg.H.ldR ok.H hj, Option.bind_some, Option.bind_some, e2, Option.bind_some]
    · refine b_ref2 q ok ?_ (fun g qg => ?_)
      · unfold f_X6_move
        rw [q.g0, Option.bind_some, q.H.ob, Option.bind_some, h_hasOne q.H, Option.bind_some, c, if_neg (show ¬ bI true = 0 by decide), c_isR, Option.bind_some, sIs_no c2, if_pos (show bI false = 0 from rfl)]
        rfl
      · show f_X7_move g 64 _ _ = _
        unfold f_X7_move
        rw [qg.ob, Option.bind_some, m_isOne qg.H ok.H, Option.bind_some, c, if_neg (show ¬ bI true = 0 by decide), m_isR, Option.bind_some, sIs_no c2, if_pos (show bI false = 0 from rfl), ← qg.ob]
        rfl
  · refine b_ref2 q ok ?_ (fun g qg => ?_)
    · unfold f_X6_move
      rw [q.g0, Option.bind_some, q.H.ob, Option.bind_some, h_hasOne q.H, Option.bind_some, sIs_no c, if_pos (show bI false = 0 from rfl)]
      rfl
    · show f_X7_move g 64 _ _ = _
      unfold f_X7_move refM7
      rw [qg.ob, Option.bind_some, m_isOne qg.H ok.H, Option.bind_some, sIs_no c, if_pos (show bI false = 0 from rfl), Option.bind_some]
end Bop
