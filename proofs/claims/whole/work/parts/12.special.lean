/-! Texts, System.arraycopy of longs, arrays of arrays. -/
def x_slen (a : Nat) : Option Int32 := if a < 3 then none else (x_tx[a - 3]?).map (fun q => Int32.ofNat q.2.2.2.length)
def x_sch (a : Nat) (i : Int32) : Option Int32 := if a < 3 then none else match x_tx[a - 3]? with
  | some q => if i < 0 ∨ q.2.2.2.length ≤ i.toNatClampNeg then none else some (q.2.2.2.getD i.toNatClampNeg 0)
  | none => none
def x_cpyL (h : xH) (a0 : Nat) (sp : Int32) (a : Nat) (dp n : Int32) : Option xH := match x_at h a0, x_at h a with
  | some (.inl (.long, n0, .inr (.inl f))), some (.inl (.long, n1, .inr (.inl g))) => if sp < 0 ∨ dp < 0 ∨ n < 0 ∨ n0 < sp.toNatClampNeg + n.toNatClampNeg ∨ n1 < dp.toNatClampNeg + n.toNatClampNeg then none else some (h.set (a - 16) (.inl (.long, n1, .inr (.inl (va_cpy f g sp.toNatClampNeg dp.toNatClampNeg n.toNatClampNeg)))))
  | _, _ => none
def x_mnL (h : xH) (N K : Nat) : xH := h ++ [.inl (.array .long, N, .inr (.inr (.inr (.inr (fun i => if i < N then some (h.length + 17 + i) else none)))))] ++ List.replicate N (.inl (.long, K, .inr (.inl (fun _ => 0))))
def x_mnI (h : xH) (N K : Nat) : xH := h ++ [.inl (.array .int, N, .inr (.inr (.inr (.inr (fun i => if i < N then some (h.length + 17 + i) else none)))))] ++ List.replicate N (.inl (.int, K, .inl (fun _ => 0)))
theorem x_inj2 {α β : Type} {a c : α} {b d : β} (h : some (a, b) = some (c, d)) : a = c ∧ b = d := Prod.mk.inj (Option.some.inj h)
theorem x_inj3 {α : Type} {a a' : α} {c c' s s' : Nat} (h : some (a, c, s) = some (a', c', s')) : a = a' ∧ c = c' ∧ s = s' := ⟨(Prod.mk.inj (Option.some.inj h)).1, Prod.mk.inj (Prod.mk.inj (Option.some.inj h)).2⟩
theorem x_inj4 {α β : Type} {a a' : α} {b b' : β} {c c' s s' : Nat} (h : some ((a, b), c, s) = some ((a', b'), c', s')) : a = a' ∧ b = b' ∧ c = c' ∧ s = s' := ⟨(Prod.mk.inj (Prod.mk.inj (Option.some.inj h)).1).1, (Prod.mk.inj (Prod.mk.inj (Option.some.inj h)).1).2, Prod.mk.inj (Prod.mk.inj (Option.some.inj h)).2⟩
def x_max (x y : Int32) : Int32 := if x < y then y else x
def x_min (x y : Int32) : Int32 := if y < x then y else x
section YS
variable {S : Nat × (Nat → Int32)} {M : MI} {h0 h1 h h' : xH} {rv : Option Value} {mc ms pc cells slots : Nat} {ls : List (Nat × Value)} {st : List Value} {a idx : Nat}
theorem y_ldcS (j : Nat) (hj : j < 12) (hq : (x_tx[j]?).map (fun q => (q.1, q.2.1)) = some ((mY M).cls, idx)) (hd : decode (mB M) pc = .ok (.ldc idx, 2)) (kk : Y S M h0 rv h1 mc ms (pc + 2) ls (.ref (3 + j) :: st) h cells slots) : Y S M h0 rv h1 mc ms pc ls st h cells slots := by
  intro l D B σ p e s m args below meth c Qf ρ0 C Rt ρ κ H locs lsc hr hle hI hS hl hkl hks
  obtain ⟨q, hq1, hq2⟩ := Option.map_eq_some_iff.mp hq
  obtain ⟨t, hR, -⟩ := C.2.2.2.2.2.1.2.2.2.2.1 j q hq1
  have hok : k_v h.length (.ref (3 + j)) := by show 3 + j < h.length + 16; omega
  have K := kk l D B σ p e s m args below meth c Qf ρ0 C Rt ρ κ H locs lsc hr hle hI hS hl hkl (ks_c hok hks)
  have e9 : x_v σ ρ (.ref (3 + j)) = .ref (σ (3 + j)) := by show Value.ref (x_r σ ρ (3 + j)) = _; unfold x_r; rw [if_pos (by omega)]
  rw [List.map_cons, e9] at K
  obtain ⟨q1, q2, q3⟩ := q
  cases hq2
  exact va_ldcS C.1 C.2.1 C.2.2.2.1 hR hd K
theorem y_max {x y : Int32} (hw : Cond.methodLink (mY M).cls idx Lib.Math.max.name ∈ x_WT) (hF : 1 ≤ mF M) (hW : 30 ≤ mW M) (h8 : (st.map fun v => v.category).sum ≤ 8) (hf : cells ≤ mc ∧ slots ≤ ms) (hd : decode (mB M) pc = .ok (.invokestatic idx, 3)) (kk : Y S M h0 rv h1 mc ms (pc + 3) ls (.int (x_max x y) :: st) h cells slots) : Y S M h0 rv h1 mc ms pc ls (.int y :: .int x :: st) h cells slots := by
  intro l D B σ p e s m args below meth c Qf ρ0 C Rt ρ κ H locs lsc hr hle hI hS hl hkl hks
  obtain ⟨hx, hb, hml, hown, hts, hFS, hB, hnm⟩ := id C
  exact va_mmax hx hb (by rw [hml, hl.1]) hown (hts _ hw) (hts _ (x_wt (tb 639 (by decide +kernel)) rfl)) (hts _ (x_wt (tb 14 (by decide +kernel)) rfl)) (hts _ (x_wt (tb 640 (by decide +kernel)) rfl)) hF (by rw [x_w8]; show _ + 13 ≤ mW M; omega) hf.1 hf.2 hd (kk l D B σ p e s m args below meth c Qf ρ0 C Rt ρ κ H locs lsc hr hle hI hS hl hkl (ks_c (by exact True.intro) (ks_t (ks_t hks))))
theorem y_min {x y : Int32} (hw : Cond.methodLink (mY M).cls idx Lib.Math.min.name ∈ x_WT) (hF : 1 ≤ mF M) (hW : 30 ≤ mW M) (h8 : (st.map fun v => v.category).sum ≤ 8) (hf : cells ≤ mc ∧ slots ≤ ms) (hd : decode (mB M) pc = .ok (.invokestatic idx, 3)) (kk : Y S M h0 rv h1 mc ms (pc + 3) ls (.int (x_min x y) :: st) h cells slots) : Y S M h0 rv h1 mc ms pc ls (.int y :: .int x :: st) h cells slots := by
  intro l D B σ p e s m args below meth c Qf ρ0 C Rt ρ κ H locs lsc hr hle hI hS hl hkl hks
  obtain ⟨hx, hb, hml, hown, hts, hFS, hB, hnm⟩ := id C
  exact va_mmin hx hb (by rw [hml, hl.1]) hown (hts _ hw) (hts _ (x_wt (tb 710 (by decide +kernel)) rfl)) (hts _ (x_wt (tb 14 (by decide +kernel)) rfl)) (hts _ (x_wt (tb 711 (by decide +kernel)) rfl)) hF (by rw [x_w8]; show _ + 13 ≤ mW M; omega) hf.1 hf.2 hd (kk l D B σ p e s m args below meth c Qf ρ0 C Rt ρ κ H locs lsc hr hle hI hS hl hkl (ks_c (by exact True.intro) (ks_t (ks_t hks))))
theorem x_cpyL.spec {a0 : Nat} {sp dp n : Int32} (hg : x_cpyL h a0 sp a dp n = some h') : ∃ (n0 n1 : Nat) (f g : Nat → Int64), 16 ≤ a0 ∧ h[a0 - 16]? = some (.inl (.long, n0, .inr (.inl f))) ∧ 16 ≤ a ∧ h[a - 16]? = some (.inl (.long, n1, .inr (.inl g))) ∧ ¬ sp < 0 ∧ ¬ dp < 0 ∧ ¬ n < 0 ∧ sp.toNatClampNeg + n.toNatClampNeg ≤ n0 ∧ dp.toNatClampNeg + n.toNatClampNeg ≤ n1 ∧ h' = h.set (a - 16) (.inl (.long, n1, .inr (.inl (va_cpy f g sp.toNatClampNeg dp.toNatClampNeg n.toNatClampNeg)))) := by
  unfold x_cpyL at hg
  split at hg
  next n0 f n1 g h9 h8 =>
    by_cases hc : sp < 0 ∨ dp < 0 ∨ n < 0 ∨ n0 < sp.toNatClampNeg + n.toNatClampNeg ∨ n1 < dp.toNatClampNeg + n.toNatClampNeg
    · rw [if_pos hc] at hg; cases hg
    · rw [if_neg hc] at hg
      obtain ⟨g1, g2⟩ := x_at.spec h9
      obtain ⟨g3, g4⟩ := x_at.spec h8
      refine ⟨n0, n1, f, g, g1, g2, g3, g4, fun q => hc (Or.inl q), fun q => hc (Or.inr (Or.inl q)), fun q => hc (Or.inr (Or.inr (Or.inl q))), ?_, ?_, (Option.some.inj hg).symm⟩
      · exact Nat.not_lt.mp fun q => hc (Or.inr (Or.inr (Or.inr (Or.inl q))))
      · exact Nat.not_lt.mp fun q => hc (Or.inr (Or.inr (Or.inr (Or.inr q))))
  next => cases hg
theorem y_cpyL {a0 : Nat} {sp dp n : Int32} (hg : x_cpyL h a0 sp a dp n = some h') (hw : Cond.methodLink (mY M).cls idx arraycopyName ∈ x_WT) (hF : 1 ≤ mF M) (hW : 40 ≤ mW M) (h8 : (st.map fun v => v.category).sum ≤ 8) (hd : decode (mB M) pc = .ok (.invokestatic idx, 3)) (kk : Y S M h0 rv h1 mc ms (pc + 3) ls st h' cells slots) : Y S M h0 rv h1 mc ms pc ls (.int n :: .int dp :: .ref a :: .int sp :: .ref a0 :: st) h cells slots := by
  intro l D B σ p e s m args below meth c Qf ρ0 C Rt ρ κ H locs lsc hr hle hI hS hl hkl hks
  obtain ⟨hx, hb, hml, hown, hts, hFS, hB, hnm⟩ := id C
  obtain ⟨n0, n1, f, g, ha0, hh0, ha, hh, q1, q2, q3, q4, q5, rfl⟩ := x_cpyL.spec hg
  have hget := x_w.get (σ := σ) (ρ := ρ) (κ := κ) hh
  have hget0 := x_w.get (σ := σ) (ρ := ρ) (κ := κ) hh0
  have hlen : (h.set (a - 16) (.inl (.long, n1, .inr (.inl (va_cpy f g sp.toNatClampNeg dp.toNatClampNeg n.toNatClampNeg))))).length = h.length := List.length_set
  show W p l e _ s m args below meth c H locs cells slots Qf (F0 m pc lsc (.int n :: .int dp :: .ref (x_r σ ρ a) :: .int sp :: .ref (x_r σ ρ a0) :: st.map (x_v σ ρ)))
  rw [x_r.own ha, x_r.own ha0]
  refine va_copyl hx hb (by rw [hml, hl.1]) hown (hts _ hw) (hts _ (x_wt (tb 335 (by decide +kernel)) rfl)) (hts _ (x_wt (tb 334 (by decide +kernel)) rfl)) (hts _ (x_wt (tb 9 (by decide +kernel)) rfl)) ((hI.tys hh0).app (hI.tys hh)) hI.1 hI.2.1 hS (a0 - 16) (a - 16) 0 1 (ty := .long) hget0 hget rfl rfl rfl q1 q2 q3 q4 q5 (fun _ _ => rfl) hF ?_ hd (fun H1 locs1 hP1 hD1 hS1 => ?_)
  · rw [x_w8]
    have e9 : nativeFrameWords "java/lang/System" "arraycopy" 5 = 7 := by decide
    rw [e9]
    show _ ≤ mW M
    omega
  · exact kk l D B σ p e s m args below meth c Qf ρ0 C Rt ρ κ H1 locs1 lsc hr (by rw [hlen]; exact hle) (hI.put hh (by exact True.intro) (fun ty a h => by cases h; exact ⟨_, rfl⟩) hP1 hD1) hS1 hl (by rw [hlen]; exact hkl) (by rw [hlen]; exact ks_t (ks_t (ks_t (ks_t (ks_t hks)))))
end YS
