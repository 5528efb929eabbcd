/-! Rows over the own cells. -/
def x_at (h : xH) (a : Nat) : Option xE := if a < 16 then none else h[a - 16]?
theorem x_at.spec {h : xH} {a : Nat} {e : xE} (he : x_at h a = some e) : 16 ≤ a ∧ h[a - 16]? = some e := by
  unfold x_at at he
  by_cases ha : a < 16
  · rw [if_pos ha] at he; cases he
  · rw [if_neg ha] at he; exact ⟨by omega, he⟩
theorem x_r.own {σ ρ : Nat → Nat} {a : Nat} (ha : 16 ≤ a) : x_r σ ρ a = ρ (a - 16) := if_neg (by omega)
def x_get (h : xH) (a ci k : Nat) : Option Value := match x_at h a with
  | some (.inr o) => if o.1 = ci then o.2[k]? else none
  | _ => none
def x_put (h : xH) (a ci k : Nat) (v : Value) : Option xH := match x_at h a with
  | some (.inr o) => if o.1 = ci ∧ k < o.2.length then some (h.set (a - 16) (.inr (ci, o.2.set k v))) else none
  | _ => none
def x_gI (h : xH) (a ci k : Nat) : Option Int32 := match x_get h a ci k with
  | some (.int x) => some x
  | _ => none
def x_gR (h : xH) (a ci k : Nat) : Option Nat := match x_get h a ci k with
  | some (.ref x) => some x
  | _ => none
def x_ob (h : xH) (a ci : Nat) : Option Unit := match x_at h a with
  | some (.inr o) => if o.1 = ci then some () else none
  | _ => none
def x_ld (h : xH) (a : Nat) (i : Int32) : Option Int32 := match x_at h a with
  | some (.inl (.int, n, .inl f)) => if i < 0 ∨ n ≤ i.toNatClampNeg then none else some (f i.toNatClampNeg)
  | _ => none
def x_st (h : xH) (a : Nat) (i x : Int32) : Option xH := match x_at h a with
  | some (.inl (.int, n, .inl f)) => if i < 0 ∨ n ≤ i.toNatClampNeg then none else some (h.set (a - 16) (.inl (.int, n, .inl (upd f i.toNatClampNeg x))))
  | _ => none
def x_ldL (h : xH) (a : Nat) (i : Int32) : Option Int64 := match x_at h a with
  | some (.inl (.long, n, .inr (.inl f))) => if i < 0 ∨ n ≤ i.toNatClampNeg then none else some (f i.toNatClampNeg)
  | _ => none
def x_stL (h : xH) (a : Nat) (i : Int32) (x : Int64) : Option xH := match x_at h a with
  | some (.inl (.long, n, .inr (.inl f))) => if i < 0 ∨ n ≤ i.toNatClampNeg then none else some (h.set (a - 16) (.inl (.long, n, .inr (.inl (vp_updL f i.toNatClampNeg x)))))
  | _ => none
def x_ldQ (h : xH) (a : Nat) (i : Int32) : Option Nat := match x_at h a with
  | some (.inl (ty, n, .inr (.inr (.inr (.inr f))))) => if ty.isReference = true then (if i < 0 ∨ n ≤ i.toNatClampNeg then none else f i.toNatClampNeg) else none
  | _ => none
def x_len (h : xH) (a : Nat) : Option Int32 := match x_at h a with
  | some (.inl q) => some (Int32.ofNat q.2.1)
  | _ => none
theorem x_get.spec {h : xH} {a ci k : Nat} {v : Value} (hg : x_get h a ci k = some v) : ∃ fs : List Value, 16 ≤ a ∧ h[a - 16]? = some (.inr (ci, fs)) ∧ fs[k]? = some v := by
  unfold x_get at hg
  split at hg
  next o ho =>
    by_cases hc : o.1 = ci
    · rw [if_pos hc] at hg
      obtain ⟨h1, h2⟩ := x_at.spec ho
      subst hc
      exact ⟨o.2, h1, h2, hg⟩
    · rw [if_neg hc] at hg; cases hg
  next => cases hg
theorem x_gI.spec {h : xH} {a ci k : Nat} {x : Int32} (hg : x_gI h a ci k = some x) : x_get h a ci k = some (.int x) := by
  unfold x_gI at hg
  split at hg
  next y hy => cases hg; exact hy
  next => cases hg
theorem x_gR.spec {h : xH} {a ci k : Nat} {x : Nat} (hg : x_gR h a ci k = some x) : x_get h a ci k = some (.ref x) := by
  unfold x_gR at hg
  split at hg
  next y hy => cases hg; exact hy
  next => cases hg
theorem x_put.spec {h h' : xH} {a ci k : Nat} {v : Value} (hg : x_put h a ci k v = some h') : ∃ fs : List Value, 16 ≤ a ∧ h[a - 16]? = some (.inr (ci, fs)) ∧ k < fs.length ∧ h' = h.set (a - 16) (.inr (ci, fs.set k v)) := by
  unfold x_put at hg
  split at hg
  next o ho =>
    by_cases hc : o.1 = ci ∧ k < o.2.length
    · rw [if_pos hc] at hg
      obtain ⟨h1, h2⟩ := x_at.spec ho
      obtain ⟨hc1, hc2⟩ := hc
      subst hc1
      exact ⟨o.2, h1, h2, hc2, (Option.some.inj hg).symm⟩
    · rw [if_neg hc] at hg; cases hg
  next => cases hg
theorem x_ob.spec {h : xH} {a ci : Nat} {u : Unit} (hg : x_ob h a ci = some u) : ∃ fs : List Value, 16 ≤ a ∧ h[a - 16]? = some (.inr (ci, fs)) := by
  unfold x_ob at hg
  split at hg
  next o ho =>
    by_cases hc : o.1 = ci
    · obtain ⟨h1, h2⟩ := x_at.spec ho
      subst hc
      exact ⟨o.2, h1, h2⟩
    · rw [if_neg hc] at hg; cases hg
  next => cases hg
theorem x_ld.spec {h : xH} {a : Nat} {i x : Int32} (hg : x_ld h a i = some x) : ∃ (n : Nat) (f : Nat → Int32), 16 ≤ a ∧ h[a - 16]? = some (.inl (.int, n, .inl f)) ∧ vp_in i n ∧ f i.toNatClampNeg = x := by
  unfold x_ld at hg
  split at hg
  next n f ho =>
    by_cases hc : i < 0 ∨ n ≤ i.toNatClampNeg
    · rw [if_pos hc] at hg; cases hg
    · rw [if_neg hc] at hg
      obtain ⟨h1, h2⟩ := x_at.spec ho
      exact ⟨n, f, h1, h2, hc, Option.some.inj hg⟩
  next => cases hg
theorem x_st.spec {h h' : xH} {a : Nat} {i x : Int32} (hg : x_st h a i x = some h') : ∃ (n : Nat) (f : Nat → Int32), 16 ≤ a ∧ h[a - 16]? = some (.inl (.int, n, .inl f)) ∧ vp_in i n ∧ h' = h.set (a - 16) (.inl (.int, n, .inl (upd f i.toNatClampNeg x))) := by
  unfold x_st at hg
  split at hg
  next n f ho =>
    by_cases hc : i < 0 ∨ n ≤ i.toNatClampNeg
    · rw [if_pos hc] at hg; cases hg
    · rw [if_neg hc] at hg
      obtain ⟨h1, h2⟩ := x_at.spec ho
      exact ⟨n, f, h1, h2, hc, (Option.some.inj hg).symm⟩
  next => cases hg
theorem x_ldL.spec {h : xH} {a : Nat} {i : Int32} {x : Int64} (hg : x_ldL h a i = some x) : ∃ (n : Nat) (f : Nat → Int64), 16 ≤ a ∧ h[a - 16]? = some (.inl (.long, n, .inr (.inl f))) ∧ vp_in i n ∧ f i.toNatClampNeg = x := by
  unfold x_ldL at hg
  split at hg
  next n f ho =>
    by_cases hc : i < 0 ∨ n ≤ i.toNatClampNeg
    · rw [if_pos hc] at hg; cases hg
    · rw [if_neg hc] at hg
      obtain ⟨h1, h2⟩ := x_at.spec ho
      exact ⟨n, f, h1, h2, hc, Option.some.inj hg⟩
  next => cases hg
theorem x_stL.spec {h h' : xH} {a : Nat} {i : Int32} {x : Int64} (hg : x_stL h a i x = some h') : ∃ (n : Nat) (f : Nat → Int64), 16 ≤ a ∧ h[a - 16]? = some (.inl (.long, n, .inr (.inl f))) ∧ vp_in i n ∧ h' = h.set (a - 16) (.inl (.long, n, .inr (.inl (vp_updL f i.toNatClampNeg x)))) := by
  unfold x_stL at hg
  split at hg
  next n f ho =>
    by_cases hc : i < 0 ∨ n ≤ i.toNatClampNeg
    · rw [if_pos hc] at hg; cases hg
    · rw [if_neg hc] at hg
      obtain ⟨h1, h2⟩ := x_at.spec ho
      exact ⟨n, f, h1, h2, hc, (Option.some.inj hg).symm⟩
  next => cases hg
theorem x_ldQ.spec {h : xH} {a x : Nat} {i : Int32} (hg : x_ldQ h a i = some x) : ∃ (ty : FieldType) (n : Nat) (f : Nat → Option Nat), 16 ≤ a ∧ h[a - 16]? = some (.inl (ty, n, .inr (.inr (.inr (.inr f))))) ∧ ty.isReference = true ∧ vp_in i n ∧ f i.toNatClampNeg = some x := by
  unfold x_ldQ at hg
  split at hg
  next ty n f ho =>
    by_cases ht : ty.isReference = true
    · rw [if_pos ht] at hg
      by_cases hc : i < 0 ∨ n ≤ i.toNatClampNeg
      · rw [if_pos hc] at hg; cases hg
      · rw [if_neg hc] at hg
        obtain ⟨h1, h2⟩ := x_at.spec ho
        exact ⟨ty, n, f, h1, h2, ht, hc, hg⟩
    · rw [if_neg ht] at hg; cases hg
  next => cases hg
theorem x_len.spec {h : xH} {a : Nat} {x : Int32} (hg : x_len h a = some x) : ∃ (ty : FieldType) (q : vp_A), 16 ≤ a ∧ h[a - 16]? = some (.inl (ty, q)) ∧ Int32.ofNat q.1 = x := by
  unfold x_len at hg
  split at hg
  next q ho =>
    obtain ⟨h1, h2⟩ := x_at.spec ho
    exact ⟨q.1, q.2, h1, h2, Option.some.inj hg⟩
  next => cases hg
/-- a field's entry in a class's pool -/
def x_fld (own : String) (idx ci k : Nat) : Prop := ∃ (C : String) (T : u_T) (N : Nat), vwCl[ci]? = some (C, T, N) ∧ k < N ∧ (∀ w ∈ u_ws C T N, w ∈ x_WT) ∧ (Cond.fieldLink own idx (T k).1 (T k).2.1 (T k).2.2.1 ∈ x_WT ∨ ∃ host : String, Cond.fieldLinkNest own idx (T k).1 (T k).2.1 (T k).2.2.1 host ∈ x_NW)
def x_cls (ci : Nat) (C : String) (T : u_T) (N : Nat) (ty0 : Nat → FieldType) : Prop := vwCl[ci]? = some (C, T, N) ∧ (∀ w ∈ u_ws C T N, w ∈ x_WT) ∧ (∀ k, k < N → parseFieldDescriptor (T k).2.2.1 = some (ty0 k)) ∧ ∀ a, a < N → ∀ b, b < N → a ≠ b → (T a).2.1 ≠ (T b).2.1
def x_fldP (own : String) (idx ci k : Nat) (ty : FieldType) (fin : Bool) : Prop := ∃ (C : String) (T : u_T) (N : Nat) (ty0 : Nat → FieldType), x_cls ci C T N ty0 ∧ k < N ∧ ty0 k = ty ∧ (T k).2.2.2 = fin ∧ (T k).1 = C ∧ (fin = true → C = own) ∧ (Cond.fieldLink own idx (T k).1 (T k).2.1 (T k).2.2.1 ∈ x_WT ∨ (fin = false ∧ ∃ host : String, Cond.fieldLinkNest own idx (T k).1 (T k).2.1 (T k).2.2.1 host ∈ x_NW))
section YH
variable {S : Nat × (Nat → Int32)} {M : MI} {h0 h1 h h' : xH} {rv : Option Value} {mc ms pc cells slots : Nat} {ls : List (Nat × Value)} {st : List Value} {a ci k idx : Nat}
theorem y_get {v : Value} (hf : x_fld (mY M).cls idx ci k) (hg : x_get h a ci k = some v) (hd : decode (mB M) pc = .ok (.getfield idx, 3)) (kk : Y S M h0 rv h1 mc ms (pc + 3) ls (v :: st) h cells slots) : Y S M h0 rv h1 mc ms pc ls (.ref a :: st) h cells slots := by
  intro l D B σ p e s m args below meth c Qf ρ0 C Rt ρ κ H locs lsc hr hle hI hS hl hkl hks
  obtain ⟨Cn, T, N, hc, hk, hin, hw⟩ := hf
  obtain ⟨fs, ha, hh, hv⟩ := x_get.spec hg
  have hok : k_v h.length v := by have := hI.2.2.2.2 _ _ hh; exact this v (List.mem_of_getElem? hv)
  have K := kk l D B σ p e s m args below meth c Qf ρ0 C Rt ρ κ H locs lsc hr hle hI hS hl hkl (ks_c hok (ks_t hks))
  have hget := x_w.get (σ := σ) (ρ := ρ) (κ := κ) hh
  show W p l e _ s m args below meth c H locs cells slots Qf (F0 m pc lsc (.ref (x_r σ ρ a) :: st.map (x_v σ ρ)))
  rw [x_r.own ha]
  have hvv : (fs.map (x_v σ ρ))[k]? = some (x_v σ ρ v) := by rw [List.getElem?_map, hv]; rfl
  rcases hw with hw | ⟨host, hw⟩
  · exact va_get C.1 C.2.1 C.2.2.2.2.1 hin C.2.2.2.1 hI.2.2.1 hI.1 (a - 16) hget hc k hk (C.2.2.2.2.1 _ hw) (fun _ h9 => h9) hvv hd K
  · exact va_getN C.1 C.2.1 C.2.2.2.2.1 hin C.2.2.2.1 hI.2.2.1 hI.1 (a - 16) hget hc k hk (va_Nw.use rfl (C.2.2.2.2.2.1.1 _ hw)) (fun _ h9 => h9) hvv hd K
theorem y_getI {x : Int32} (hf : x_fld (mY M).cls idx ci k) (hg : x_gI h a ci k = some x) (hd : decode (mB M) pc = .ok (.getfield idx, 3)) (kk : Y S M h0 rv h1 mc ms (pc + 3) ls (.int x :: st) h cells slots) : Y S M h0 rv h1 mc ms pc ls (.ref a :: st) h cells slots := y_get hf (x_gI.spec hg) hd kk
theorem y_getR {x : Nat} (hf : x_fld (mY M).cls idx ci k) (hg : x_gR h a ci k = some x) (hd : decode (mB M) pc = .ok (.getfield idx, 3)) (kk : Y S M h0 rv h1 mc ms (pc + 3) ls (.ref x :: st) h cells slots) : Y S M h0 rv h1 mc ms pc ls (.ref a :: st) h cells slots := y_get hf (x_gR.spec hg) hd kk
theorem y_put {v : Value} {ty : FieldType} {fin : Bool} (hf : x_fldP (mY M).cls idx ci k ty fin) (hi : fin = true → (mY M).name = "<init>") (hn : ∀ σ ρ, narrow ty (x_v σ ρ v) = x_v σ ρ v) (hft : ∀ σ ρ, fits ty (x_v σ ρ v) = true) (hg : x_put h a ci k v = some h') (hd : decode (mB M) pc = .ok (.putfield idx, 3)) (kk : Y S M h0 rv h1 mc ms (pc + 3) ls st h' cells slots) : Y S M h0 rv h1 mc ms pc ls (v :: .ref a :: st) h cells slots := by
  intro l D B σ p e s m args below meth c Qf ρ0 C Rt ρ κ H locs lsc hr hle hI hS hl hkl hks
  obtain ⟨Cn, T, N, ty0, ⟨hc, hin, hty, hnm⟩, hk, ht, hfin, hcl, hown, hw⟩ := hf
  obtain ⟨fs, ha, hh, hlt, rfl⟩ := x_put.spec hg
  have hget := x_w.get (σ := σ) (ρ := ρ) (κ := κ) hh
  have hlen : (h.set (a - 16) (.inr (ci, fs.set k v))).length = h.length := List.length_set
  have hfs := hI.2.2.2.2 _ _ hh
  have hke : k_e h.length (.inr (ci, fs.set k v)) := fun w hw => (List.mem_or_eq_of_mem_set hw).elim (hfs w) (fun q => q ▸ ks_h hks)
  have hse : (fs.map (x_v σ ρ)).set k (x_v σ ρ v) = (fs.set k v).map (x_v σ ρ) := (List.map_set).symm
  have hlt' : k < (fs.map (x_v σ ρ)).length := by rw [List.length_map]; exact hlt
  show W p l e _ s m args below meth c H locs cells slots Qf (F0 m pc lsc (x_v σ ρ v :: .ref (x_r σ ρ a) :: st.map (x_v σ ρ)))
  rw [x_r.own ha]
  have fin9 : ∀ (H1 : Heap) (locs1 : List Loc), va_P D vwCl ((x_w σ ρ κ h).set (a - 16) (ρ (a - 16), .inr (ci, (fs.map (x_v σ ρ)).set k (x_v σ ρ v)))) H1 → va_D (fun q => B ≤ q) ((x_w σ ρ κ h).set (a - 16) (ρ (a - 16), .inr (ci, (fs.map (x_v σ ρ)).set k (x_v σ ρ v)))) → va_S (fun q => B ≤ q) s.heap H1 locs1 → W p l e (mR M mc ms) s m args below meth c H1 locs1 cells slots Qf (F0 m (pc + 3) lsc (st.map (x_v σ ρ))) := by
    intro H1 locs1 hP1 hD1 hS1
    rw [hse] at hP1 hD1
    refine kk l D B σ p e s m args below meth c Qf ρ0 C Rt ρ κ H1 locs1 lsc hr (by rw [hlen]; exact hle) (hI.put hh hke (fun ty a h => by cases h) hP1 hD1) hS1 hl (by rw [hlen]; exact hkl) (by rw [hlen]; exact ks_t (ks_t hks))
  rcases hw with hw | ⟨hff, host, hw⟩
  · cases fin with
    | false => exact va_put C.1 C.2.1 C.2.2.2.2.1 hin ty0 hty hnm C.2.2.2.1 hI.2.2.1 hI.1 hI.2.1 hS (a - 16) hget hc k hk (C.2.2.2.2.1 _ hw) (fun _ h9 => h9) hfin (by rw [hty k hk, ht]) (hn σ ρ) (hft σ ρ) hlt' hd fin9
    | true => exact va_putF C.1 C.2.1 C.2.2.2.2.1 hin ty0 hty hnm C.2.2.2.1 hI.2.2.1 hI.1 hI.2.1 hS (a - 16) hget hc k hk (C.2.2.2.2.1 _ hw) (fun _ h9 => h9) hfin (by rw [C.2.2.2.2.2.2.2]; exact hi rfl) (by rw [hcl]; exact hown rfl) (by rw [hty k hk, ht]) (hn σ ρ) (hft σ ρ) hlt' hd fin9
  · subst hff
    exact va_putN C.1 C.2.1 C.2.2.2.2.1 hin ty0 hty hnm C.2.2.2.1 hI.2.2.1 hI.1 hI.2.1 hS (a - 16) hget hc k hk (va_Nw.use rfl (C.2.2.2.2.2.1.1 _ hw)) (fun _ h9 => h9) hfin (by rw [hty k hk, ht]) (hn σ ρ) (hft σ ρ) hlt' hd fin9
theorem y_iald {i x : Int32} (hg : x_ld h a i = some x) (hd : decode (mB M) pc = .ok (.iaload, 1)) (kk : Y S M h0 rv h1 mc ms (pc + 1) ls (.int x :: st) h cells slots) : Y S M h0 rv h1 mc ms pc ls (.int i :: .ref a :: st) h cells slots := by
  intro l D B σ p e s m args below meth c Qf ρ0 C Rt ρ κ H locs lsc hr hle hI hS hl hkl hks
  obtain ⟨n, f, ha, hh, hin, rfl⟩ := x_ld.spec hg
  have hget := x_w.get (σ := σ) (ρ := ρ) (κ := κ) hh
  show W p l e _ s m args below meth c H locs cells slots Qf (F0 m pc lsc (.int i :: .ref (x_r σ ρ a) :: st.map (x_v σ ρ)))
  rw [x_r.own ha]
  exact va_iald C.1 C.2.1 (hI.tys hh) hI.1 (a - 16) 0 hget rfl hin hd (kk l D B σ p e s m args below meth c Qf ρ0 C Rt ρ κ H locs lsc hr hle hI hS hl hkl (ks_c (by exact True.intro) (ks_t (ks_t hks))))
theorem y_iast {i x : Int32} (hg : x_st h a i x = some h') (hd : decode (mB M) pc = .ok (.iastore, 1)) (kk : Y S M h0 rv h1 mc ms (pc + 1) ls st h' cells slots) : Y S M h0 rv h1 mc ms pc ls (.int x :: .int i :: .ref a :: st) h cells slots := by
  intro l D B σ p e s m args below meth c Qf ρ0 C Rt ρ κ H locs lsc hr hle hI hS hl hkl hks
  obtain ⟨n, f, ha, hh, hin, rfl⟩ := x_st.spec hg
  have hget := x_w.get (σ := σ) (ρ := ρ) (κ := κ) hh
  have hlen : (h.set (a - 16) (.inl (.int, n, .inl (upd f i.toNatClampNeg x)))).length = h.length := List.length_set
  show W p l e _ s m args below meth c H locs cells slots Qf (F0 m pc lsc (.int x :: .int i :: .ref (x_r σ ρ a) :: st.map (x_v σ ρ)))
  rw [x_r.own ha]
  refine va_iast C.1 C.2.1 (hI.tys hh) hI.1 hI.2.1 hS (a - 16) 0 hget rfl hin hd (fun H1 locs1 hP1 hD1 hS1 => ?_)
  exact kk l D B σ p e s m args below meth c Qf ρ0 C Rt ρ κ H1 locs1 lsc hr (by rw [hlen]; exact hle) (hI.put hh (by exact True.intro) (fun ty a h => by cases h; exact ⟨_, rfl⟩) hP1 hD1) hS1 hl (by rw [hlen]; exact hkl) (by rw [hlen]; exact ks_t (ks_t (ks_t hks)))
theorem y_lald {i : Int32} {x : Int64} (hg : x_ldL h a i = some x) (hd : decode (mB M) pc = .ok (.laload, 1)) (kk : Y S M h0 rv h1 mc ms (pc + 1) ls (.long x :: st) h cells slots) : Y S M h0 rv h1 mc ms pc ls (.int i :: .ref a :: st) h cells slots := by
  intro l D B σ p e s m args below meth c Qf ρ0 C Rt ρ κ H locs lsc hr hle hI hS hl hkl hks
  obtain ⟨n, f, ha, hh, hin, rfl⟩ := x_ldL.spec hg
  have hget := x_w.get (σ := σ) (ρ := ρ) (κ := κ) hh
  show W p l e _ s m args below meth c H locs cells slots Qf (F0 m pc lsc (.int i :: .ref (x_r σ ρ a) :: st.map (x_v σ ρ)))
  rw [x_r.own ha]
  exact va_lald C.1 C.2.1 (hI.tys hh) hI.1 (a - 16) 0 hget rfl hin hd (kk l D B σ p e s m args below meth c Qf ρ0 C Rt ρ κ H locs lsc hr hle hI hS hl hkl (ks_c (by exact True.intro) (ks_t (ks_t hks))))
theorem y_last {i : Int32} {x : Int64} (hg : x_stL h a i x = some h') (hd : decode (mB M) pc = .ok (.lastore, 1)) (kk : Y S M h0 rv h1 mc ms (pc + 1) ls st h' cells slots) : Y S M h0 rv h1 mc ms pc ls (.long x :: .int i :: .ref a :: st) h cells slots := by
  intro l D B σ p e s m args below meth c Qf ρ0 C Rt ρ κ H locs lsc hr hle hI hS hl hkl hks
  obtain ⟨n, f, ha, hh, hin, rfl⟩ := x_stL.spec hg
  have hget := x_w.get (σ := σ) (ρ := ρ) (κ := κ) hh
  have hlen : (h.set (a - 16) (.inl (.long, n, .inr (.inl (vp_updL f i.toNatClampNeg x))))).length = h.length := List.length_set
  show W p l e _ s m args below meth c H locs cells slots Qf (F0 m pc lsc (.long x :: .int i :: .ref (x_r σ ρ a) :: st.map (x_v σ ρ)))
  rw [x_r.own ha]
  refine va_last C.1 C.2.1 (hI.tys hh) hI.1 hI.2.1 hS (a - 16) 0 hget rfl hin hd (fun H1 locs1 hP1 hD1 hS1 => ?_)
  exact kk l D B σ p e s m args below meth c Qf ρ0 C Rt ρ κ H1 locs1 lsc hr (by rw [hlen]; exact hle) (hI.put hh (by exact True.intro) (fun ty a h => by cases h; exact ⟨_, rfl⟩) hP1 hD1) hS1 hl (by rw [hlen]; exact hkl) (by rw [hlen]; exact ks_t (ks_t (ks_t hks)))
theorem y_aald {i : Int32} {x : Nat} (hg : x_ldQ h a i = some x) (hd : decode (mB M) pc = .ok (.aaload, 1)) (kk : Y S M h0 rv h1 mc ms (pc + 1) ls (.ref x :: st) h cells slots) : Y S M h0 rv h1 mc ms pc ls (.int i :: .ref a :: st) h cells slots := by
  intro l D B σ p e s m args below meth c Qf ρ0 C Rt ρ κ H locs lsc hr hle hI hS hl hkl hks
  obtain ⟨ty, n, f, ha, hh, hty, hin, hx⟩ := x_ldQ.spec hg
  have hget := x_w.get (σ := σ) (ρ := ρ) (κ := κ) hh
  have hok : k_v h.length (.ref x) := by have := hI.2.2.2.2 _ _ hh; exact this _ _ hx
  show W p l e _ s m args below meth c H locs cells slots Qf (F0 m pc lsc (.int i :: .ref (x_r σ ρ a) :: st.map (x_v σ ρ)))
  rw [x_r.own ha]
  have hlt : i.toNatClampNeg < n := Nat.not_le.mp fun q => hin (Or.inr q)
  have K := kk l D B σ p e s m args below meth c Qf ρ0 C Rt ρ κ H locs lsc hr hle hI hS hl hkl (ks_c hok (ks_t (ks_t hks)))
  have hv : va_rf ((f i.toNatClampNeg).map (x_r σ ρ)) = .ref (x_r σ ρ x) := by rw [hx]; rfl
  refine W.aald (v := .ref (x_r σ ρ x)) (ty := ty) C.1 C.2.1 (hI.1 (a - 16) _ hget) ((hI.2.2.2.1 _ _ _ hh).1 n (fun j => va_rf ((f j).map (x_r σ ρ)))) hty (fun q => by cases q) (by show ¬ (i < 0 ∨ (arrV _ _ _).slots.size ≤ _); rw [arrV_size]; exact hin) ?_ rfl rfl hd K
  show (arrV _ n (fun j => va_rf ((f j).map (x_r σ ρ)))).slots[_]? = _
  rw [arrV_read _ _ hlt, hv]
theorem y_alen {x : Int32} (hg : x_len h a = some x) (hd : decode (mB M) pc = .ok (.arraylength, 1)) (kk : Y S M h0 rv h1 mc ms (pc + 1) ls (.int x :: st) h cells slots) : Y S M h0 rv h1 mc ms pc ls (.ref a :: st) h cells slots := by
  intro l D B σ p e s m args below meth c Qf ρ0 C Rt ρ κ H locs lsc hr hle hI hS hl hkl hks
  obtain ⟨ty, q, ha, hh, hx⟩ := x_len.spec hg
  have hget := x_w.get (σ := σ) (ρ := ρ) (κ := κ) hh
  show W p l e _ s m args below meth c H locs cells slots Qf (F0 m pc lsc (.ref (x_r σ ρ a) :: st.map (x_v σ ρ)))
  rw [x_r.own ha]
  have hz : (x_a σ ρ q).1 = q.1 := by obtain ⟨z, f | f | f | f | f⟩ := q <;> rfl
  exact va_alen C.1 C.2.1 (hI.tys hh) hI.1 (a - 16) 0 hget rfl (by rw [hz]; exact hx) hd (kk l D B σ p e s m args below meth c Qf ρ0 C Rt ρ κ H locs lsc hr hle hI hS hl hkl (ks_c (by exact True.intro) (ks_t hks)))
theorem y_tW {i : Int32} (hin : ¬ (i < 0 ∨ 6 ≤ i.toNatClampNeg)) (hd : decode (mB M) pc = .ok (.iaload, 1)) (kk : Y S M h0 rv h1 mc ms (pc + 1) ls (.int (x_tW i.toNatClampNeg) :: st) h cells slots) : Y S M h0 rv h1 mc ms pc ls (.int i :: .ref 1 :: st) h cells slots := by
  intro l D B σ p e s m args below meth c Qf ρ0 C Rt ρ κ H locs lsc hr hle hI hS hl hkl hks
  exact va_ti C.1 C.2.1 C.2.2.2.2.2.1.2.2.1.2 hS hin rfl hd (kk l D B σ p e s m args below meth c Qf ρ0 C Rt ρ κ H locs lsc hr hle hI hS hl hkl (ks_c (by exact True.intro) (ks_t (ks_t hks))))
theorem y_tU {i : Int32} (hin : ¬ (i < 0 ∨ 6 ≤ i.toNatClampNeg)) (hd : decode (mB M) pc = .ok (.iaload, 1)) (kk : Y S M h0 rv h1 mc ms (pc + 1) ls (.int (x_tU i.toNatClampNeg) :: st) h cells slots) : Y S M h0 rv h1 mc ms pc ls (.int i :: .ref 2 :: st) h cells slots := by
  intro l D B σ p e s m args below meth c Qf ρ0 C Rt ρ κ H locs lsc hr hle hI hS hl hkl hks
  exact va_ti C.1 C.2.1 C.2.2.2.2.2.1.2.2.2.1.2 hS hin rfl hd (kk l D B σ p e s m args below meth c Qf ρ0 C Rt ρ κ H locs lsc hr hle hI hS hl hkl (ks_c (by exact True.intro) (ks_t (ks_t hks))))
theorem y_tWlen (hd : decode (mB M) pc = .ok (.arraylength, 1)) (kk : Y S M h0 rv h1 mc ms (pc + 1) ls (.int 6 :: st) h cells slots) : Y S M h0 rv h1 mc ms pc ls (.ref 1 :: st) h cells slots := by
  intro l D B σ p e s m args below meth c Qf ρ0 C Rt ρ κ H locs lsc hr hle hI hS hl hkl hks
  exact va_tlen C.1 C.2.1 C.2.2.2.2.2.1.2.2.1.2 hS rfl hd (kk l D B σ p e s m args below meth c Qf ρ0 C Rt ρ κ H locs lsc hr hle hI hS hl hkl (ks_c (by exact True.intro) (ks_t hks)))
theorem y_tUlen (hd : decode (mB M) pc = .ok (.arraylength, 1)) (kk : Y S M h0 rv h1 mc ms (pc + 1) ls (.int 6 :: st) h cells slots) : Y S M h0 rv h1 mc ms pc ls (.ref 2 :: st) h cells slots := by
  intro l D B σ p e s m args below meth c Qf ρ0 C Rt ρ κ H locs lsc hr hle hI hS hl hkl hks
  exact va_tlen C.1 C.2.1 C.2.2.2.2.2.1.2.2.2.1.2 hS rfl hd (kk l D B σ p e s m args below meth c Qf ρ0 C Rt ρ κ H locs lsc hr hle hI hS hl hkl (ks_c (by exact True.intro) (ks_t hks)))
theorem y_gets (j : Nat) (hj : j < 16) {n d : String} (hz : ∀ (B : Nat) (σ : Nat → Nat) (U : State) (H : Heap), x_FS B σ S.1 S.2 U H → va_Z "WhoOpensOne" n d (.ref (σ j)) (fun q => B ≤ q) U H) (hw : Cond.fieldLink (mY M).cls idx "WhoOpensOne" n d ∈ x_WT ∨ ∃ host : String, Cond.fieldLinkNest (mY M).cls idx "WhoOpensOne" n d host ∈ x_NW) (hd : decode (mB M) pc = .ok (.getstatic idx, 3)) (kk : Y S M h0 rv h1 mc ms (pc + 3) ls (.ref j :: st) h cells slots) : Y S M h0 rv h1 mc ms pc ls st h cells slots := by
  intro l D B σ p e s m args below meth c Qf ρ0 C Rt ρ κ H locs lsc hr hle hI hS hl hkl hks
  have hok : k_v h.length (.ref j) := by show j < h.length + 16; omega
  have K := kk l D B σ p e s m args below meth c Qf ρ0 C Rt ρ κ H locs lsc hr hle hI hS hl hkl (ks_c hok hks)
  have e9 : x_v σ ρ (.ref j) = .ref (σ j) := by show Value.ref (x_r σ ρ j) = _; unfold x_r; rw [if_pos hj]
  rw [List.map_cons, e9] at K
  rcases hw with hw | ⟨host, hw⟩
  · exact va_gets C.1 C.2.1 (hz B σ s s.heap C.2.2.2.2.2.1) hS C.2.2.2.1 (C.2.2.2.2.1 _ hw) (fun _ h9 => h9) hd K
  · exact va_getsN C.1 C.2.1 (hz B σ s s.heap C.2.2.2.2.2.1) hS C.2.2.2.1 (va_Nw.use rfl (C.2.2.2.2.2.1.1 _ hw)) (fun _ h9 => h9) hd K
theorem y_sld {i : Int32} (hin : ¬ (i < 0 ∨ S.1 ≤ i.toNatClampNeg)) (hd : decode (mB M) pc = .ok (.iaload, 1)) (kk : Y S M h0 rv h1 mc ms (pc + 1) ls (.int (S.2 i.toNatClampNeg) :: st) h cells slots) : Y S M h0 rv h1 mc ms pc ls (.int i :: .ref 0 :: st) h cells slots := by
  intro l D B σ p e s m args below meth c Qf ρ0 C Rt ρ κ H locs lsc hr hle hI hS hl hkl hks
  obtain ⟨hX, hB, hz⟩ := C.2.2.2.2.2.1.2.1
  exact va_sld C.1 C.2.1 hX hz (Nat.not_le.mpr hB) hS hin hd (kk l D B σ p e s m args below meth c Qf ρ0 C Rt ρ κ H locs lsc hr hle hI hS hl hkl (ks_c (by exact True.intro) (ks_t (ks_t hks))))
theorem y_slen (hd : decode (mB M) pc = .ok (.arraylength, 1)) (kk : Y S M h0 rv h1 mc ms (pc + 1) ls (.int (Int32.ofNat S.1) :: st) h cells slots) : Y S M h0 rv h1 mc ms pc ls (.ref 0 :: st) h cells slots := by
  intro l D B σ p e s m args below meth c Qf ρ0 C Rt ρ κ H locs lsc hr hle hI hS hl hkl hks
  obtain ⟨hX, hB, hz⟩ := C.2.2.2.2.2.1.2.1
  exact va_slen C.1 C.2.1 hX hz (Nat.not_le.mpr hB) hS hd (kk l D B σ p e s m args below meth c Qf ρ0 C Rt ρ κ H locs lsc hr hle hI hS hl hkl (ks_c (by exact True.intro) (ks_t hks)))
theorem y_ldc {v : Int32} (hw : Cond.constant (mY M).cls idx v ∈ x_WT) (hd : decode (mB M) pc = .ok (.ldc idx, 2)) (kk : Y S M h0 rv h1 mc ms (pc + 2) ls (.int v :: st) h cells slots) : Y S M h0 rv h1 mc ms pc ls st h cells slots := by
  intro l D B σ p e s m args below meth c Qf ρ0 C Rt ρ κ H locs lsc hr hle hI hS hl hkl hks
  exact lv_ldc C.1 C.2.1 C.2.2.2.1 (C.2.2.2.2.1 _ hw) hd (kk l D B σ p e s m args below meth c Qf ρ0 C Rt ρ κ H locs lsc hr hle hI hS hl hkl (ks_c (by exact True.intro) hks))
theorem y_ldc2 {v : Int64} (hw : Cond.constantLong (mY M).cls idx v ∈ x_WT) (hd : decode (mB M) pc = .ok (.ldc2_w idx, 3)) (kk : Y S M h0 rv h1 mc ms (pc + 3) ls (.long v :: st) h cells slots) : Y S M h0 rv h1 mc ms pc ls st h cells slots := by
  intro l D B σ p e s m args below meth c Qf ρ0 C Rt ρ κ H locs lsc hr hle hI hS hl hkl hks
  exact lv_ldc2 C.1 C.2.1 C.2.2.2.1 (C.2.2.2.2.1 _ hw) hd (kk l D B σ p e s m args below meth c Qf ρ0 C Rt ρ κ H locs lsc hr hle hI hS hl hkl (ks_c (by exact True.intro) hks))
end YH
