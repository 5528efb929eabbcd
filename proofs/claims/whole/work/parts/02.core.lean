/-! The words of the abstract machine: own cells by their places (n - 16), fixed cells (script, tables, texts) below 16. -/
abbrev xE : Type := (FieldType × vp_A) ⊕ (Nat × List Value)
abbrev xH : Type := List xE
def x_r (σ ρ : Nat → Nat) (n : Nat) : Nat := if n < 16 then σ n else ρ (n - 16)
def x_v (σ ρ : Nat → Nat) (v : Value) : Value := match v with
  | .int x => .int x
  | .long x => .long x
  | .float x => .float x
  | .double x => .double x
  | .null => .null
  | .ref n => .ref (x_r σ ρ n)
  | .retAddr x => .retAddr x
def x_a (σ ρ : Nat → Nat) (a : vp_A) : vp_A := match a with
  | (n, .inl f) => (n, .inl f)
  | (n, .inr (.inl f)) => (n, .inr (.inl f))
  | (n, .inr (.inr (.inl f))) => (n, .inr (.inr (.inl f)))
  | (n, .inr (.inr (.inr (.inl f)))) => (n, .inr (.inr (.inr (.inl f))))
  | (n, .inr (.inr (.inr (.inr f)))) => (n, .inr (.inr (.inr (.inr (fun i => (f i).map (x_r σ ρ))))))
def x_e (σ ρ : Nat → Nat) (k : ClassId) (e : xE) : va_E := match e with
  | .inl q => .inl (k, x_a σ ρ q.2)
  | .inr o => .inr (o.1, o.2.map (x_v σ ρ))
def x_w (σ ρ : Nat → Nat) (κ : Nat → ClassId) (h : xH) : va_W := h.mapIdx (fun k e => (ρ k, x_e σ ρ (κ k) e))
def k_v (n : Nat) (v : Value) : Prop := match v with
  | .ref k => k < n + 16
  | _ => True
def k_a (n : Nat) (a : vp_A) : Prop := match a with
  | (_, .inr (.inr (.inr (.inr f)))) => ∀ i k, f i = some k → k < n + 16
  | _ => True
def k_e (n : Nat) (e : xE) : Prop := match e with
  | .inl q => k_a n q.2
  | .inr o => ∀ v ∈ o.2, k_v n v
theorem k_v.mono {n n' : Nat} (hn : n ≤ n') {v : Value} (h : k_v n v) : k_v n' v := by
  cases v with
  | ref k => exact Nat.lt_of_lt_of_le h (by omega)
  | _ => trivial
theorem k_a.mono {n n' : Nat} (hn : n ≤ n') {a : vp_A} (h : k_a n a) : k_a n' a := by
  obtain ⟨z, f | f | f | f | f⟩ := a
  · trivial
  · trivial
  · trivial
  · trivial
  · exact fun i k e => Nat.lt_of_lt_of_le (h i k e) (by omega)
theorem k_e.mono {n n' : Nat} (hn : n ≤ n') {e : xE} (h : k_e n e) : k_e n' e := by
  cases e with
  | inl q => exact k_a.mono hn h
  | inr o => exact fun v hv => (h v hv).mono hn
theorem x_r.same {σ ρ ρ' : Nat → Nat} {n k : Nat} (hr : ∀ k, k < n → ρ' k = ρ k) (hk : k < n + 16) : x_r σ ρ' k = x_r σ ρ k := by
  unfold x_r
  by_cases h : k < 16
  · rw [if_pos h, if_pos h]
  · rw [if_neg h, if_neg h, hr _ (by omega)]
theorem x_v.same {σ ρ ρ' : Nat → Nat} {n : Nat} (hr : ∀ k, k < n → ρ' k = ρ k) {v : Value} (hv : k_v n v) : x_v σ ρ' v = x_v σ ρ v := by
  cases v with
  | ref k => show Value.ref _ = Value.ref _; rw [x_r.same hr hv]
  | _ => rfl
theorem x_a.same {σ ρ ρ' : Nat → Nat} {n : Nat} (hr : ∀ k, k < n → ρ' k = ρ k) {a : vp_A} (ha : k_a n a) : x_a σ ρ' a = x_a σ ρ a := by
  obtain ⟨z, f | f | f | f | f⟩ := a
  · rfl
  · rfl
  · rfl
  · rfl
  · show (z, _) = (z, _)
    congr 5
    funext i
    cases hf : f i with
    | none => rfl
    | some k => show some _ = some _; rw [x_r.same hr (ha i k hf)]
theorem x_e.same {σ ρ ρ' : Nat → Nat} {n : Nat} (hr : ∀ k, k < n → ρ' k = ρ k) {c : ClassId} {e : xE} (he : k_e n e) : x_e σ ρ' c e = x_e σ ρ c e := by
  cases e with
  | inl q => show Sum.inl (c, _) = Sum.inl (c, _); rw [x_a.same hr he]
  | inr o =>
    show Sum.inr (o.1, _) = Sum.inr (o.1, _)
    congr 2
    exact List.map_congr_left fun v hv => x_v.same hr (he v hv)
theorem x_st.same {σ ρ ρ' : Nat → Nat} {n : Nat} (hr : ∀ k, k < n → ρ' k = ρ k) {st : List Value} (hst : ∀ v ∈ st, k_v n v) : st.map (x_v σ ρ') = st.map (x_v σ ρ) := List.map_congr_left fun v hv => x_v.same hr (hst v hv)
theorem x_ls.same {σ ρ ρ' : Nat → Nat} {n : Nat} (hr : ∀ k, k < n → ρ' k = ρ k) {ls : List (Nat × Value)} (hls : ∀ q ∈ ls, k_v n q.2) : ls.map (fun q => (q.1, x_v σ ρ' q.2)) = ls.map (fun q => (q.1, x_v σ ρ q.2)) := List.map_congr_left fun q hq => by rw [x_v.same hr (hls q hq)]
theorem x_w.get {σ ρ : Nat → Nat} {κ : Nat → ClassId} {h : xH} {k : Nat} {e : xE} (he : h[k]? = some e) : (x_w σ ρ κ h)[k]? = some (ρ k, x_e σ ρ (κ k) e) := by
  unfold x_w
  rw [List.getElem?_mapIdx, he]
  rfl
theorem x_w.set {σ ρ : Nat → Nat} {κ : Nat → ClassId} {h : xH} {k : Nat} (e : xE) : (x_w σ ρ κ h).set k (ρ k, x_e σ ρ (κ k) e) = x_w σ ρ κ (h.set k e) := by
  apply List.ext_getElem?
  intro i
  unfold x_w
  rw [List.getElem?_mapIdx, List.getElem?_set, List.getElem?_set, List.getElem?_mapIdx, List.length_mapIdx]
  by_cases hi : k = i
  · subst hi
    rw [if_pos rfl, if_pos rfl]
    by_cases hl : k < h.length
    · rw [if_pos hl, if_pos hl]; rfl
    · rw [if_neg hl, if_neg hl]; rfl
  · rw [if_neg hi, if_neg hi]
def x_up {α : Type} (f : Nat → α) (k : Nat) (x : α) : Nat → α := fun j => if j = k then x else f j
theorem x_up.eq {α : Type} {f : Nat → α} {k : Nat} {x : α} : x_up f k x k = x := if_pos rfl
theorem x_up.ne {α : Type} {f : Nat → α} {k j : Nat} {x : α} (h : j ≠ k) : x_up f k x j = f j := if_neg h
theorem x_up.old {f : Nat → Nat} {n : Nat} {x : Nat} : ∀ k, k < n → x_up f n x k = f k := fun k hk => x_up.ne (Nat.ne_of_lt hk)
theorem x_w.same {σ ρ ρ' : Nat → Nat} {κ κ' : Nat → ClassId} {h : xH} (hr : ∀ k, k < h.length → ρ' k = ρ k) (hκ : ∀ k, k < h.length → κ' k = κ k) (hok : ∀ (k : Nat) (e : xE), h[k]? = some e → k_e h.length e) : x_w σ ρ' κ' h = x_w σ ρ κ h := by
  apply List.ext_getElem?
  intro i
  unfold x_w
  rw [List.getElem?_mapIdx, List.getElem?_mapIdx]
  cases hi : h[i]? with
  | none => rfl
  | some e =>
    have hl : i < h.length := (List.getElem?_eq_some_iff.mp hi).1
    show some (ρ' i, x_e σ ρ' (κ' i) e) = some (ρ i, x_e σ ρ (κ i) e)
    rw [hr i hl, hκ i hl, x_e.same hr (hok i e hi)]
theorem x_w.push {σ ρ : Nat → Nat} {κ : Nat → ClassId} {h : xH} {q : Nat} {c : ClassId} {e : xE} (hok : ∀ (k : Nat) (e : xE), h[k]? = some e → k_e h.length e) : x_w σ ρ κ h ++ [(q, x_e σ (x_up ρ h.length q) c e)] = x_w σ (x_up ρ h.length q) (x_up κ h.length c) (h ++ [e]) := by
  rw [← x_w.same (ρ' := x_up ρ h.length q) (κ' := x_up κ h.length c) x_up.old (fun k hk => x_up.ne (Nat.ne_of_lt hk)) hok]
  unfold x_w
  rw [List.mapIdx_append]
  simp [x_up.eq]
/-- what holds of the own cells: they are there, apart, of their classes; no reference leads out -/
def x_I (D : va_G) (B : Nat) (σ ρ : Nat → Nat) (κ : Nat → ClassId) (h : xH) (U : State) (H : Heap) : Prop :=
  va_P D vwCl (x_w σ ρ κ h) H ∧ va_D (fun q => B ≤ q) (x_w σ ρ κ h) ∧ va_K D vwCl [] U ∧
  (∀ (k : Nat) (ty : FieldType) (a : vp_A), h[k]? = some (.inl (ty, a)) → ArrOfT U (κ k) ty ∧ va_RA U (κ k) ty) ∧ ∀ (k : Nat) (e : xE), h[k]? = some e → k_e h.length e
theorem x_I.moved {D : va_G} {B : Nat} {σ ρ : Nat → Nat} {κ : Nat → ClassId} {h : xH} {u U : State} {H : Heap} (hvm : u.vm.Alike U.vm) (hI : x_I D B σ ρ κ h u H) : x_I D B σ ρ κ h U H :=
  ⟨hI.1, hI.2.1, hI.2.2.1.moved hvm, fun k ty a hk => ⟨arrOfT_moved hvm (hI.2.2.2.1 k ty a hk).1, (hI.2.2.2.1 k ty a hk).2.moved hvm⟩, hI.2.2.2.2⟩
theorem x_I.tys {D : va_G} {B : Nat} {σ ρ : Nat → Nat} {κ : Nat → ClassId} {h : xH} {U : State} {H : Heap} (hI : x_I D B σ ρ κ h U H) {k : Nat} {ty : FieldType} {a : vp_A} (hk : h[k]? = some (.inl (ty, a))) : va_K D vwCl [(κ k, ty)] U := by
  refine ⟨hI.2.2.1.1, fun j q hq => ?_⟩
  have hz : j < 1 := (List.getElem?_eq_some_iff.mp hq).1
  rw [show j = 0 by omega] at hq
  cases hq
  exact hI.2.2.2.1 k ty a hk
/-- a cell is changed in its place: the world behind it -/
theorem x_I.put {D : va_G} {B : Nat} {σ ρ : Nat → Nat} {κ : Nat → ClassId} {h : xH} {U : State} {H H1 : Heap} (hI : x_I D B σ ρ κ h U H) {k : Nat} {e e' : xE} (hk : h[k]? = some e) (he : k_e h.length e') (hty : ∀ ty a, e' = .inl (ty, a) → ∃ a', e = .inl (ty, a'))
    (hP : va_P D vwCl ((x_w σ ρ κ h).set k (ρ k, x_e σ ρ (κ k) e')) H1) (hD : va_D (fun q => B ≤ q) ((x_w σ ρ κ h).set k (ρ k, x_e σ ρ (κ k) e'))) : x_I D B σ ρ κ (h.set k e') U H1 := by
  rw [x_w.set] at hP hD
  refine ⟨hP, hD, hI.2.2.1, fun j ty a hj => ?_, fun j x hj => ?_⟩
  · rw [List.getElem?_set] at hj
    by_cases hjk : k = j
    · subst hjk
      have hl : k < h.length := (List.getElem?_eq_some_iff.mp hk).1
      rw [if_pos rfl, if_pos hl] at hj
      obtain ⟨a', ha'⟩ := hty ty a (Option.some.inj hj)
      exact hI.2.2.2.1 k ty a' (by rw [hk, ha'])
    · rw [if_neg hjk] at hj
      exact hI.2.2.2.1 j ty a hj
  · rw [List.length_set]
    rw [List.getElem?_set] at hj
    by_cases hjk : k = j
    · subst hjk
      have hl : k < h.length := (List.getElem?_eq_some_iff.mp hk).1
      rw [if_pos rfl, if_pos hl] at hj
      rw [← Option.some.inj hj]
      exact he
    · rw [if_neg hjk] at hj
      exact hI.2.2.2.2 j x hj
/-- a cell comes: the world behind it -/
theorem x_I.push {D : va_G} {B : Nat} {σ ρ : Nat → Nat} {κ : Nat → ClassId} {h : xH} {U : State} {H H1 : Heap} (hI : x_I D B σ ρ κ h U H) {q : Nat} {c : ClassId} {e : xE} (he : k_e (h.length + 1) e) (hty : ∀ ty a, e = .inl (ty, a) → ArrOfT U c ty ∧ va_RA U c ty)
    (hP : va_P D vwCl (x_w σ ρ κ h ++ [(q, x_e σ (x_up ρ h.length q) c e)]) H1) (hD : va_D (fun q => B ≤ q) (x_w σ ρ κ h ++ [(q, x_e σ (x_up ρ h.length q) c e)])) : x_I D B σ (x_up ρ h.length q) (x_up κ h.length c) (h ++ [e]) U H1 := by
  rw [x_w.push hI.2.2.2.2] at hP hD
  refine ⟨hP, hD, hI.2.2.1, fun j ty a hj => ?_, fun j x hj => ?_⟩
  · by_cases hl : j < h.length
    · rw [List.getElem?_append_left hl] at hj
      rw [x_up.ne (Nat.ne_of_lt hl)]
      exact hI.2.2.2.1 j ty a hj
    · rw [List.getElem?_append_right (by omega)] at hj
      have hz : j - h.length < 1 := (List.getElem?_eq_some_iff.mp hj).1
      have hj0 : j = h.length := by omega
      subst hj0
      rw [show h.length - h.length = 0 by omega] at hj
      rw [x_up.eq]
      exact hty ty a (Option.some.inj hj)
  · rw [List.length_append]
    show k_e (h.length + 1) x
    by_cases hl : j < h.length
    · rw [List.getElem?_append_left hl] at hj
      exact (hI.2.2.2.2 j x hj).mono (by omega)
    · rw [List.getElem?_append_right (by omega)] at hj
      have hz : j - h.length < 1 := (List.getElem?_eq_some_iff.mp hj).1
      rw [show j - h.length = 0 by omega] at hj
      rw [← Option.some.inj hj]
      exact he
