/-! More rows: calls by kind of answer, the counts of what is made, answers 0 or 1, null or not. -/
theorem tb {w : Cond} (i : Nat) (h : tables_1[i]? = some w) : w ∈ lw_tbl := List.mem_append_right _ (List.mem_of_getElem? h)
theorem tbp {w : Cond} (i : Nat) (h : (k2_sels lw_privs)[i]? = some w) : w ∈ lw_tbl := List.mem_append_left _ (List.mem_of_getElem? h)
theorem tbn {w : Cond} (i : Nat) (h : tables_1[i]? = some w) (hn : x_nest w = true) : w ∈ x_NW := List.mem_filter.mpr ⟨List.mem_of_getElem? h, hn⟩
def x_add {α : Type} (c s : Nat) (o : Option (α × Nat × Nat)) : Option (α × Nat × Nat) := o.map (fun q => (q.1, c + q.2.1, s + q.2.2))
theorem x_add.spec {α : Type} {c s mc ms : Nat} {o : Option (α × Nat × Nat)} {r : α} (h : x_add c s o = some (r, mc, ms)) : ∃ c2 s2, o = some (r, c2, s2) ∧ mc = c + c2 ∧ ms = s + s2 := by
  obtain ⟨⟨r2, c2, s2⟩, h1, h2⟩ := Option.map_eq_some_iff.mp h
  cases h2
  exact ⟨c2, s2, h1, rfl, rfl⟩
def x_bool (v : Int32) : Option Int32 := if v = 0 ∨ v = 1 then some v else none
theorem x_bool.spec {v w : Int32} (h : x_bool v = some w) : v = w ∧ narrow .boolean (.int w) = .int w := by
  unfold x_bool at h
  by_cases hc : v = 0 ∨ v = 1
  · rw [if_pos hc] at h
    cases h
    rcases hc with rfl | rfl
    · exact ⟨rfl, rfl⟩
    · exact ⟨rfl, rfl⟩
  · rw [if_neg hc] at h; cases h
def x_gN (h : xH) (a ci k : Nat) : Option Bool := match x_get h a ci k with
  | some .null => some false
  | some (.ref _) => some true
  | _ => none
theorem x_gN.no {h : xH} {a ci k : Nat} (hg : x_gN h a ci k = some false) : x_get h a ci k = some .null := by
  unfold x_gN at hg
  split at hg
  next hy => exact hy
  next => cases hg
  next => cases hg
theorem x_gN.yes {h : xH} {a ci k : Nat} (hg : x_gN h a ci k = some true) : ∃ x, x_get h a ci k = some (.ref x) := by
  unfold x_gN at hg
  split at hg
  next => cases hg
  next x hy => exact ⟨x, hy⟩
  next => cases hg
def x_sz (n : Int32) : Option Nat := if n < 0 ∨ 536870912 < n.toNatClampNeg * 8 then none else some n.toNatClampNeg
theorem x_sz.spec {n : Int32} {N : Nat} (h : x_sz n = some N) : ¬ n < 0 ∧ n.toNatClampNeg = N ∧ N * 4 ≤ 536870912 ∧ N * 8 ≤ 536870912 := by
  unfold x_sz at h
  by_cases hc : n < 0 ∨ 536870912 < n.toNatClampNeg * 8
  · rw [if_pos hc] at h; cases h
  · rw [if_neg hc] at h
    cases h
    exact ⟨fun q => hc (Or.inl q), rfl, by omega, by omega⟩
theorem x_tabo {x : Int32} {lo hi : Int} (h1 : -100 < lo) (h2 : hi < 1000) (h : ∀ j : Int, lo ≤ j → j ≤ hi → ¬ x = Int32.ofInt j) : x.toInt < lo ∨ hi < x.toInt := by
  by_cases h3 : x.toInt < lo
  · exact Or.inl h3
  · by_cases h4 : hi < x.toInt
    · exact Or.inr h4
    · exact absurd (Int32.ofInt_toInt x).symm (h x.toInt (by omega) (by omega))
def x_idiv (x y : Int32) : Option Int32 := if y = 0 then none else some (x / y)
def x_irem (x y : Int32) : Option Int32 := if y = 0 then none else some (i_rem x y)
theorem x_idiv.spec {x y z : Int32} (h : x_idiv x y = some z) : ¬ y = 0 ∧ x / y = z := by
  unfold x_idiv at h
  by_cases hc : y = 0
  · rw [if_pos hc] at h; cases h
  · rw [if_neg hc] at h; exact ⟨hc, Option.some.inj h⟩
theorem x_irem.spec {x y z : Int32} (h : x_irem x y = some z) : ¬ y = 0 ∧ i_rem x y = z := by
  unfold x_irem at h
  by_cases hc : y = 0
  · rw [if_pos hc] at h; cases h
  · rw [if_neg hc] at h; exact ⟨hc, Option.some.inj h⟩
def x_tabW (i : Int32) : Option Int32 := if i < 0 ∨ 6 ≤ i.toNatClampNeg then none else some (x_tW i.toNatClampNeg)
def x_tabU (i : Int32) : Option Int32 := if i < 0 ∨ 6 ≤ i.toNatClampNeg then none else some (x_tU i.toNatClampNeg)
theorem x_tabW.spec {i x : Int32} (h : x_tabW i = some x) : ¬ (i < 0 ∨ 6 ≤ i.toNatClampNeg) ∧ x_tW i.toNatClampNeg = x := by
  unfold x_tabW at h
  by_cases hc : i < 0 ∨ 6 ≤ i.toNatClampNeg
  · rw [if_pos hc] at h; cases h
  · rw [if_neg hc] at h; exact ⟨hc, Option.some.inj h⟩
theorem x_tabU.spec {i x : Int32} (h : x_tabU i = some x) : ¬ (i < 0 ∨ 6 ≤ i.toNatClampNeg) ∧ x_tU i.toNatClampNeg = x := by
  unfold x_tabU at h
  by_cases hc : i < 0 ∨ 6 ≤ i.toNatClampNeg
  · rw [if_pos hc] at h; cases h
  · rw [if_neg hc] at h; exact ⟨hc, Option.some.inj h⟩
def x_scr (S : Nat × (Nat → Int32)) (i : Int32) : Option Int32 := if i < 0 ∨ S.1 ≤ i.toNatClampNeg then none else some (S.2 i.toNatClampNeg)
theorem x_scr.spec {S : Nat × (Nat → Int32)} {i x : Int32} (h : x_scr S i = some x) : ¬ (i < 0 ∨ S.1 ≤ i.toNatClampNeg) ∧ S.2 i.toNatClampNeg = x := by
  unfold x_scr at h
  by_cases hc : i < 0 ∨ S.1 ≤ i.toNatClampNeg
  · rw [if_pos hc] at h; cases h
  · rw [if_neg hc] at h; exact ⟨hc, Option.some.inj h⟩
section YM
variable {S : Nat × (Nat → Int32)} {M M' : MI} {h0 h1 h h' : xH} {rv rv' : Option Value} {mc ms mc' ms' pc cells slots : Nat} {ls : List (Nat × Value)} {st as : List Value} {a ci k idx : Nat}
theorem y_div {x y z : Int32} (hg : x_idiv x y = some z) (hd : decode (mB M) pc = .ok (.idiv, 1)) (kk : Y S M h0 rv h1 mc ms (pc + 1) ls (.int z :: st) h cells slots) : Y S M h0 rv h1 mc ms pc ls (.int y :: .int x :: st) h cells slots := by
  obtain ⟨h2, rfl⟩ := x_idiv.spec hg
  exact y_idiv hd h2 kk
theorem y_rem {x y z : Int32} (hg : x_irem x y = some z) (hd : decode (mB M) pc = .ok (.irem, 1)) (kk : Y S M h0 rv h1 mc ms (pc + 1) ls (.int z :: st) h cells slots) : Y S M h0 rv h1 mc ms pc ls (.int y :: .int x :: st) h cells slots := by
  obtain ⟨h2, rfl⟩ := x_irem.spec hg
  exact y_irem hd h2 kk
theorem y_tW' {i x : Int32} (hg : x_tabW i = some x) (hd : decode (mB M) pc = .ok (.iaload, 1)) (kk : Y S M h0 rv h1 mc ms (pc + 1) ls (.int x :: st) h cells slots) : Y S M h0 rv h1 mc ms pc ls (.int i :: .ref 1 :: st) h cells slots := by
  obtain ⟨h2, rfl⟩ := x_tabW.spec hg
  exact y_tW h2 hd kk
theorem y_tU' {i x : Int32} (hg : x_tabU i = some x) (hd : decode (mB M) pc = .ok (.iaload, 1)) (kk : Y S M h0 rv h1 mc ms (pc + 1) ls (.int x :: st) h cells slots) : Y S M h0 rv h1 mc ms pc ls (.int i :: .ref 2 :: st) h cells slots := by
  obtain ⟨h2, rfl⟩ := x_tabU.spec hg
  exact y_tU h2 hd kk
theorem y_sld' {i x : Int32} (hg : x_scr S i = some x) (hd : decode (mB M) pc = .ok (.iaload, 1)) (kk : Y S M h0 rv h1 mc ms (pc + 1) ls (.int x :: st) h cells slots) : Y S M h0 rv h1 mc ms pc ls (.int i :: .ref 0 :: st) h cells slots := by
  obtain ⟨h2, rfl⟩ := x_scr.spec hg
  exact y_sld h2 hd kk
theorem y_putI {x : Int32} (hf : x_fldP (mY M).cls idx ci k .int false) (hg : x_put h a ci k (.int x) = some h') (hd : decode (mB M) pc = .ok (.putfield idx, 3)) (kk : Y S M h0 rv h1 mc ms (pc + 3) ls st h' cells slots) : Y S M h0 rv h1 mc ms pc ls (.int x :: .ref a :: st) h cells slots := y_put hf (fun q => by cases q) (fun _ _ => rfl) (fun _ _ => rfl) hg hd kk
theorem y_putZ {x : Int32} (hf : x_fldP (mY M).cls idx ci k .boolean false) (hx : narrow .boolean (.int x) = .int x) (hz : fits .boolean (.int x) = true) (hg : x_put h a ci k (.int x) = some h') (hd : decode (mB M) pc = .ok (.putfield idx, 3)) (kk : Y S M h0 rv h1 mc ms (pc + 3) ls st h' cells slots) : Y S M h0 rv h1 mc ms pc ls (.int x :: .ref a :: st) h cells slots := y_put hf (fun q => by cases q) (fun _ _ => hx) (fun _ _ => hz) hg hd kk
theorem y_putR {x : Nat} {ty : FieldType} {fin : Bool} (hf : x_fldP (mY M).cls idx ci k ty fin) (hi : fin = true → (mY M).name = "<init>") (hn : ∀ b : Nat, narrow ty (.ref b) = .ref b) (hft : ∀ b : Nat, fits ty (.ref b) = true) (hg : x_put h a ci k (.ref x) = some h') (hd : decode (mB M) pc = .ok (.putfield idx, 3)) (kk : Y S M h0 rv h1 mc ms (pc + 3) ls st h' cells slots) : Y S M h0 rv h1 mc ms pc ls (.ref x :: .ref a :: st) h cells slots := y_put hf hi (fun _ _ => hn _) (fun _ _ => hft _) hg hd kk
theorem y_cVi0 {x : Int32} {u : Unit} {T : u_T} {N : Nat} {stk : List Value} (hC : Ctr M' (.ref a :: as) h (some (.int x)) h' 0 0) (hm : x_lnk (mY M).cls idx M' as.length) (hin : Cond.instanceMethod (mY M') ∈ x_WT) (hse : Cond.selects (mY M').cls (mY M') (mY M') ∈ x_WT) (hcl : vwCl[ci]? = some ((mY M').cls, T, N)) (hob : x_ob h a ci = some u) (hR : mF M' + 1 ≤ mF M ∧ 8 + (mL M' + 11) + mW M' ≤ mW M) (h8 : (st.map fun v => v.category).sum ≤ 8) (hd : decode (mB M) pc = .ok (.invokevirtual idx, 3)) (hf : cells ≤ mc ∧ slots ≤ ms) (hst : stk = as.reverse ++ .ref a :: st) (kk : Y S M h0 rv h1 mc ms (pc + 3) ls (.int x :: st) h' cells slots) : Y S M h0 rv h1 mc ms pc ls stk h cells slots := y_callV hC hm hin hse hcl hob hR h8 hd hf hst kk
theorem y_cSi0 {x : Int32} {stk : List Value} (hC : Ctr M' as h (some (.int x)) h' 0 0) (hm : x_lnk (mY M).cls idx M' as.length) (hsta : Cond.static (mY M') ∈ x_WT) (hR : mF M' + 1 ≤ mF M ∧ 8 + (mL M' + 11) + mW M' ≤ mW M) (h8 : (st.map fun v => v.category).sum ≤ 8) (hd : decode (mB M) pc = .ok (.invokestatic idx, 3)) (hf : cells ≤ mc ∧ slots ≤ ms) (hst : stk = as.reverse ++ st) (kk : Y S M h0 rv h1 mc ms (pc + 3) ls (.int x :: st) h' cells slots) : Y S M h0 rv h1 mc ms pc ls stk h cells slots := y_callS hC hm hsta hR h8 hd hf hst kk
theorem y_cVi1 {x : Int32} {u : Unit} {T : u_T} {N : Nat} {stk : List Value} (hC : Ctr M' (.ref a :: as) h (some (.int x)) h' mc' ms') (hm : x_lnk (mY M).cls idx M' as.length) (hin : Cond.instanceMethod (mY M') ∈ x_WT) (hse : Cond.selects (mY M').cls (mY M') (mY M') ∈ x_WT) (hcl : vwCl[ci]? = some ((mY M').cls, T, N)) (hob : x_ob h a ci = some u) (hR : mF M' + 1 ≤ mF M ∧ 8 + (mL M' + 11) + mW M' ≤ mW M) (h8 : (st.map fun v => v.category).sum ≤ 8) (hd : decode (mB M) pc = .ok (.invokevirtual idx, 3)) (hf : cells + mc' ≤ mc ∧ slots + ms' ≤ ms) (hst : stk = as.reverse ++ .ref a :: st) (kk : Y S M h0 rv h1 mc ms (pc + 3) ls (.int x :: st) h' (cells + mc') (slots + ms')) : Y S M h0 rv h1 mc ms pc ls stk h cells slots := y_callV hC hm hin hse hcl hob hR h8 hd hf hst kk
theorem y_cSi1 {x : Int32} {stk : List Value} (hC : Ctr M' as h (some (.int x)) h' mc' ms') (hm : x_lnk (mY M).cls idx M' as.length) (hsta : Cond.static (mY M') ∈ x_WT) (hR : mF M' + 1 ≤ mF M ∧ 8 + (mL M' + 11) + mW M' ≤ mW M) (h8 : (st.map fun v => v.category).sum ≤ 8) (hd : decode (mB M) pc = .ok (.invokestatic idx, 3)) (hf : cells + mc' ≤ mc ∧ slots + ms' ≤ ms) (hst : stk = as.reverse ++ st) (kk : Y S M h0 rv h1 mc ms (pc + 3) ls (.int x :: st) h' (cells + mc') (slots + ms')) : Y S M h0 rv h1 mc ms pc ls stk h cells slots := y_callS hC hm hsta hR h8 hd hf hst kk
theorem y_cVl0 {x : Int64} {u : Unit} {T : u_T} {N : Nat} {stk : List Value} (hC : Ctr M' (.ref a :: as) h (some (.long x)) h' 0 0) (hm : x_lnk (mY M).cls idx M' as.length) (hin : Cond.instanceMethod (mY M') ∈ x_WT) (hse : Cond.selects (mY M').cls (mY M') (mY M') ∈ x_WT) (hcl : vwCl[ci]? = some ((mY M').cls, T, N)) (hob : x_ob h a ci = some u) (hR : mF M' + 1 ≤ mF M ∧ 8 + (mL M' + 11) + mW M' ≤ mW M) (h8 : (st.map fun v => v.category).sum ≤ 8) (hd : decode (mB M) pc = .ok (.invokevirtual idx, 3)) (hf : cells ≤ mc ∧ slots ≤ ms) (hst : stk = as.reverse ++ .ref a :: st) (kk : Y S M h0 rv h1 mc ms (pc + 3) ls (.long x :: st) h' cells slots) : Y S M h0 rv h1 mc ms pc ls stk h cells slots := y_callV hC hm hin hse hcl hob hR h8 hd hf hst kk
theorem y_cSl0 {x : Int64} {stk : List Value} (hC : Ctr M' as h (some (.long x)) h' 0 0) (hm : x_lnk (mY M).cls idx M' as.length) (hsta : Cond.static (mY M') ∈ x_WT) (hR : mF M' + 1 ≤ mF M ∧ 8 + (mL M' + 11) + mW M' ≤ mW M) (h8 : (st.map fun v => v.category).sum ≤ 8) (hd : decode (mB M) pc = .ok (.invokestatic idx, 3)) (hf : cells ≤ mc ∧ slots ≤ ms) (hst : stk = as.reverse ++ st) (kk : Y S M h0 rv h1 mc ms (pc + 3) ls (.long x :: st) h' cells slots) : Y S M h0 rv h1 mc ms pc ls stk h cells slots := y_callS hC hm hsta hR h8 hd hf hst kk
theorem y_cVl1 {x : Int64} {u : Unit} {T : u_T} {N : Nat} {stk : List Value} (hC : Ctr M' (.ref a :: as) h (some (.long x)) h' mc' ms') (hm : x_lnk (mY M).cls idx M' as.length) (hin : Cond.instanceMethod (mY M') ∈ x_WT) (hse : Cond.selects (mY M').cls (mY M') (mY M') ∈ x_WT) (hcl : vwCl[ci]? = some ((mY M').cls, T, N)) (hob : x_ob h a ci = some u) (hR : mF M' + 1 ≤ mF M ∧ 8 + (mL M' + 11) + mW M' ≤ mW M) (h8 : (st.map fun v => v.category).sum ≤ 8) (hd : decode (mB M) pc = .ok (.invokevirtual idx, 3)) (hf : cells + mc' ≤ mc ∧ slots + ms' ≤ ms) (hst : stk = as.reverse ++ .ref a :: st) (kk : Y S M h0 rv h1 mc ms (pc + 3) ls (.long x :: st) h' (cells + mc') (slots + ms')) : Y S M h0 rv h1 mc ms pc ls stk h cells slots := y_callV hC hm hin hse hcl hob hR h8 hd hf hst kk
theorem y_cSl1 {x : Int64} {stk : List Value} (hC : Ctr M' as h (some (.long x)) h' mc' ms') (hm : x_lnk (mY M).cls idx M' as.length) (hsta : Cond.static (mY M') ∈ x_WT) (hR : mF M' + 1 ≤ mF M ∧ 8 + (mL M' + 11) + mW M' ≤ mW M) (h8 : (st.map fun v => v.category).sum ≤ 8) (hd : decode (mB M) pc = .ok (.invokestatic idx, 3)) (hf : cells + mc' ≤ mc ∧ slots + ms' ≤ ms) (hst : stk = as.reverse ++ st) (kk : Y S M h0 rv h1 mc ms (pc + 3) ls (.long x :: st) h' (cells + mc') (slots + ms')) : Y S M h0 rv h1 mc ms pc ls stk h cells slots := y_callS hC hm hsta hR h8 hd hf hst kk
theorem y_cVr0 {x : Nat} {u : Unit} {T : u_T} {N : Nat} {stk : List Value} (hC : Ctr M' (.ref a :: as) h (some (.ref x)) h' 0 0) (hm : x_lnk (mY M).cls idx M' as.length) (hin : Cond.instanceMethod (mY M') ∈ x_WT) (hse : Cond.selects (mY M').cls (mY M') (mY M') ∈ x_WT) (hcl : vwCl[ci]? = some ((mY M').cls, T, N)) (hob : x_ob h a ci = some u) (hR : mF M' + 1 ≤ mF M ∧ 8 + (mL M' + 11) + mW M' ≤ mW M) (h8 : (st.map fun v => v.category).sum ≤ 8) (hd : decode (mB M) pc = .ok (.invokevirtual idx, 3)) (hf : cells ≤ mc ∧ slots ≤ ms) (hst : stk = as.reverse ++ .ref a :: st) (kk : Y S M h0 rv h1 mc ms (pc + 3) ls (.ref x :: st) h' cells slots) : Y S M h0 rv h1 mc ms pc ls stk h cells slots := y_callV hC hm hin hse hcl hob hR h8 hd hf hst kk
theorem y_cSr0 {x : Nat} {stk : List Value} (hC : Ctr M' as h (some (.ref x)) h' 0 0) (hm : x_lnk (mY M).cls idx M' as.length) (hsta : Cond.static (mY M') ∈ x_WT) (hR : mF M' + 1 ≤ mF M ∧ 8 + (mL M' + 11) + mW M' ≤ mW M) (h8 : (st.map fun v => v.category).sum ≤ 8) (hd : decode (mB M) pc = .ok (.invokestatic idx, 3)) (hf : cells ≤ mc ∧ slots ≤ ms) (hst : stk = as.reverse ++ st) (kk : Y S M h0 rv h1 mc ms (pc + 3) ls (.ref x :: st) h' cells slots) : Y S M h0 rv h1 mc ms pc ls stk h cells slots := y_callS hC hm hsta hR h8 hd hf hst kk
theorem y_cVr1 {x : Nat} {u : Unit} {T : u_T} {N : Nat} {stk : List Value} (hC : Ctr M' (.ref a :: as) h (some (.ref x)) h' mc' ms') (hm : x_lnk (mY M).cls idx M' as.length) (hin : Cond.instanceMethod (mY M') ∈ x_WT) (hse : Cond.selects (mY M').cls (mY M') (mY M') ∈ x_WT) (hcl : vwCl[ci]? = some ((mY M').cls, T, N)) (hob : x_ob h a ci = some u) (hR : mF M' + 1 ≤ mF M ∧ 8 + (mL M' + 11) + mW M' ≤ mW M) (h8 : (st.map fun v => v.category).sum ≤ 8) (hd : decode (mB M) pc = .ok (.invokevirtual idx, 3)) (hf : cells + mc' ≤ mc ∧ slots + ms' ≤ ms) (hst : stk = as.reverse ++ .ref a :: st) (kk : Y S M h0 rv h1 mc ms (pc + 3) ls (.ref x :: st) h' (cells + mc') (slots + ms')) : Y S M h0 rv h1 mc ms pc ls stk h cells slots := y_callV hC hm hin hse hcl hob hR h8 hd hf hst kk
theorem y_cSr1 {x : Nat} {stk : List Value} (hC : Ctr M' as h (some (.ref x)) h' mc' ms') (hm : x_lnk (mY M).cls idx M' as.length) (hsta : Cond.static (mY M') ∈ x_WT) (hR : mF M' + 1 ≤ mF M ∧ 8 + (mL M' + 11) + mW M' ≤ mW M) (h8 : (st.map fun v => v.category).sum ≤ 8) (hd : decode (mB M) pc = .ok (.invokestatic idx, 3)) (hf : cells + mc' ≤ mc ∧ slots + ms' ≤ ms) (hst : stk = as.reverse ++ st) (kk : Y S M h0 rv h1 mc ms (pc + 3) ls (.ref x :: st) h' (cells + mc') (slots + ms')) : Y S M h0 rv h1 mc ms pc ls stk h cells slots := y_callS hC hm hsta hR h8 hd hf hst kk
theorem y_cVv0 {u : Unit} {T : u_T} {N : Nat} {stk : List Value} (hC : Ctr M' (.ref a :: as) h (none) h' 0 0) (hm : x_lnk (mY M).cls idx M' as.length) (hin : Cond.instanceMethod (mY M') ∈ x_WT) (hse : Cond.selects (mY M').cls (mY M') (mY M') ∈ x_WT) (hcl : vwCl[ci]? = some ((mY M').cls, T, N)) (hob : x_ob h a ci = some u) (hR : mF M' + 1 ≤ mF M ∧ 8 + (mL M' + 11) + mW M' ≤ mW M) (h8 : (st.map fun v => v.category).sum ≤ 8) (hd : decode (mB M) pc = .ok (.invokevirtual idx, 3)) (hf : cells ≤ mc ∧ slots ≤ ms) (hst : stk = as.reverse ++ .ref a :: st) (kk : Y S M h0 rv h1 mc ms (pc + 3) ls (st) h' cells slots) : Y S M h0 rv h1 mc ms pc ls stk h cells slots := y_callV hC hm hin hse hcl hob hR h8 hd hf hst kk
theorem y_cSv0 {stk : List Value} (hC : Ctr M' as h (none) h' 0 0) (hm : x_lnk (mY M).cls idx M' as.length) (hsta : Cond.static (mY M') ∈ x_WT) (hR : mF M' + 1 ≤ mF M ∧ 8 + (mL M' + 11) + mW M' ≤ mW M) (h8 : (st.map fun v => v.category).sum ≤ 8) (hd : decode (mB M) pc = .ok (.invokestatic idx, 3)) (hf : cells ≤ mc ∧ slots ≤ ms) (hst : stk = as.reverse ++ st) (kk : Y S M h0 rv h1 mc ms (pc + 3) ls (st) h' cells slots) : Y S M h0 rv h1 mc ms pc ls stk h cells slots := y_callS hC hm hsta hR h8 hd hf hst kk
theorem y_cIv0 {stk : List Value} (hC : Ctr M' (.ref a :: as) h none h' 0 0) (hm : x_lnk (mY M).cls idx M' as.length) (hin : Cond.instanceMethod (mY M') ∈ x_WT) (hT : mT M' = none) (hy : (mY M').name = "<init>") (ha : 16 ≤ a) (hR : mF M' + 1 ≤ mF M ∧ 8 + (mL M' + 11) + mW M' ≤ mW M) (h8 : (st.map fun v => v.category).sum ≤ 8) (hd : decode (mB M) pc = .ok (.invokespecial idx, 3)) (hf : cells ≤ mc ∧ slots ≤ ms) (hst : stk = as.reverse ++ .ref a :: st) (kk : Y S M h0 rv h1 mc ms (pc + 3) ls st h' cells slots) : Y S M h0 rv h1 mc ms pc ls stk h cells slots := y_callI hC hm hin hT hy ha hR h8 hd hf hst kk
theorem y_cVv1 {u : Unit} {T : u_T} {N : Nat} {stk : List Value} (hC : Ctr M' (.ref a :: as) h (none) h' mc' ms') (hm : x_lnk (mY M).cls idx M' as.length) (hin : Cond.instanceMethod (mY M') ∈ x_WT) (hse : Cond.selects (mY M').cls (mY M') (mY M') ∈ x_WT) (hcl : vwCl[ci]? = some ((mY M').cls, T, N)) (hob : x_ob h a ci = some u) (hR : mF M' + 1 ≤ mF M ∧ 8 + (mL M' + 11) + mW M' ≤ mW M) (h8 : (st.map fun v => v.category).sum ≤ 8) (hd : decode (mB M) pc = .ok (.invokevirtual idx, 3)) (hf : cells + mc' ≤ mc ∧ slots + ms' ≤ ms) (hst : stk = as.reverse ++ .ref a :: st) (kk : Y S M h0 rv h1 mc ms (pc + 3) ls (st) h' (cells + mc') (slots + ms')) : Y S M h0 rv h1 mc ms pc ls stk h cells slots := y_callV hC hm hin hse hcl hob hR h8 hd hf hst kk
theorem y_cSv1 {stk : List Value} (hC : Ctr M' as h (none) h' mc' ms') (hm : x_lnk (mY M).cls idx M' as.length) (hsta : Cond.static (mY M') ∈ x_WT) (hR : mF M' + 1 ≤ mF M ∧ 8 + (mL M' + 11) + mW M' ≤ mW M) (h8 : (st.map fun v => v.category).sum ≤ 8) (hd : decode (mB M) pc = .ok (.invokestatic idx, 3)) (hf : cells + mc' ≤ mc ∧ slots + ms' ≤ ms) (hst : stk = as.reverse ++ st) (kk : Y S M h0 rv h1 mc ms (pc + 3) ls (st) h' (cells + mc') (slots + ms')) : Y S M h0 rv h1 mc ms pc ls stk h cells slots := y_callS hC hm hsta hR h8 hd hf hst kk
theorem y_cIv1 {stk : List Value} (hC : Ctr M' (.ref a :: as) h none h' mc' ms') (hm : x_lnk (mY M).cls idx M' as.length) (hin : Cond.instanceMethod (mY M') ∈ x_WT) (hT : mT M' = none) (hy : (mY M').name = "<init>") (ha : 16 ≤ a) (hR : mF M' + 1 ≤ mF M ∧ 8 + (mL M' + 11) + mW M' ≤ mW M) (h8 : (st.map fun v => v.category).sum ≤ 8) (hd : decode (mB M) pc = .ok (.invokespecial idx, 3)) (hf : cells + mc' ≤ mc ∧ slots + ms' ≤ ms) (hst : stk = as.reverse ++ .ref a :: st) (kk : Y S M h0 rv h1 mc ms (pc + 3) ls st h' (cells + mc') (slots + ms')) : Y S M h0 rv h1 mc ms pc ls stk h cells slots := y_callI hC hm hin hT hy ha hR h8 hd hf hst kk
theorem y_cnt {c2 s2 : Nat} (hc : cells = c2) (hs : slots = s2) (kk : Y S M h0 rv h1 mc ms pc ls st h c2 s2) : Y S M h0 rv h1 mc ms pc ls st h cells slots := by
  subst hc
  subst hs
  exact kk
theorem y_ldc_w {v : Int32} (hw : Cond.constant (mY M).cls idx v ∈ x_WT) (hd : decode (mB M) pc = .ok (.ldc_w idx, 3)) (kk : Y S M h0 rv h1 mc ms (pc + 3) ls (.int v :: st) h cells slots) : Y S M h0 rv h1 mc ms pc ls st h cells slots := by
  intro l D B σ p e s m args below meth c Qf ρ0 C Rt ρ κ H locs lsc hr hle hI hS hl hkl hks
  have K := kk l D B σ p e s m args below meth c Qf ρ0 C Rt ρ κ H locs lsc hr hle hI hS hl hkl (ks_c (by exact True.intro) hks)
  exact lv_ldcw C.1 C.2.1 C.2.2.2.1 (C.2.2.2.2.1 _ hw) hd K
end YM
