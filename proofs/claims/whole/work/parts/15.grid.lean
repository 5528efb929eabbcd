/-! Arrays of arrays: what Op.multianewarray makes, by its own loop. -/
def x_mo (c : ClassId) (N b i : Nat) : Cell := arrV c N (fun j => if j < i then .ref (b + 1 + j) else .null)
def x_mi (c : ClassId) (K : Nat) (v : Value) : Cell := arrV c K (fun _ => v)
def x_mf (s : State) (c d : ClassId) (N K : Nat) (v : Value) : Nat → State
  | 0 => s.pushCell (x_mo c N s.heap.size 0)
  | i + 1 => ((x_mf s c d N K v i).pushCell (x_mi d K v)).setCell s.heap.size (x_mo c N s.heap.size (i + 1))
theorem x_mo.size {c : ClassId} {N b i : Nat} : (x_mo c N b i).slots.size = N := arrV_size _ _ _
theorem x_mi.size {c : ClassId} {K : Nat} {v : Value} : (x_mi c K v).slots.size = K := arrV_size _ _ _
theorem x_mo.step {c : ClassId} {N b i : Nat} : (x_mo c N b i).setSlot i (.ref (b + 1 + i)) = x_mo c N b (i + 1) := by
  unfold x_mo
  rw [arrV_store]
  refine congrArg (arrV c N) (funext fun j => ?_)
  unfold updV
  by_cases hj : j = i
  · subst hj
    rw [if_pos rfl, if_pos (by omega)]
  · rw [if_neg hj]
    show (if j < i then Value.ref (b + 1 + j) else Value.null) = if j < i + 1 then Value.ref (b + 1 + j) else Value.null
    by_cases h2 : j < i
    · rw [if_pos h2, if_pos (by omega)]
    · rw [if_neg h2, if_neg (by omega)]
theorem x_mf.facts (s : State) (c d : ClassId) (N K : Nat) (v : Value) (i : Nat) : (x_mf s c d N K v i).heap.size = s.heap.size + 1 + i ∧ (x_mf s c d N K v i).heap[s.heap.size]? = some (x_mo c N s.heap.size i) ∧ (x_mf s c d N K v i).vm = s.vm ∧ (x_mf s c d N K v i).slotsUsed = s.slotsUsed + N + i * K ∧ (∀ a : Nat, a < s.heap.size → (x_mf s c d N K v i).heap[a]? = s.heap[a]?) ∧ ∀ j : Nat, j < i → (x_mf s c d N K v i).heap[s.heap.size + 1 + j]? = some (x_mi d K v) := by
  induction i with
  | zero =>
    refine ⟨by simp [x_mf], State.heap_pushCell_size _ _, rfl, ?_, fun a ha => State.heap_pushCell_of_lt _ _ ha, fun j hj => absurd hj (Nat.not_lt_zero j)⟩
    simp [x_mf, x_mo.size]
  | succ i ih =>
    obtain ⟨h1, h2, h3, h4, h5, h6⟩ := ih
    have hlt : s.heap.size < (x_mf s c d N K v i).heap.size := by omega
    have h2' : ((x_mf s c d N K v i).pushCell (x_mi d K v)).heap[s.heap.size]? = some (x_mo c N s.heap.size i) := by rw [State.heap_pushCell_of_lt (h := hlt)]; exact h2
    refine ⟨?_, State.heap_setCell_self h2', ?_, ?_, fun a ha => ?_, fun j hj => ?_⟩
    · simp [x_mf, State.setCell, h1]; omega
    · simp [x_mf, h3]
    · simp [x_mf, h4, x_mi.size, Nat.succ_mul]; omega
    · show (((x_mf s c d N K v i).pushCell (x_mi d K v)).setCell s.heap.size _).heap[a]? = _
      have hla : a < (x_mf s c d N K v i).heap.size := by omega
      rw [State.heap_setCell_other (Nat.ne_of_gt ha), State.heap_pushCell_of_lt (h := hla)]
      exact h5 a ha
    · show (((x_mf s c d N K v i).pushCell (x_mi d K v)).setCell s.heap.size _).heap[s.heap.size + 1 + j]? = _
      rw [State.heap_setCell_other (show s.heap.size ≠ s.heap.size + 1 + j by omega)]
      by_cases hji : j = i
      · subst hji
        rw [← h1]
        exact State.heap_pushCell_size _ _
      · have hlj : s.heap.size + 1 + j < (x_mf s c d N K v i).heap.size := by omega
        rw [State.heap_pushCell_of_lt (h := hlj)]
        exact h6 j (by omega)
theorem x_mf.setTop (s : State) (g : JFrame) (c d : ClassId) (N K : Nat) (v : Value) (i : Nat) : x_mf (s.setTop g) c d N K v i = (x_mf s c d N K v i).setTop g := by
  induction i with
  | zero => rfl
  | succ i ih => simp only [x_mf, ih, State.heap_setTop, State.pushCell_setTop, State.setCell_setTop]
section MW
variable {E : CtlPost} {e : Env} {d : Bool} {acts : List Action} {s : State}
theorem x_newArr {c cm : ClassId} {k : Class} {ty : FieldType} {len : Nat} {v : Value} (hk : s.vm.classes[c]? = some k) (hkind : k.kind = .array cm ty) (h1 : ¬ len > e.platform.arrayLengthLimit) (h2 : ¬ len * componentBytes ty > e.platform.maxHeapBytes) (hf : fits ty v = true) (hd : v.isDefault = true) (h3 : s.heap.size < e.platform.maxCells) (h4 : s.slotsUsed + len ≤ e.platform.maxSlots) {Q : Addr → Pre} (hq : Q s.heap.size d acts (s.pushCell (arrV c len (fun _ => v)))) : wp (Jvm.newArray c len v) Q E e d acts s := by
  rw [← arrV_new] at hq
  have g1 : ∀ i w, (Array.replicate len v)[i]? = some w → s.fitsSlot c .none i w = true := by
    intro i w hw
    rw [Array.getElem?_replicate] at hw
    by_cases hi : i < len
    · rw [if_pos hi] at hw
      cases hw
      simp [State.fitsSlot, State.slotType?, hk, hkind, hf]
    · rw [if_neg hi] at hw; cases hw
  have g2 : allocActs (Array.replicate len v) s.heap.size acts = acts := by
    have : ((Array.replicate len v).all (·.isDefault)) = true := by
      rw [Array.all_replicate]
      split <;> simp [hd]
    unfold allocActs
    rw [if_pos this]
  simp only [Jvm.newArray, Jvm.arrayFits, wp_bind', W.ask, W.ite, h1, if_false, wp_pure', W.theClass, hk, hkind, h2, W.alloc, W.stop, Option.some.injEq, exists_eq_left', Array.size_replicate, g2]
  rw [if_neg (by omega)]
  exact ⟨h3, h4, g1, hq⟩
theorem x_refFit {t : FieldType} (h : t.isReference = true) (a : Nat) : fits t (.ref a) = true := by cases t <;> first | rfl | cases h
theorem x_nullFit {t : FieldType} (h : t.isReference = true) : fits t .null = true := by cases t <;> first | rfl | cases h
theorem x_make1 {dc cm : ClassId} {k : Class} {ty : FieldType} {m : Int32} (hk : s.vm.classes[dc]? = some k) (hkind : k.kind = .array cm ty) (hm : ¬ m < 0) (h1 : ¬ m.toNatClampNeg > e.platform.arrayLengthLimit) (h2 : ¬ m.toNatClampNeg * componentBytes ty > e.platform.maxHeapBytes) (hf : fits ty (defaultValue ty) = true) (hd : (defaultValue ty).isDefault = true) (h3 : s.heap.size < e.platform.maxCells) (h4 : s.slotsUsed + m.toNatClampNeg ≤ e.platform.maxSlots)
    {Q : Addr → Pre} (hq : Q s.heap.size d acts (s.pushCell (x_mi dc m.toNatClampNeg (defaultValue ty)))) : wp (multianewarray.make dc [m]) Q E e d acts s := by
  rw [multianewarray.make]
  simp only [wp_bind', W.ite, hm, if_false, wp_pure', W.theClass, hk, hkind, Option.some.injEq, exists_eq_left']
  exact x_newArr hk hkind h1 h2 hf hd h3 h4 hq
theorem x_make2 {c dc cm : ClassId} {k kc : Class} {t0 ty : FieldType} {n m : Int32} (hk : s.vm.classes[c]? = some k) (hkind : k.kind = .array dc t0) (href : t0.isReference = true) (hkc : s.vm.classes[dc]? = some kc) (hkindc : kc.kind = .array cm ty) (hn : ¬ n < 0) (hm : ¬ m < 0)
    (l1 : ¬ n.toNatClampNeg > e.platform.arrayLengthLimit) (l2 : ¬ n.toNatClampNeg * componentBytes t0 > e.platform.maxHeapBytes) (l3 : ¬ m.toNatClampNeg > e.platform.arrayLengthLimit) (l4 : ¬ m.toNatClampNeg * componentBytes ty > e.platform.maxHeapBytes) (hf : fits ty (defaultValue ty) = true) (hd : (defaultValue ty).isDefault = true)
    (r1 : s.heap.size + 1 + n.toNatClampNeg ≤ e.platform.maxCells) (r2 : s.slotsUsed + n.toNatClampNeg + n.toNatClampNeg * m.toNatClampNeg ≤ e.platform.maxSlots)
    {Q : Addr → Pre} (hq : ∀ d' acts', Q s.heap.size d' acts' (x_mf s c dc n.toNatClampNeg m.toNatClampNeg (defaultValue ty) n.toNatClampNeg)) : wp (multianewarray.make c [n, m]) Q E e d acts s := by
  generalize hN : n.toNatClampNeg = N at *
  generalize hM : m.toNatClampNeg = K at *
  have hno : ([m].find? (· < 0)) = none := by simp [hm]
  rw [multianewarray.make]
  simp only [wp_bind', W.ite, hn, if_false, wp_pure', W.theClass, hk, hkind, Option.some.injEq, exists_eq_left', hN]
  refine x_newArr hk hkind l1 l2 (x_nullFit href) rfl (by omega) (by have := Nat.zero_le (N * K); omega) ?_
  simp only [hno]
  rw [ite_self, wp_bind', Std.Legacy.Range.forIn_eq_forIn_range']
  have hsz : ([:N] : Std.Legacy.Range).size = N := by simp [Std.Legacy.Range.size]
  rw [hsz]
  have h00 : x_mo c N s.heap.size 0 = arrV c N (fun _ => .null) := by
    unfold x_mo
    exact congrArg (arrV c N) (funext fun j => if_neg (Nat.not_lt_zero j))
  show wp (forIn (List.range' 0 N 1) PUnit.unit _) _ E e d acts _
  refine wp_forIn_inv (fun rest s' => ∃ i, i ≤ N ∧ rest = List.range' i (N - i) ∧ s' = x_mf s c dc N K (defaultValue ty) i) _ _ ⟨0, Nat.zero_le _, rfl, by show _ = s.pushCell _; rw [h00]⟩ ?_ ?_
  · rintro x rest s' d' acts' Q' ⟨i, hi, hl, rfl⟩ hnext
    have hlt : i < N := by
      rcases Nat.lt_or_ge i N with q | q
      · exact q
      · rw [show N - i = 0 by omega] at hl; simp at hl
    rw [show N - i = (N - (i + 1)) + 1 by omega, List.range'_succ] at hl
    obtain ⟨rfl, hrest⟩ := List.cons.inj hl
    obtain ⟨f1, f2, f3, f4, -, -⟩ := x_mf.facts s c dc N K (defaultValue ty) x
    have hmul : x * K + K ≤ N * K := by
      have := Nat.mul_le_mul_right K (show x + 1 ≤ N from hlt)
      rw [Nat.succ_mul] at this
      exact this
    simp only [wp_bind']
    refine x_make1 (by rw [f3]; exact hkc) hkindc hm (by rw [hM]; exact l3) (by rw [hM]; exact l4) hf hd (by rw [f1]; omega) (by rw [f4, hM]; omega) ?_
    rw [hM]
    have hlt0 : s.heap.size < (x_mf s c dc N K (defaultValue ty) x).heap.size := by omega
    simp only [wp_bind', W.writeLoc, wp_pure']
    refine ⟨x_mo c N s.heap.size x, by rw [State.heap_pushCell_of_lt (h := hlt0)]; exact f2, (by intro q; cases q), by rw [x_mo.size]; exact hlt, ?_, hnext _ _ _ ⟨x + 1, hlt, hrest, ?_⟩⟩
    · show State.fitsSlot _ c .none x _ = true
      simp [State.fitsSlot, State.slotType?, f3, hk, hkind, x_refFit href]
    · rw [f1, x_mo.step]; rfl
  · rintro s' d' acts' ⟨i, hi, hl, rfl⟩
    have hiN : i = N := by
      rcases Nat.lt_or_ge i N with q | q
      · rw [show N - i = (N - (i + 1)) + 1 by omega, List.range'_succ] at hl; cases hl
      · omega
    subst hiN
    simp only [wp_pure']
    exact hq _ _
end MW
