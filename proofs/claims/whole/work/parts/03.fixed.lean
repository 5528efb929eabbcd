/-! What is fixed: words of nest mates, the script, two tables, twelve texts. -/
def x_nest (w : Cond) : Bool := match w with
  | .fieldLinkNest _ _ _ _ _ _ => true
  | .methodLinkNest _ _ _ _ => true
  | _ => false
def x_WT : List Cond := lw_tbl.filter goodWord
def x_NW : List Cond := tables_1.filter x_nest
def x_tW (j : Nat) : Int32 := ([1, 1, 2, 1, 0, 2] : List Int32).getD j 0
def x_tU (j : Nat) : Int32 := ([-1, 0, 0, 0, 0, 2] : List Int32).getD j 0
def x_tx : List (String × Nat × String × List Int32) := [("WhoOpensOne$Tape", 49, "door", [100, 111, 111, 114]), ("WhoOpensOne$Tape", 63, "one", [111, 110, 101]), ("WhoOpensOne$Tape", 71, "law", [108, 97, 119]), ("WhoOpensOne$Tape", 76, "wind", [119, 105, 110, 100]), ("WhoOpensOne$Tape", 81, "moves", [109, 111, 118, 101, 115]), ("WhoOpensOne$Tape", 96, "open", [111, 112, 101, 110]), ("WhoOpensOneModel", 172, "door", [100, 111, 111, 114]), ("WhoOpensOneModel", 185, "one", [111, 110, 101]), ("WhoOpensOneModel", 189, "law", [108, 97, 119]), ("WhoOpensOneModel", 190, "wind", [119, 105, 110, 100]), ("WhoOpensOneModel", 191, "moves", [109, 111, 118, 101, 115]), ("WhoOpensOneModel", 180, "open", [111, 112, 101, 110])]
def x_AO (ty : FieldType) (U : State) : Prop := (Cond.arrayOver ty).before #[] U = true
def x_FS (B : Nat) (σ : Nat → Nat) (L : Nat) (xs : Nat → Int32) (U : State) (H : Heap) : Prop :=
  (∀ w ∈ x_NW, va_Nw w U) ∧ (va_X (σ 0) L xs U H ∧ σ 0 < B ∧ σ 0 < H.size) ∧
  (va_Z "WhoOpensOne" "WEIGHTS" "[I" (.ref (σ 1)) (fun q => B ≤ q) U H ∧ va_T .int (σ 1) 6 (fun j => .int (x_tW j)) (fun q => B ≤ q) U H) ∧
  (va_Z "WhoOpensOne" "UNDER" "[I" (.ref (σ 2)) (fun q => B ≤ q) U H ∧ va_T .int (σ 2) 6 (fun j => .int (x_tU j)) (fun q => B ≤ q) U H) ∧
  (∀ (i : Nat) (q : String × Nat × String × List Int32), x_tx[i]? = some q → ∃ t : Nat, vk_R q.1 q.2.1 q.2.2.1 (σ (3 + i)) U ∧ va_O "java/lang/String" (σ (3 + i)) (fun q => B ≤ q) U H ∧ va_OF "java/lang/String" "coder" "B" (.int 0) (σ (3 + i)) (fun q => B ≤ q) U H ∧ va_OF "java/lang/String" "value" "[B" (.ref t) (σ (3 + i)) (fun q => B ≤ q) U H ∧ va_T .byte t q.2.2.2.length (fun j => .int (q.2.2.2.getD j 0)) (fun q => B ≤ q) U H) ∧
  va_Z "java/lang/String" "COMPACT_STRINGS" "Z" (.int 1) (fun q => B ≤ q) U H ∧ va_Zq "jdk/internal/util/Preconditions" "SIOOBE_FORMATTER" "Ljava/util/function/BiFunction;" (fun q => B ≤ q) U H ∧
  (va_AO "WhoOpensOne$Shelf" U ∧ x_AO (.array .int) U ∧ x_AO (.array .long) U)
theorem x_nw {s U : State} (hW : s.WarmedH U.vm) {w : Cond} (hw : x_nest w = true) (h : va_Nw w s) : va_Nw w U := by
  cases w <;> first | exact va_Nw.warmF hW h | exact va_Nw.warmM hW h | cases hw
theorem x_AO.warm {t : FieldType} {s U : State} (hW : s.WarmedH U.vm) (h : x_AO (.array t) s) : x_AO (.array t) U := by
  have hvm := hW.alike
  unfold x_AO Cond.before Cond.holds at h ⊢
  simp only [Cond.value] at h ⊢
  rw [hvm.findClass, hvm.findClass]
  cases hc : s.vm.findClass (FieldType.array t).toString with
  | none => rw [hc] at h; exact h
  | some comp =>
    rw [hc] at h
    have hi : (U.vm.classes.findIdx? fun (x : Class) => match x.kind with | .array component _ => component == comp | _ => false) = (s.vm.classes.findIdx? fun (x : Class) => match x.kind with | .array component _ => component == comp | _ => false) := by
      refine (va_idx_bare U.vm comp).symm.trans (Eq.trans ?_ (va_idx_bare s.vm comp))
      first | rw [hvm.bare_eq] | rw [← hvm.bare_eq]
    have h2 : (((s.vm.classes.findIdx? fun (x : Class) => match x.kind with | .array component _ => component == comp | _ => false).bind (fun c => (s.vm.classes[c]?).map fun (k : Class) => match k.kind with | .array _ ty => decide (ty = FieldType.array t) && decide (s.vm.findClass ("[" ++ (FieldType.array t).toString) = some c) | _ => false)) == some true) = true := h
    show (((U.vm.classes.findIdx? fun (x : Class) => match x.kind with | .array component _ => component == comp | _ => false).bind (fun c => (U.vm.classes[c]?).map fun (k : Class) => match k.kind with | .array _ ty => decide (ty = FieldType.array t) && decide (s.vm.findClass ("[" ++ (FieldType.array t).toString) = some c) | _ => false)) == some true) = true
    rw [hi]
    cases hj : (s.vm.classes.findIdx? fun (x : Class) => match x.kind with | .array component _ => component == comp | _ => false) with
    | none => rw [hj] at h2; exact h2
    | some c =>
      rw [hj] at h2
      rw [Option.bind_some] at h2 ⊢
      cases hk : s.vm.classes[c]? with
      | none => rw [hk] at h2; simp at h2
      | some k =>
        obtain ⟨k', hk', he⟩ := hvm.2.2 _ _ hk
        rw [hk] at h2
        rw [hk', he]
        exact h2
theorem x_FS.warm {B : Nat} {σ : Nat → Nat} {L : Nat} {xs : Nat → Int32} {s U : State} {H : Heap} (hW : s.WarmedH U.vm) (h : x_FS B σ L xs s H) : x_FS B σ L xs U H := by
  obtain ⟨h1, ⟨h2, h2b⟩, ⟨h3, h4⟩, ⟨h5, h6⟩, h7, h8, h9, h10, h11, h12⟩ := h
  have hv := hW.alike
  refine ⟨fun w hw => x_nw hW (List.mem_filter.mp hw).2 (h1 w hw), ⟨h2.moved hv, h2b⟩, ⟨h3.moved hv, h4.moved hv⟩, ⟨h5.moved hv, h6.moved hv⟩, fun i q hq => ?_, h8.moved hv, h9.moved hv, h10.moved hv, h11.warm hW, h12.warm hW⟩
  obtain ⟨t, a1, a2, a3, a4, a5⟩ := h7 i q hq
  exact ⟨t, a1.warm hW, a2.moved hv, a3.moved hv, a4.moved hv, a5.moved hv⟩
theorem x_FS.kept {B : Nat} {σ : Nat → Nat} {L : Nat} {xs : Nat → Int32} {U : State} {H H1 : Heap} (hz : H.size ≤ H1.size) (hk : ∀ q : Nat, q < H.size → ¬ B ≤ q → H1[q]? = H[q]?) (h : x_FS B σ L xs U H) : x_FS B σ L xs U H1 := by
  obtain ⟨h1, ⟨h2, h2b, h2c⟩, ⟨h3, h4⟩, ⟨h5, h6⟩, h7, h8, h9, h10⟩ := h
  refine ⟨h1, ⟨h2.kept (hk _ h2c (by omega)), h2b, by omega⟩, ⟨h3.kept hk, h4.kept hk⟩, ⟨h5.kept hk, h6.kept hk⟩, fun i q hq => ?_, h8.kept hk, h9.kept hk, h10⟩
  obtain ⟨t, a1, a2, a3, a4, a5⟩ := h7 i q hq
  exact ⟨t, a1, a2.kept hk, a3.kept hk, a4.kept hk, a5.kept hk⟩
/-! The judgement Y: the machine, at place pc of method M, comes to its return with answer rv and heap h1. -/
abbrev MI : Type := MethodName × ByteArray × Nat × Option FieldType × Nat × Nat
abbrev mY (M : MI) : MethodName := M.1
abbrev mB (M : MI) : ByteArray := M.2.1
abbrev mL (M : MI) : Nat := M.2.2.1
abbrev mT (M : MI) : Option FieldType := M.2.2.2.1
abbrev mF (M : MI) : Nat := M.2.2.2.2.1
abbrev mW (M : MI) : Nat := M.2.2.2.2.2
abbrev mR (M : MI) (mc ms : Nat) : Room := { frames := mF M, cells := mc, slots := ms, locals := mW M }
def x_C (M : MI) (B : Nat) (σ : Nat → Nat) (L : Nat) (xs : Nat → Int32) (p : Program) (s : State) (m : MethodId) (args : Array Value) (meth : Method) (c : Code) : Prop :=
  p.tables.exec = Jvm.exec ∧ c.code = mB M ∧ c.maxLocals = mL M ∧ s.vm.findClass (mY M).cls = some m.cls ∧ (∀ w ∈ x_WT, w.before args s = true) ∧ x_FS B σ L xs s s.heap ∧ B ≤ s.heap.size ∧ meth.name = (mY M).name
def x_ret (rv : Option Value) : Instr := match rv with
  | none => .return_
  | some (.int _) => .ireturn
  | some (.long _) => .lreturn
  | some (.float _) => .freturn
  | some (.double _) => .dreturn
  | some _ => .areturn
/-- the answer fits the method's type -/
def x_rok (t : Option FieldType) (rv : Option Value) : Prop := match rv with
  | none => t = none
  | some (.int v) => ∃ ty, t = some ty ∧ narrow ty (.int v) = .int v
  | some (.long _) => t = some .long
  | some (.ref _) => ∃ rt, t = some rt ∧ ((∃ n, rt = .object n) ∨ ∃ t, rt = .array t)
  | _ => False
def x_R (M : MI) (l : Launch) (D : va_G) (B : Nat) (σ ρ0 : Nat → Nat) (h0 : xH) (rv : Option Value) (h1 : xH) (mc ms : Nat) (p : Program) (e : Env) (s : State) (m : MethodId) (args : Array Value) (below : List Frame) (meth : Method) (c : Code) (Qf : State → Prop) : Prop :=
  ∀ (ρ : Nat → Nat) (κ : Nat → ClassId) (H : Heap) (locs : List Loc) (lsc : Array Slot) (pc cells slots : Nat), (∀ k, k < h0.length → ρ k = ρ0 k) → h0.length ≤ h1.length → x_I D B σ ρ κ h1 s H → va_S (fun q => B ≤ q) s.heap H locs → cells ≤ mc → slots ≤ ms → (∀ v ∈ rv.toList, k_v h1.length v) → x_rok (mT M) rv → decode (mB M) pc = .ok (x_ret rv, 1) →
    W p l e (mR M mc ms) s m args below meth c H locs cells slots Qf (F0 m pc lsc (rv.toList.map (x_v σ ρ)))
def Y (S : Nat × (Nat → Int32)) (M : MI) (h0 : xH) (rv : Option Value) (h1 : xH) (mc ms pc : Nat) (ls : List (Nat × Value)) (st : List Value) (h : xH) (cells slots : Nat) : Prop :=
  ∀ (l : Launch) (D : va_G) (B : Nat) (σ : Nat → Nat) (p : Program) (e : Env) (s : State) (m : MethodId) (args : Array Value) (below : List Frame) (meth : Method) (c : Code) (Qf : State → Prop) (ρ0 : Nat → Nat),
    x_C M B σ S.1 S.2 p s m args meth c → x_R M l D B σ ρ0 h0 rv h1 mc ms p e s m args below meth c Qf →
    ∀ (ρ : Nat → Nat) (κ : Nat → ClassId) (H : Heap) (locs : List Loc) (lsc : Array Slot), (∀ k, k < h0.length → ρ k = ρ0 k) → h0.length ≤ h.length → x_I D B σ ρ κ h s H → va_S (fun q => B ≤ q) s.heap H locs →
      lv_has lsc (mL M) (ls.map fun q => (q.1, x_v σ ρ q.2)) → (∀ q ∈ ls, k_v h.length q.2) → (∀ v ∈ st, k_v h.length v) →
      W p l e (mR M mc ms) s m args below meth c H locs cells slots Qf (F0 m pc lsc (st.map (x_v σ ρ)))
/-- a method's contract in these words -/
def x_Q (D : va_G) (B : Nat) (σ ρ : Nat → Nat) (h0 : xH) (rv : Option Value) (h1 : xH) : Array Value → State → Outcome → State → Prop := fun _ st oc t =>
  ∃ (ρ1 : Nat → Nat) (κ1 : Nat → ClassId), (∀ k, k < h0.length → ρ1 k = ρ k) ∧ h0.length ≤ h1.length ∧ oc = .returned (rv.map (x_v σ ρ1)) ∧ (∀ v ∈ rv.toList, k_v h1.length v) ∧ x_I D B σ ρ1 κ1 h1 t t.heap ∧ va_F (fun q => B ≤ q) st t
def Ctr (M : MI) (as : List Value) (h0 : xH) (rv : Option Value) (h1 : xH) (mc ms : Nat) : Prop :=
  ∀ (l : Launch) (D : va_G) (B : Nat) (σ : Nat → Nat) (L : Nat) (xs : Nat → Int32) (ρ : Nat → Nat), Met l (mY M) (.code (mY M) (mB M) (mL M) (mT M) :: x_WT) (mR M mc ms) (va_Pc (as.map (x_v σ ρ)) (fun U => B ≤ U.heap.size ∧ x_FS B σ L xs U U.heap ∧ (∀ v ∈ as, k_v h0.length v) ∧ ∃ κ : Nat → ClassId, x_I D B σ ρ κ h0 U U.heap)) (x_Q D B σ ρ h0 rv h1) mc ms (fun q => B ≤ q)
