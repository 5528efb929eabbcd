theorem x_AO.spec {t : FieldType} {s : State} (h : x_AO (.array t) s) : ∃ (d c : ClassId) (k : Class), s.vm.findClass (FieldType.array t).toString = some d ∧ s.vm.classes[c]? = some k ∧ k.kind = .array d (.array t) ∧ s.vm.findClass ("[" ++ (FieldType.array t).toString) = some c := by
  unfold x_AO Cond.before Cond.holds at h
  simp only [Cond.value, beq_iff_eq] at h
  cases hd : s.vm.findClass (FieldType.array t).toString with
  | none => simp [hd] at h
  | some d =>
    simp only [hd, Option.bind_some, Option.bind_eq_some_iff, Option.map_eq_some_iff] at h
    obtain ⟨c, hi, k, hk, hb⟩ := h
    obtain ⟨hlt, hp, -⟩ := Array.findIdx?_eq_some_iff_getElem.mp hi
    have hkk : s.vm.classes[c] = k := (Array.getElem?_eq_some_iff.mp hk).2
    rw [hkk] at hp
    cases hkind : k.kind with
    | array d2 t2 =>
      rw [hkind] at hb hp
      simp at hb hp
      exact ⟨d, c, k, rfl, hk, by rw [hkind, hp, hb.1], hb.2⟩
    | _ => rw [hkind] at hb; simp at hb
section GS
variable {p : Program} {l : Launch} {e : Env} {R : Room} {s : State} {m : MethodId} {args : Array Value} {below : List Frame} {meth : Method} {c : Code} {T : State} {locs : List Loc} {cells slots : Nat}
theorem x_mf.stand (X : Stand p l e R s m args below meth c T locs cells slots) (cA d : ClassId) (N K : Nat) (v : Value) (i : Nat) : Stand p l e R s m args below meth c (x_mf T cA d N K v i) (locs ++ (List.range i).map fun j => ⟨T.heap.size, j⟩) (cells + 1 + i) (slots + N + i * K) := by
  induction i with
  | zero =>
    have h := X.pushed (x_mo cA N T.heap.size 0)
    rw [x_mo.size] at h
    simpa [x_mf] using h
  | succ i ih =>
    obtain ⟨f1, f2, -, -, -, -⟩ := x_mf.facts T cA d N K v i
    have hlt : T.heap.size < (x_mf T cA d N K v i).heap.size := by omega
    have hc : ((x_mf T cA d N K v i).pushCell (x_mi d K v)).heap[T.heap.size]? = some (x_mo cA N T.heap.size i) := by rw [State.heap_pushCell_of_lt (h := hlt)]; exact f2
    have h := (ih.pushed (x_mi d K v)).stored hc i (.ref (T.heap.size + 1 + i))
    rw [x_mi.size, x_mo.step] at h
    have e2 : (locs ++ (List.range (i + 1)).map fun j => (⟨T.heap.size, j⟩ : Loc)) = (locs ++ (List.range i).map fun j => (⟨T.heap.size, j⟩ : Loc)) ++ [⟨T.heap.size, i⟩] := by simp [List.range_succ, List.append_assoc]
    have e3 : slots + N + (i + 1) * K = slots + N + i * K + K := by rw [Nat.succ_mul]; omega
    rw [e2, e3]
    exact h
theorem x_grid (X : Stand p l e R s m args below meth c T locs cells slots) (hexec : p.tables.exec = Jvm.exec) {own : String} {index : Nat} {ty : FieldType} (hown : s.vm.findClass own = some m.cls) (hclink : (Cond.classLink own index ("[" ++ (FieldType.array ty).toString)).before args s = true) (hover : x_AO (.array ty) s) (harr : (Cond.arrayClass ty).before args s = true)
    {g : JFrame} (hg : g.method = m) (hdg : decode c.code g.pc = .ok (.multianewarray index 2, 4)) {n k : Int32} {rest : List Value} (hstack : g.stack = .int k :: .int n :: rest) (hn : ¬ n < 0) (hk : ¬ k < 0) {N K : Nat} (hN : n.toNatClampNeg = N) (hK : k.toNatClampNeg = K) (b1 : N * 4 ≤ 536870912) (b2 : K * componentBytes ty ≤ 536870912) (b3 : K ≤ 536870912)
    (hf : fits ty (defaultValue ty) = true) (hd : (defaultValue ty).isDefault = true) (hcells : cells + (1 + N) ≤ R.cells) (hslots : slots + (N + N * K) ≤ R.slots) :
    ∃ (vm₁ : Vm) (cA cd : ClassId), s.vm.findClass ("[" ++ (FieldType.array ty).toString) = some cA ∧ s.vm.findClass (FieldType.array ty).toString = some cd ∧ ArrOfT s cA (.array ty) ∧ ArrOfT s cd ty ∧
      Stand p l e R s m args below meth c (x_mf (T.setVm vm₁) cA cd N K (defaultValue ty) N) (locs ++ (List.range N).map fun j => ⟨T.heap.size, j⟩) (cells + 1 + N) (slots + N + N * K) ∧
      ∀ target, Steps p.tables e below ((x_mf (T.setVm vm₁) cA cd N K (defaultValue ty) N).setTop { g with pc := g.pc + 4, stack := .ref T.heap.size :: rest }) target → Steps p.tables e below (T.setTop g) target := by
  subst hg
  subst hN
  subst hK
  have hpl : e.platform.magicAccessors = ({} : Platform).magicAccessors := by rw [X.admits.platform]
  obtain ⟨cd, cA, kA, q1, q2, q3, q4⟩ := x_AO.spec hover
  obtain ⟨cd', kC, cm, q5, q6, q7⟩ := Cond.arrayClass_spec harr
  have ecd : cd' = cd := Option.some.inj (q5.symm.trans q1)
  subst ecd
  obtain ⟨c0, q8, q9⟩ := Cond.classLink_spec hown hclink e.platform hpl
  cases q4.symm.trans q8
  obtain ⟨w1, w2, w3⟩ := State.classEntry (e := e) X.warmed q9
  generalize T.vm.noted g.method.cls index (.cls cA) = vm₁ at w1 w2 w3
  have hal : s.vm.Alike vm₁ := w2.alike
  obtain ⟨kA₁, a1, a2⟩ := hal.2.2 _ _ q2
  obtain ⟨kC₁, a3, a4⟩ := hal.2.2 _ _ q6
  have a5 : kA₁.kind = .array cd' (.array ty) := by rw [a2]; exact q3
  have a6 : kC₁.kind = .array cm ty := by rw [a4]; exact q7
  have X₁ := X.noted w2
  obtain ⟨r1, r2⟩ := X.roomAbove hcells hslots
  have XF := x_mf.stand X₁ cA cd' n.toNatClampNeg k.toNatClampNeg (defaultValue ty) n.toNatClampNeg
  refine ⟨vm₁, cA, cd', q4, q1, fun N z => ⟨fun k h => (by cases h), kA, q2, cd', q3⟩, fun N z => ⟨fun k h => (by cases h), kC, q6, cm, q7⟩, XF, fun target hrest => ?_⟩
  have l1 : ¬ n.toNatClampNeg > e.platform.arrayLengthLimit := by rw [Launch.admits_arrayLengthLimit X.admits]; omega
  have l2 : ¬ n.toNatClampNeg * componentBytes (.array ty) > e.platform.maxHeapBytes := by rw [Launch.admits_maxHeapBytes X.admits]; show ¬ n.toNatClampNeg * 4 > 536870912; omega
  have l3 : ¬ k.toNatClampNeg > e.platform.arrayLengthLimit := by rw [Launch.admits_arrayLengthLimit X.admits]; omega
  have l4 : ¬ k.toNatClampNeg * componentBytes ty > e.platform.maxHeapBytes := by rw [Launch.admits_maxHeapBytes X.admits]; omega
  jvm_step X.here [hexec, hdg]
  simp only [multianewarray.sem, wp_bind', W.resolveClassAt_links (State.method?_setTop g X.here.top) w1]
  rw [W.popN, if_neg (by decide)]
  refine ⟨g, State.topJava?_setTop' (s := T.setVm vm₁) g X.here.top, [.int n, .int k], rest, rfl, hstack, ?_⟩
  simp only [List.mapM_cons, List.mapM_nil, wp_bind', wp_pure']
  refine x_make2 (k := kA₁) (kc := kC₁) (dc := cd') (cm := cm) (t0 := .array ty) (ty := ty) a1 a5 rfl a3 a6 hn hk l1 l2 l3 l4 hf hd (by show T.heap.size + 1 + _ ≤ _; omega) (by show T.slotsUsed + _ + _ ≤ _; omega) (fun d' acts' => ?_)
  have eS : ((T.setTop g).setVm vm₁).setTop { g with stack := rest } = (T.setVm vm₁).setTop { g with stack := rest } := by
    show ((T.setVm vm₁).setTop g).setTop _ = _
    rw [State.setTop_setTop]
  rw [eS, x_mf.setTop]
  simp only [wp_bind', W.mark, W.pushRef, State.topJava?_setTop' _ XF.here.top, Option.some.injEq, exists_eq_left', State.setTop_setTop, State.heap_setTop]
  intro acts
  simp [jvm, XF.here.top]
  exact hrest
end GS
/-- the world behind a new array of arrays -/
def x_mn (h : xH) (ty : FieldType) (N : Nat) (z : vp_A) : xH := h ++ [.inl (.array ty, N, .inr (.inr (.inr (.inr (fun i => if i < N then some (h.length + 17 + i) else none)))))] ++ List.replicate N (.inl (ty, z))
theorem x_mn.get {h : xH} {ty : FieldType} {N : Nat} {z : vp_A} {k : Nat} {x : xE} (hk : (x_mn h ty N z)[k]? = some x) : (k < h.length ∧ h[k]? = some x) ∨ (k = h.length ∧ x = .inl (.array ty, N, .inr (.inr (.inr (.inr (fun i => if i < N then some (h.length + 17 + i) else none)))))) ∨ ∃ j, j < N ∧ k = h.length + 1 + j ∧ x = .inl (ty, z) := by
  unfold x_mn at hk
  rw [List.append_assoc] at hk
  by_cases h1 : k < h.length
  · rw [List.getElem?_append_left h1] at hk
    exact Or.inl ⟨h1, hk⟩
  · rw [List.getElem?_append_right (by omega)] at hk
    by_cases h2 : k - h.length = 0
    · rw [h2] at hk
      exact Or.inr (Or.inl ⟨by omega, (Option.some.inj hk).symm⟩)
    · obtain ⟨j, hj⟩ : ∃ j, k - h.length = j + 1 := ⟨k - h.length - 1, by omega⟩
      rw [hj] at hk
      have hk2 : (List.replicate N (Sum.inl (ty, z) : xE))[j]? = some x := hk
      rw [List.getElem?_replicate] at hk2
      by_cases hjN : j < N
      · rw [if_pos hjN] at hk2
        exact Or.inr (Or.inr ⟨j, hjN, by omega, (Option.some.inj hk2).symm⟩)
      · rw [if_neg hjN] at hk2; cases hk2
theorem x_mn.len {h : xH} {ty : FieldType} {N : Nat} {z : vp_A} : (x_mn h ty N z).length = h.length + 1 + N := by simp [x_mn]; omega
section GY
variable {S : Nat × (Nat → Int32)} {M : MI} {h0 h1 h : xH} {rv : Option Value} {mc ms pc cells slots : Nat} {ls : List (Nat × Value)} {st : List Value} {idx : Nat}
set_option maxHeartbeats 4000000 in
theorem y_mnew {N K : Nat} {n k : Int32} {ty : FieldType} {z : vp_A} (hAO : ∀ (B : Nat) (σ : Nat → Nat) (U : State) (H : Heap), x_FS B σ S.1 S.2 U H → x_AO (.array ty) U) (hac : Cond.arrayClass ty ∈ x_WT) (hcl : Cond.classLink (mY M).cls idx ("[" ++ (FieldType.array ty).toString) ∈ x_WT) (hz : ∀ c : ClassId, vp_cell c z = x_mi c K (defaultValue ty)) (hza : ∀ σ ρ, x_a σ ρ z = z) (hzk : ∀ n, k_a n z) (hts9 : ("[" ++ ty.toString) = (FieldType.array ty).toString) (hra : ∀ (U : State) (cA : ClassId), U.vm.findClass ("[" ++ ty.toString) = some cA → va_RA U cA ty)
    (hn : ¬ n < 0) (hk : ¬ k < 0) (hN : n.toNatClampNeg = N) (hK : k.toNatClampNeg = K) (b1 : N * 4 ≤ 536870912) (b2 : K * componentBytes ty ≤ 536870912) (b3 : K ≤ 536870912) (hf : fits ty (defaultValue ty) = true) (hdf : (defaultValue ty).isDefault = true) (hcs : cells + (1 + N) ≤ mc ∧ slots + (N + N * K) ≤ ms) (hd : decode (mB M) pc = .ok (.multianewarray idx 2, 4))
    (kk : Y S M h0 rv h1 mc ms (pc + 4) ls (.ref (h.length + 16) :: st) (x_mn h ty N z) (cells + (1 + N)) (slots + (N + N * K))) : Y S M h0 rv h1 mc ms pc ls (.int k :: .int n :: st) h cells slots := by
  intro l D B σ p e s m args below meth c Qf ρ0 C Rt ρ κ H locs lsc hr hle hI hS hl hkl hks
  obtain ⟨hx, hb, hml, hown, hts, hFS, hB, hnm⟩ := id C
  intro T hT X
  obtain ⟨vm₁, cA, cd, e1, e2, e3, e4, X', step⟩ := x_grid X hx hown (hts _ hcl) (hAO B σ s s.heap hFS) (hts _ hac) (g := F0 m pc lsc ((.int k :: .int n :: st).map (x_v σ ρ))) rfl (by rw [hb]; exact hd) (n := n) (k := k) (rest := st.map (x_v σ ρ)) rfl hn hk hN hK b1 b2 b3 hf hdf hcs.1 hcs.2
  obtain ⟨f1, f2, -, -, f5, f6⟩ := x_mf.facts (T.setVm vm₁) cA cd N K (defaultValue ty) N
  generalize hF : x_mf (T.setVm vm₁) cA cd N K (defaultValue ty) N = F at X' step f1 f2 f5 f6
  have hTh : (T.setVm vm₁).heap = H := hT
  rw [hTh] at f1 f2 f5 f6
  have hT2 : T.heap.size = H.size := by rw [hT]
  rw [hT2] at X' step
  have hlt : ∀ k, k < h.length → ρ k < H.size := fun k hk => by
    obtain ⟨x, hx⟩ : ∃ x, h[k]? = some x := ⟨_, List.getElem?_eq_getElem hk⟩
    exact (hI.1 k _ (x_w.get hx)).lt
  have hρ : ∀ k, k < h.length → (fun k => if k < h.length then ρ k else H.size + (k - h.length)) k = ρ k := fun k hk => if_pos hk
  have hρ2 : ∀ j, (fun k => if k < h.length then ρ k else H.size + (k - h.length)) (h.length + j) = H.size + j := fun j => by
    show (if h.length + j < h.length then _ else _) = _
    rw [if_neg (by omega)]
    omega
  generalize hρd : (fun k => if k < h.length then ρ k else H.size + (k - h.length)) = ρ' at hρ hρ2
  have hκ : ∀ k, k < h.length → (fun k => if k < h.length then κ k else if k = h.length then cA else cd) k = κ k := fun k hk => if_pos hk
  have hκ2 : (fun k => if k < h.length then κ k else if k = h.length then cA else cd) h.length = cA := by
    show (if h.length < h.length then _ else _) = _
    rw [if_neg (by omega), if_pos rfl]
  have hκ3 : ∀ j, (fun k => if k < h.length then κ k else if k = h.length then cA else cd) (h.length + 1 + j) = cd := fun j => by
    show (if h.length + 1 + j < h.length then _ else _) = _
    rw [if_neg (by omega), if_neg (by omega)]
  generalize hκd : (fun k => if k < h.length then κ k else if k = h.length then cA else cd) = κ' at hκ hκ2 hκ3
  have hget : ∀ (i : Nat) (q : Nat × va_E), (x_w σ ρ' κ' (x_mn h ty N z))[i]? = some q → ∃ x, (x_mn h ty N z)[i]? = some x ∧ q = (ρ' i, x_e σ ρ' (κ' i) x) := fun i q hq => by
    unfold x_w at hq
    rw [List.getElem?_mapIdx] at hq
    obtain ⟨x, h2, h3⟩ := Option.map_eq_some_iff.mp hq
    exact ⟨x, h2, h3.symm⟩
  have hI' : x_I D B σ ρ' κ' (x_mn h ty N z) s F.heap := by
    refine ⟨fun i q hq => ?_, ⟨fun i j q r hq hr2 he => ?_, fun i q hq => ?_⟩, hI.2.2.1, fun i t a hi => ?_, fun i x hi => ?_⟩
    · obtain ⟨x, h2, rfl⟩ := hget i q hq
      rcases x_mn.get h2 with ⟨g1, g2⟩ | ⟨rfl, rfl⟩ | ⟨j, g1, rfl, rfl⟩
      · rw [hρ i g1, hκ i g1, x_e.same hρ (hI.2.2.2.2 i x g2)]
        exact (hI.1 i _ (x_w.get g2)).kept (f5 _ (hlt i g1))
      · show F.heap[ρ' h.length]? = some (vp_cell (κ' h.length) (x_a σ ρ' (N, .inr (.inr (.inr (.inr (fun i => if i < N then some (h.length + 17 + i) else none)))))))
        have e0 := hρ2 0
        rw [Nat.add_zero, Nat.add_zero] at e0
        rw [e0, hκ2, f2]
        show some (x_mo cA N H.size N) = some (vp_cell cA (N, .inr (.inr (.inr (.inr (fun i => (if i < N then some (h.length + 17 + i) else none).map (x_r σ ρ')))))))
        rw [vp_cell_q]
        unfold x_mo
        refine congrArg some (congrArg (arrV cA N) (funext fun j => ?_))
        by_cases hj : j < N
        · rw [if_pos hj, if_pos hj]
          show _ = Value.ref (x_r σ ρ' (h.length + 17 + j))
          rw [x_r.own (by omega), show h.length + 17 + j - 16 = h.length + (1 + j) by omega, hρ2, Nat.add_assoc]
        · rw [if_neg hj, if_neg hj]; rfl
      · show F.heap[ρ' (h.length + 1 + j)]? = some (vp_cell (κ' (h.length + 1 + j)) (x_a σ ρ' z))
        rw [hκ3, hza, hz, Nat.add_assoc, hρ2, ← Nat.add_assoc]
        exact f6 j g1
    · obtain ⟨x, h2, rfl⟩ := hget i q hq
      obtain ⟨y, h3, rfl⟩ := hget j r hr2
      have he : ρ' i = ρ' j := he
      have pos : ∀ i x, (x_mn h ty N z)[i]? = some x → (i < h.length ∧ ρ' i < H.size) ∨ (h.length ≤ i ∧ ρ' i = H.size + (i - h.length)) := fun i x hx => by
        by_cases hi : i < h.length
        · exact Or.inl ⟨hi, by rw [hρ i hi]; exact hlt i hi⟩
        · refine Or.inr ⟨by omega, ?_⟩
          have := hρ2 (i - h.length)
          rw [show h.length + (i - h.length) = i by omega] at this
          exact this
      rcases pos i x h2 with ⟨p1, p2⟩ | ⟨p1, p2⟩ <;> rcases pos j y h3 with ⟨p3, p4⟩ | ⟨p3, p4⟩
      · rw [hρ i p1, hρ j p3] at he
        exact hI.2.1.1 i j _ _ (x_w.get (List.getElem?_eq_getElem p1)) (x_w.get (List.getElem?_eq_getElem p3)) he
      · omega
      · omega
      · omega
    · obtain ⟨x, h2, rfl⟩ := hget i q hq
      show B ≤ ρ' i
      by_cases hi : i < h.length
      · rw [hρ i hi]
        exact hI.2.1.2 i _ (x_w.get (List.getElem?_eq_getElem hi))
      · have := hρ2 (i - h.length)
        rw [show h.length + (i - h.length) = i by omega] at this
        rw [this]
        have := hS.1
        omega
    · rcases x_mn.get hi with ⟨g1, g2⟩ | ⟨rfl, g2⟩ | ⟨j, g1, rfl, g2⟩
      · rw [hκ i g1]
        exact hI.2.2.2.1 i t a g2
      · cases g2
        rw [hκ2]
        exact ⟨e3, e1⟩
      · cases g2
        rw [hκ3]
        exact ⟨e4, hra s cd (by rw [hts9]; exact e2)⟩
    · rw [x_mn.len]
      rcases x_mn.get hi with ⟨g1, g2⟩ | ⟨rfl, rfl⟩ | ⟨j, g1, rfl, rfl⟩
      · exact (hI.2.2.2.2 i x g2).mono (by omega)
      · intro i k hik
        by_cases hiN : i < N
        · simp [hiN] at hik; omega
        · simp [hiN] at hik
      · exact hzk _
  have hS' : va_S (fun q => B ≤ q) s.heap F.heap (locs ++ (List.range N).map fun j => ⟨H.size, j⟩) := by
    refine ⟨by rw [f1]; have := hS.1; omega, fun q h1 h2 => (f5 q (Nat.lt_of_lt_of_le h1 hS.1)).trans (hS.2.1 q h1 h2), fun x hx => ?_⟩
    rcases List.mem_append.mp hx with h | h
    · exact hS.2.2 x h
    · obtain ⟨j, -, rfl⟩ := List.mem_map.mp h
      show B ≤ H.size
      have := hS.1
      omega
  have kst := ks_t (ks_t hks)
  have K9 := kk l D B σ p e s m args below meth c Qf ρ0 C Rt ρ' κ' F.heap _ lsc (fun k hk => (hρ k (Nat.lt_of_lt_of_le hk hle)).trans (hr k hk)) (by rw [x_mn.len]; omega) hI' hS' (by rw [x_ls.same hρ hkl]; exact hl) (fun q hq => (hkl q hq).mono (by rw [x_mn.len]; omega)) (ks_c (by show h.length + 16 < _ + 16; rw [x_mn.len]; omega) (fun v hv => (kst v hv).mono (by rw [x_mn.len]; omega)))
  have e0 : x_v σ ρ' (.ref (h.length + 16)) = .ref H.size := by
    show Value.ref (x_r σ ρ' (h.length + 16)) = _
    have := hρ2 0
    rw [Nat.add_zero, Nat.add_zero] at this
    rw [x_r.own (by omega), show h.length + 16 - 16 = h.length by omega, this]
  rw [List.map_cons, e0, x_st.same hρ kst] at K9
  rw [show cells + 1 + N = cells + (1 + N) by omega, show slots + N + N * K = slots + (N + N * K) by omega] at X'
  obtain ⟨t, a1, b9⟩ := K9 F rfl X'
  exact ⟨t, step t a1, b9⟩
theorem y_mnewL {N K : Nat} {n k : Int32} (hcl : Cond.classLink (mY M).cls idx "[[J" ∈ x_WT) (hn : ¬ n < 0) (hk : ¬ k < 0) (hN : n.toNatClampNeg = N) (hK : k.toNatClampNeg = K) (b1 : N * 4 ≤ 536870912) (b2 : K * 8 ≤ 536870912) (hcs : cells + (1 + N) ≤ mc ∧ slots + (N + N * K) ≤ ms) (hd : decode (mB M) pc = .ok (.multianewarray idx 2, 4)) (kk : Y S M h0 rv h1 mc ms (pc + 4) ls (.ref (h.length + 16) :: st) (x_mnL h N K) (cells + (1 + N)) (slots + (N + N * K))) : Y S M h0 rv h1 mc ms pc ls (.int k :: .int n :: st) h cells slots :=
  y_mnew (ty := .long) (z := (K, .inr (.inl (fun _ => 0)))) (fun _ _ _ _ q => q.2.2.2.2.2.2.2.2.2) (x_wt (tb 254 (by decide +kernel)) rfl) hcl (fun c => by rw [vp_cell_l]; rfl) (fun _ _ => rfl) (fun _ => trivial) rfl (fun _ _ q => q) hn hk hN hK b1 b2 (by omega) rfl rfl hcs hd kk
theorem y_mnewI {N K : Nat} {n k : Int32} (hcl : Cond.classLink (mY M).cls idx "[[I" ∈ x_WT) (hn : ¬ n < 0) (hk : ¬ k < 0) (hN : n.toNatClampNeg = N) (hK : k.toNatClampNeg = K) (b1 : N * 4 ≤ 536870912) (b2 : K * 4 ≤ 536870912) (hcs : cells + (1 + N) ≤ mc ∧ slots + (N + N * K) ≤ ms) (hd : decode (mB M) pc = .ok (.multianewarray idx 2, 4)) (kk : Y S M h0 rv h1 mc ms (pc + 4) ls (.ref (h.length + 16) :: st) (x_mnI h N K) (cells + (1 + N)) (slots + (N + N * K))) : Y S M h0 rv h1 mc ms pc ls (.int k :: .int n :: st) h cells slots :=
  y_mnew (ty := .int) (z := (K, .inl (fun _ => 0))) (fun _ _ _ _ q => q.2.2.2.2.2.2.2.2.1) (x_wt (tb 92 (by decide +kernel)) rfl) hcl (fun c => by rw [vp_cell_i]; rfl) (fun _ _ => rfl) (fun _ => trivial) rfl (fun _ _ q => q) hn hk hN hK b1 b2 (by omega) rfl rfl hcs hd kk
end GY
