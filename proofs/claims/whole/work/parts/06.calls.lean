/-! Contracts out of walks; calls. -/
theorem x_wt {w : Cond} (h : w ∈ lw_tbl) (hg : goodWord w = true) : w ∈ x_WT := List.mem_filter.mpr ⟨h, hg⟩
theorem x_good {y : MethodName} {cb : ByteArray} {n : Nat} {r : Option FieldType} (h : Cond.code y cb n r ∈ x_WT) : GoodIn x_WT (.code y cb n r :: x_WT) := by
  have g : ∀ w ∈ x_WT, w ∈ x_WT ∧ ((w.onTables && w.keeps) = true ∨ ∃ ty, w = .arrayClass ty) := fun w hw => ⟨hw, good_of_word (List.mem_filter.mp hw).2⟩
  intro w hw
  rcases List.mem_cons.mp hw with rfl | hw
  · exact g _ h
  · exact g w hw
theorem x_args {σ ρ : Nat → Nat} : ∀ (as : List Value) (i : Nat), lv_args i (as.map (x_v σ ρ)) = (lv_args i as).map fun q => (q.1, x_v σ ρ q.2)
  | [], _ => rfl
  | v :: vs, i => by
    show (i, x_v σ ρ v) :: lv_args (if (x_v σ ρ v).category = 2 then i + 2 else i + 1) (vs.map (x_v σ ρ)) = _
    rw [x_v.cat, x_args vs]
    rfl
theorem x_args_mem : ∀ (as : List Value) (i : Nat) (q : Nat × Value), q ∈ lv_args i as → q.2 ∈ as
  | [], _, q, h => by cases h
  | v :: vs, i, q, h => by
    rcases List.mem_cons.mp h with rfl | h
    · exact List.mem_cons_self
    · exact List.mem_cons_of_mem _ (x_args_mem vs _ q h)
theorem x_blind {as : List Value} {D : va_G} {B : Nat} {σ ρ : Nat → Nat} {L : Nat} {xs : Nat → Int32} {h0 : xH} : FrameBlind (va_Pc (as.map (x_v σ ρ)) (fun U => B ≤ U.heap.size ∧ x_FS B σ L xs U U.heap ∧ (∀ v ∈ as, k_v h0.length v) ∧ ∃ κ : Nat → ClassId, x_I D B σ ρ κ h0 U U.heap)) := by
  intro a U g mk q
  obtain ⟨q1, q2, q3, q4, κ, q5⟩ := q
  exact ⟨q1, q2, x_FS.warm (s := U) (U := U.calling g mk a) (State.WarmedH.refl U) q3, q4, κ, x_I.moved (u := U) (U := U.calling g mk a) (Vm.Alike.refl U.vm) q5⟩
theorem x_pre {as : List Value} {D : va_G} {B : Nat} {σ ρ : Nat → Nat} {κ : Nat → ClassId} {L : Nat} {xs : Nat → Int32} {h : xH} {s : State} {H : Heap} {locs : List Loc} (hB : B ≤ s.heap.size) (hF : x_FS B σ L xs s s.heap) (hS : va_S (fun q => B ≤ q) s.heap H locs) (hI : x_I D B σ ρ κ h s H) (hk : ∀ v ∈ as, k_v h.length v) :
    ∀ U : State, U.heap = H → s.WarmedH U.vm → va_Pc (as.map (x_v σ ρ)) (fun U => B ≤ U.heap.size ∧ x_FS B σ L xs U U.heap ∧ (∀ v ∈ as, k_v h.length v) ∧ ∃ κ : Nat → ClassId, x_I D B σ ρ κ h U U.heap) (as.map (x_v σ ρ)).toArray U := by
  intro U hU hW
  refine ⟨rfl, ?_, ?_, hk, κ, ?_⟩
  · rw [hU]; exact Nat.le_trans hB hS.1
  · rw [hU]; exact (hF.kept hS.1 hS.2.1).warm hW
  · rw [hU]; exact hI.moved hW.alike
theorem ctr_of {M : MI} {as : List Value} {h0 h1 : xH} {rv : Option Value} {mc ms : Nat} (hp : plainName (mY M).cls = true) (hn : ∀ σ ρ, (lg_sl (as.map (x_v σ ρ))).length ≤ mL M)
    (hY : ∀ S, Y S M h0 rv h1 mc ms 0 (lv_args 0 as) [] h0 0 0) : Ctr M as h0 rv h1 mc ms := by
  intro l D B σ L xs ρ
  refine Met.ofW (cc := mB M) (maxL := mL M) (ret := mT M) hp rfl ?_
  intro p e s m args below meth c s₁ Bd hml hv
  obtain ⟨rfl, hB, hFS, hka, κ, hI⟩ := hv
  have hts := atoms_spec (ws := .code (mY M) (mB M) (mL M) (mT M) :: x_WT) Bd.pre
  have C : x_C M B σ L xs p s m (as.map (x_v σ ρ)).toArray meth c := ⟨Bd.exec, Bd.bytes, hml, findClass_of_methodNamed Bd.named, fun w hw => hts w (List.mem_cons_of_mem _ hw), hFS, hB, (name_of_methodNamed Bd.named Bd.method).1⟩
  have hl := lv_entry (as.map (x_v σ ρ)) (n := mL M) (hn σ ρ)
  rw [lg_entry_eq]
  generalize (lg_sl (as.map (x_v σ ρ)) ++ List.replicate (mL M - (lg_sl (as.map (x_v σ ρ))).length) Slot.unset).toArray = lsc at hl ⊢
  rw [x_args] at hl
  refine hY (L, xs) l D B σ p e s m (as.map (x_v σ ρ)).toArray below meth c _ ρ C ?_ ρ κ s.heap [] lsc (fun _ _ => rfl) (Nat.le_refl _) hI va_S.rf hl (fun q hq => hka _ (x_args_mem as 0 q hq)) (fun v hv => by cases hv)
  intro ρ' κ' H' locs' lsc' pc' cells' slots' hag hle hI' hS' hc hs hk hr hdec
  refine W.widen hc hs ?_
  have hq : ∀ t : State, t.heap = H' → s.WarmedH t.vm → x_Q D B σ ρ h0 rv h1 (as.map (x_v σ ρ)).toArray s (.returned (rv.map (x_v σ ρ'))) t := fun t ht hW => ⟨ρ', κ', hag, hle, rfl, hk, by rw [ht]; exact hI'.moved hW.alike, hS'.F ht⟩
  match rv, hr, hdec, hq with
  | none, hr, hdec, hq => exact W.vret Bd.exec Bd.bytes (Bd.returns.trans hr) hq hS'.2.2 hdec Bd.notSynchronized
  | some (.int v), ⟨ty, hr, hnw⟩, hdec, hq => exact W.zret Bd.exec Bd.bytes (Bd.returns.trans hr) hnw hq hS'.2.2 hdec Bd.notSynchronized
  | some (.long v), hr, hdec, hq => exact W.lret Bd.exec Bd.bytes (Bd.returns.trans hr) hq hS'.2.2 hdec Bd.notSynchronized
  | some (.ref v), ⟨rt, hr, hrt⟩, hdec, hq => exact W.aret (v := .ref (x_r σ ρ' v)) Bd.exec Bd.bytes (Bd.returns.trans hr) hrt (Or.inr ⟨_, rfl⟩) hq hS'.2.2 hdec Bd.notSynchronized
/-- a method's entry in a class's pool -/
def x_lnk (own : String) (idx : Nat) (M' : MI) (n : Nat) : Prop := (Cond.methodLink own idx (mY M') ∈ x_WT ∨ ∃ host : String, Cond.methodLinkNest own idx (mY M') host ∈ x_NW) ∧ Cond.initialized (mY M').cls ∈ x_WT ∧ Cond.code (mY M') (mB M') (mL M') (mT M') ∈ x_WT ∧ ((mY M').cls ≠ "java/lang/invoke/MethodHandle" ∧ (mY M').cls ≠ "java/lang/invoke/VarHandle" ∧ (parseMethodDescriptor (mY M').desc).map (fun d => d.parameters.length) = some n)
section YC
variable {S : Nat × (Nat → Int32)} {M M' : MI} {h0 h1 h h' : xH} {rv rv' : Option Value} {mc ms mc' ms' pc cells slots : Nat} {ls : List (Nat × Value)} {st as : List Value} {a ci idx : Nat}
theorem x_after {l : Launch} {D : va_G} {B : Nat} {σ ρ0 ρ : Nat → Nat} {p : Program} {e : Env} {s : State} {m : MethodId} {args av : Array Value} {below : List Frame} {meth : Method} {c : Code} {Qf : State → Prop} {H : Heap} {locs : List Loc} {lsc : Array Slot} {st0 : List Value}
    (C : x_C M B σ S.1 S.2 p s m args meth c) (Rt : x_R M l D B σ ρ0 h0 rv h1 mc ms p e s m args below meth c Qf) (hr : ∀ k, k < h0.length → ρ k = ρ0 k) (hle : h0.length ≤ h.length) (hS : va_S (fun q => B ≤ q) s.heap H locs)
    (hl : lv_has lsc (mL M) (ls.map fun q => (q.1, x_v σ ρ q.2))) (hkl : ∀ q ∈ ls, k_v h.length q.2) (hks : ∀ v ∈ st, k_v h.length v)
    (hR : va_Run p l e (mR M mc ms) s m args below meth c H locs cells slots mc' ms' (F0 m pc lsc st0) (st.map (x_v σ ρ)) (x_Q D B σ ρ h rv' h' av) (fun q => B ≤ q))
    (kk : Y S M h0 rv h1 mc ms (pc + 3) ls (rv'.toList ++ st) h' (cells + mc') (slots + ms')) : W p l e (mR M mc ms) s m args below meth c H locs cells slots Qf (F0 m pc lsc st0) := by
  intro T hT X
  obtain ⟨v, st₀, t, T', L, h0', X', hL, e1, e2, ⟨ρ1, κ1, hag, hlen, hv, hkr, hI1, hz, hk⟩, stp⟩ := hR T hT X
  rw [h0'] at hz hk
  cases hv
  have hal : t.vm.Alike s.vm := by rw [← e2]; exact X'.warmed.alike.symm
  have hS1 : va_S (fun q => B ≤ q) s.heap T'.heap (locs ++ L) := ⟨Nat.le_trans hS.1 (by rw [e1]; exact hz), fun q h1 h2 => by rw [e1, hk q (Nat.lt_of_lt_of_le h1 hS.1) h2]; exact hS.2.1 q h1 h2, fun q hq => by
    rcases List.mem_append.mp hq with h | h
    · exact hS.2.2 q h
    · exact hL q h⟩
  have K := kk l D B σ p e s m args below meth c Qf ρ0 C Rt ρ1 κ1 T'.heap (locs ++ L) lsc (fun k hk => (hag k (Nat.lt_of_lt_of_le hk hle)).trans (hr k hk)) (Nat.le_trans hle hlen) (by rw [e1]; exact hI1.moved hal) hS1 (by rw [x_ls.same hag hkl]; exact hl) (fun q hq => (hkl q hq).mono hlen) (fun w hw => by
    rcases List.mem_append.mp hw with h | h
    · exact hkr w h
    · exact (hks w h).mono hlen)
  rw [List.map_append, x_st.same hag hks] at K
  obtain ⟨t2, a1, b1⟩ := K T' rfl X'
  refine ⟨t2, stp t2 ?_, b1⟩
  have e9 : (rv'.map (x_v σ ρ1)).toList = rv'.toList.map (x_v σ ρ1) := by cases rv' <;> rfl
  show Steps p.tables e below (T'.setTop (F0 m (pc + 3) lsc ((rv'.map (x_v σ ρ1)).toList ++ st.map (x_v σ ρ)))) t2
  rw [e9]
  exact a1
theorem x_w8 {σ ρ : Nat → Nat} (st : List Value) : ((st.map (x_v σ ρ)).map fun v => v.category).sum = (st.map fun v => v.category).sum := by
  rw [List.map_map]
  congr 1
  exact List.map_congr_left fun v _ => x_v.cat v
theorem x_mr {σ ρ : Nat → Nat} {m : MethodId} {lsc : Array Slot} {s0 : List Value} {st : List Value} (h8 : (st.map fun v => v.category).sum ≤ 8) : 2 * (F0 m pc lsc s0).monitorRoom + ((st.map (x_v σ ρ)).map fun v => v.category).sum ≤ 8 := lv_room (by rw [x_w8]; exact h8)
theorem y_callV {u : Unit} (hC : Ctr M' (.ref a :: as) h rv' h' mc' ms') (hm : x_lnk (mY M).cls idx M' as.length) (hin : Cond.instanceMethod (mY M') ∈ x_WT) (hse : Cond.selects (mY M').cls (mY M') (mY M') ∈ x_WT) {T : u_T} {N : Nat} (hcl : vwCl[ci]? = some ((mY M').cls, T, N)) (hob : x_ob h a ci = some u)
    (hR : mF M' + 1 ≤ mF M ∧ 8 + (mL M' + 11) + mW M' ≤ mW M) (h8 : (st.map fun v => v.category).sum ≤ 8) (hd : decode (mB M) pc = .ok (.invokevirtual idx, 3)) (hf : cells + mc' ≤ mc ∧ slots + ms' ≤ ms) {stk : List Value} (hst : stk = as.reverse ++ .ref a :: st)
    (kk : Y S M h0 rv h1 mc ms (pc + 3) ls (rv'.toList ++ st) h' (cells + mc') (slots + ms')) : Y S M h0 rv h1 mc ms pc ls stk h cells slots := by
  subst hst
  intro l D B σ p e s m args below meth c Qf ρ0 C Rt ρ κ H locs lsc hr hle hI hS hl hkl hks
  obtain ⟨hx, hb, hml, hown, hts, hFS, hB, hnm⟩ := id C
  obtain ⟨hlk, hini, hcode, hd1, hd2, hd3⟩ := hm
  obtain ⟨fs, ha, hh⟩ := x_ob.spec hob
  have hka : ∀ v ∈ Value.ref a :: as, k_v h.length v := fun v hv => by
    rcases List.mem_cons.mp hv with rfl | hv
    · exact hks _ (List.mem_append_right _ List.mem_cons_self)
    · exact hks _ (List.mem_append_left _ (List.mem_reverse.mpr hv))
  have hkt : ∀ v ∈ st, k_v h.length v := fun v hv => hks v (List.mem_append_right _ (List.mem_cons_of_mem _ hv))
  have hrec := va_recv (q := ((mY M').cls, T, N)) hI.2.2.1 hI.1 hcl (x_w.get (σ := σ) (ρ := ρ) (κ := κ) hh)
  have hra : x_r σ ρ a = ρ (a - 16) := x_r.own ha
  have hstk : (F0 m pc lsc ((as.reverse ++ .ref a :: st).map (x_v σ ρ))).stack = (as.map (x_v σ ρ)).reverse ++ .ref (ρ (a - 16)) :: st.map (x_v σ ρ) := by
    show (as.reverse ++ .ref a :: st).map (x_v σ ρ) = _
    rw [List.map_append, List.map_cons, List.map_reverse, ← hra]
    rfl
  have hpre := x_pre (D := D) (as := .ref a :: as) hB hFS hS hI hka
  have hPV : PreV s H (mY M').cls (ρ (a - 16)) (va_Pc ((Value.ref a :: as).map (x_v σ ρ)) (fun U => B ≤ U.heap.size ∧ x_FS B σ S.1 S.2 U U.heap ∧ (∀ v ∈ (Value.ref a :: as), k_v h.length v) ∧ ∃ κ : Nat → ClassId, x_I D B σ ρ κ h U U.heap)) (as.map (x_v σ ρ)) := by
    refine ⟨x_blind, hrec, fun U hU hW => ?_⟩
    have := hpre U hU hW
    rw [List.map_cons] at this ⊢
    rw [← hra]
    exact this
  refine x_after (av := (Value.ref (ρ (a - 16)) :: as.map (x_v σ ρ)).toArray) (st0 := (as.reverse ++ .ref a :: st).map (x_v σ ρ)) C Rt hr hle hS hl hkl hkt ?_ kk
  rcases hlk with hlk | ⟨host, hlk⟩
  · exact va_runV (bytes := mB M') (maxL := mL M') (ret := mT M') (n := as.length) ⟨hx, hb, hml, hown, hts⟩ (hC l D B σ S.1 S.2 ρ) ⟨callB_of as.length hts (x_good hcode) rfl rfl rfl (hts _ hini) (hts _ hlk) ⟨hd1, hd2, hd3⟩ hR, hts _ hin, hts _ hse⟩ hPV rfl (by rw [List.length_map]) hl.1 hstk (x_mr h8) hd hf
  · exact va_runVN (bytes := mB M') (maxL := mL M') (ret := mT M') (n := as.length) ⟨hx, hb, hml, hown, hts⟩ (hC l D B σ S.1 S.2 ρ) ⟨va_cnB as.length hts (x_good hcode) rfl rfl rfl (hFS.1 _ hlk) (hts _ hini) ⟨hd1, hd2, hd3⟩ hR, hts _ hin, hts _ hse⟩ hPV rfl (by rw [List.length_map]) hl.1 hstk (x_mr h8) hd hf
theorem y_callS (hC : Ctr M' as h rv' h' mc' ms') (hm : x_lnk (mY M).cls idx M' as.length) (hsta : Cond.static (mY M') ∈ x_WT)
    (hR : mF M' + 1 ≤ mF M ∧ 8 + (mL M' + 11) + mW M' ≤ mW M) (h8 : (st.map fun v => v.category).sum ≤ 8) (hd : decode (mB M) pc = .ok (.invokestatic idx, 3)) (hf : cells + mc' ≤ mc ∧ slots + ms' ≤ ms) {stk : List Value} (hst : stk = as.reverse ++ st)
    (kk : Y S M h0 rv h1 mc ms (pc + 3) ls (rv'.toList ++ st) h' (cells + mc') (slots + ms')) : Y S M h0 rv h1 mc ms pc ls stk h cells slots := by
  subst hst
  intro l D B σ p e s m args below meth c Qf ρ0 C Rt ρ κ H locs lsc hr hle hI hS hl hkl hks
  obtain ⟨hx, hb, hml, hown, hts, hFS, hB, hnm⟩ := id C
  obtain ⟨hlk, hini, hcode, hd1, hd2, hd3⟩ := hm
  have hka : ∀ v ∈ as, k_v h.length v := fun v hv => hks _ (List.mem_append_left _ (List.mem_reverse.mpr hv))
  have hkt : ∀ v ∈ st, k_v h.length v := fun v hv => hks v (List.mem_append_right _ hv)
  have hstk : (F0 m pc lsc ((as.reverse ++ st).map (x_v σ ρ))).stack = (as.map (x_v σ ρ)).reverse ++ st.map (x_v σ ρ) := by
    show (as.reverse ++ st).map (x_v σ ρ) = _
    rw [List.map_append, List.map_reverse]
  have hPS : PreS s H (va_Pc (as.map (x_v σ ρ)) (fun U => B ≤ U.heap.size ∧ x_FS B σ S.1 S.2 U U.heap ∧ (∀ v ∈ as, k_v h.length v) ∧ ∃ κ : Nat → ClassId, x_I D B σ ρ κ h U U.heap)) (as.map (x_v σ ρ)) := ⟨x_blind, x_pre (D := D) hB hFS hS hI hka⟩
  refine x_after (av := (as.map (x_v σ ρ)).toArray) (st0 := (as.reverse ++ st).map (x_v σ ρ)) C Rt hr hle hS hl hkl hkt ?_ kk
  rcases hlk with hlk | ⟨host, hlk⟩
  · exact va_runS (bytes := mB M') (maxL := mL M') (ret := mT M') (n := as.length) ⟨hx, hb, hml, hown, hts⟩ (hC l D B σ S.1 S.2 ρ) ⟨callB_of as.length hts (x_good hcode) rfl rfl rfl (hts _ hini) (hts _ hlk) ⟨hd1, hd2, hd3⟩ hR, hts _ hsta⟩ hPS rfl (by rw [List.length_map]) hl.1 hstk (x_mr h8) hd hf
  · exact va_runSN (bytes := mB M') (maxL := mL M') (ret := mT M') (n := as.length) ⟨hx, hb, hml, hown, hts⟩ (hC l D B σ S.1 S.2 ρ) ⟨va_cnB as.length hts (x_good hcode) rfl rfl rfl (hFS.1 _ hlk) (hts _ hini) ⟨hd1, hd2, hd3⟩ hR, hts _ hsta, trivial⟩ hPS rfl (by rw [List.length_map]) hl.1 hstk (x_mr h8) hd hf
theorem y_callI (hC : Ctr M' (.ref a :: as) h rv' h' mc' ms') (hm : x_lnk (mY M).cls idx M' as.length) (hin : Cond.instanceMethod (mY M') ∈ x_WT) (hT : mT M' = none) (hy : (mY M').name = "<init>") (ha : 16 ≤ a)
    (hR : mF M' + 1 ≤ mF M ∧ 8 + (mL M' + 11) + mW M' ≤ mW M) (h8 : (st.map fun v => v.category).sum ≤ 8) (hd : decode (mB M) pc = .ok (.invokespecial idx, 3)) (hf : cells + mc' ≤ mc ∧ slots + ms' ≤ ms) {stk : List Value} (hst : stk = as.reverse ++ .ref a :: st)
    (kk : Y S M h0 rv h1 mc ms (pc + 3) ls (rv'.toList ++ st) h' (cells + mc') (slots + ms')) : Y S M h0 rv h1 mc ms pc ls stk h cells slots := by
  subst hst
  intro l D B σ p e s m args below meth c Qf ρ0 C Rt ρ κ H locs lsc hr hle hI hS hl hkl hks
  obtain ⟨hx, hb, hml, hown, hts, hFS, hB, hnm⟩ := id C
  obtain ⟨hlk, hini, hcode, hd1, hd2, hd3⟩ := hm
  have hka : ∀ v ∈ Value.ref a :: as, k_v h.length v := fun v hv => by
    rcases List.mem_cons.mp hv with rfl | hv
    · exact hks _ (List.mem_append_right _ List.mem_cons_self)
    · exact hks _ (List.mem_append_left _ (List.mem_reverse.mpr hv))
  have hkt : ∀ v ∈ st, k_v h.length v := fun v hv => hks v (List.mem_append_right _ (List.mem_cons_of_mem _ hv))
  have hra : x_r σ ρ a = ρ (a - 16) := x_r.own ha
  have hstk : (F0 m pc lsc ((as.reverse ++ .ref a :: st).map (x_v σ ρ))).stack = (as.map (x_v σ ρ)).reverse ++ .ref (ρ (a - 16)) :: st.map (x_v σ ρ) := by
    show (as.reverse ++ .ref a :: st).map (x_v σ ρ) = _
    rw [List.map_append, List.map_cons, List.map_reverse, ← hra]
    rfl
  have hpre := x_pre (D := D) (as := .ref a :: as) hB hFS hS hI hka
  have hPS : PreS s H (va_Pc ((Value.ref a :: as).map (x_v σ ρ)) (fun U => B ≤ U.heap.size ∧ x_FS B σ S.1 S.2 U U.heap ∧ (∀ v ∈ (Value.ref a :: as), k_v h.length v) ∧ ∃ κ : Nat → ClassId, x_I D B σ ρ κ h U U.heap)) (.ref (ρ (a - 16)) :: as.map (x_v σ ρ)) := by
    refine ⟨x_blind, fun U hU hW => ?_⟩
    have := hpre U hU hW
    rw [List.map_cons] at this ⊢
    rw [← hra]
    exact this
  refine x_after (av := (Value.ref (ρ (a - 16)) :: as.map (x_v σ ρ)).toArray) (st0 := (as.reverse ++ .ref a :: st).map (x_v σ ρ)) C Rt hr hle hS hl hkl hkt ?_ kk
  have hC1 := hC l D B σ S.1 S.2 ρ
  rw [hT] at hC1 hcode
  rcases hlk with hlk | ⟨host, hlk⟩
  · exact va_runI (bytes := mB M') (maxL := mL M') (n := as.length) ⟨hx, hb, hml, hown, hts⟩ hC1 ⟨callB_of as.length hts (x_good hcode) rfl rfl rfl (hts _ hini) (hts _ hlk) ⟨hd1, hd2, hd3⟩ hR, hy, hts _ hin⟩ hPS rfl (by rw [List.length_map]) hl.1 hstk (x_mr h8) hd hf
  · exact va_runIN (bytes := mB M') (maxL := mL M') (n := as.length) ⟨hx, hb, hml, hown, hts⟩ hC1 ⟨va_cnB as.length hts (x_good hcode) rfl rfl rfl (hFS.1 _ hlk) (hts _ hini) ⟨hd1, hd2, hd3⟩ hR, hy, hts _ hin⟩ hPS rfl (by rw [List.length_map]) hl.1 hstk (x_mr h8) hd hf
end YC
