/-! Rows that make cells. -/
def x_plain (v : Value) : Bool := match v with
  | .null => true
  | .int _ => true
  | _ => false
section YA
variable {S : Nat × (Nat → Int32)} {M : MI} {h0 h1 h h' : xH} {rv : Option Value} {mc ms pc cells slots : Nat} {ls : List (Nat × Value)} {st : List Value} {a ci k idx : Nat}
theorem x_new.r {σ ρ : Nat → Nat} {n q : Nat} : x_v σ (x_up ρ n q) (.ref (n + 16)) = .ref q := by
  show Value.ref (x_r _ _ _) = _
  rw [x_r.own (by omega), show n + 16 - 16 = n by omega, x_up.eq]
theorem x_new.go {l : Launch} {D : va_G} {B : Nat} {σ ρ0 ρ : Nat → Nat} {p : Program} {e : Env} {s : State} {m : MethodId} {args : Array Value} {below : List Frame} {meth : Method} {c : Code} {Qf : State → Prop} {κ : Nat → ClassId} {H1 : Heap} {locs : List Loc} {lsc : Array Slot} {q : Nat} {cA : ClassId} {x : xE} {c2 s2 pc2 : Nat}
    (C : x_C M B σ S.1 S.2 p s m args meth c) (Rt : x_R M l D B σ ρ0 h0 rv h1 mc ms p e s m args below meth c Qf) (hr : ∀ k, k < h0.length → ρ k = ρ0 k) (hle : h0.length ≤ h.length) (hS : va_S (fun q => B ≤ q) s.heap H1 locs) (hI : x_I D B σ (x_up ρ h.length q) (x_up κ h.length cA) (h ++ [x]) s H1)
    (hl : lv_has lsc (mL M) (ls.map fun q => (q.1, x_v σ ρ q.2))) (hkl : ∀ q ∈ ls, k_v h.length q.2) (hks : ∀ v ∈ st, k_v h.length v)
    (kk : Y S M h0 rv h1 mc ms pc2 ls (.ref (h.length + 16) :: st) (h ++ [x]) c2 s2) : W p l e (mR M mc ms) s m args below meth c H1 locs c2 s2 Qf (F0 m pc2 lsc (.ref q :: st.map (x_v σ ρ))) := by
  have hlen : (h ++ [x]).length = h.length + 1 := List.length_append
  have K := kk l D B σ p e s m args below meth c Qf ρ0 C Rt (x_up ρ h.length q) (x_up κ h.length cA) H1 locs lsc (fun k hk => (x_up.old k (Nat.lt_of_lt_of_le hk hle)).trans (hr k hk)) (by rw [hlen]; omega) hI hS (by rw [x_ls.same x_up.old hkl]; exact hl) (fun q hq => (hkl q hq).mono (by rw [hlen]; omega)) (ks_c (by show h.length + 16 < _ + 16; rw [hlen]; omega) (fun v hv => (hks v hv).mono (by rw [hlen]; omega)))
  rw [List.map_cons, x_new.r, x_st.same x_up.old hks] at K
  exact K
theorem y_new {Cn : String} {T : u_T} {N : Nat} {ty0 : Nat → FieldType} (hc : x_cls ci Cn T N ty0) (hcl : Cond.classLink (mY M).cls idx Cn ∈ x_WT) (hin : Cond.instantiable Cn N ∈ x_WT) (hini : Cond.initialized Cn ∈ x_WT) {fs : List Value} (hfs : ∀ j, j < N → defaultValue (ty0 j) = vp_V fs j) (hpl0 : fs.all x_plain = true) (hcs : cells + 1 ≤ mc ∧ slots + N ≤ ms) (hd : decode (mB M) pc = .ok (.new idx, 3))
    (kk : Y S M h0 rv h1 mc ms (pc + 3) ls (.ref (h.length + 16) :: st) (h ++ [.inr (ci, fs)]) (cells + 1) (slots + N)) : Y S M h0 rv h1 mc ms pc ls st h cells slots := by
  intro l D B σ p e s m args below meth c Qf ρ0 C Rt ρ κ H locs lsc hr hle hI hS hl hkl hks
  obtain ⟨hx, hb, hml, hown, hts, hFS, hB, hnm⟩ := id C
  have hpl : ∀ v ∈ fs, v = .null ∨ ∃ x, v = .int x := fun v hv => by
    have := List.all_eq_true.mp hpl0 v hv
    cases v with
    | null => exact Or.inl rfl
    | int x => exact Or.inr ⟨x, rfl⟩
    | _ => cases this
  refine va_new (fs := fs) hx hb hts hc.2.1 ty0 hc.2.2.1 hown (hts _ hcl) (hts _ hin) (hts _ hini) hI.2.2.1 hI.1 hI.2.1 hS (fun q hq => Nat.le_trans hB hq) hc.1 hfs hcs.1 hcs.2 hd (fun q H1 hP1 hD1 hS1 => ?_)
  have hf : fs.map (x_v σ (x_up ρ h.length q)) = fs := by
    conv => rhs; rw [← List.map_id fs]
    exact List.map_congr_left fun v hv => by rcases hpl v hv with rfl | ⟨x, rfl⟩ <;> rfl
  have e9 : (.inr (ci, fs) : va_E) = x_e σ (x_up ρ h.length q) (κ 0) (.inr (ci, fs)) := by show _ = Sum.inr (ci, fs.map _); rw [hf]
  rw [e9] at hP1 hD1
  have hke : k_e (h.length + 1) (.inr (ci, fs)) := fun v hv => by rcases hpl v hv with rfl | ⟨x, rfl⟩ <;> exact True.intro
  exact x_new.go C Rt hr hle hS1 (hI.push hke (fun ty a h => by cases h) hP1 hD1) hl hkl hks kk
theorem y_newI {n : Int32} {N : Nat} (ha : Cond.arrayClass .int ∈ x_WT) (hn : ¬ n < 0) (hN : n.toNatClampNeg = N) (hby : N * 4 ≤ 536870912) (hcs : cells + 1 ≤ mc ∧ slots + N ≤ ms) (hd : decode (mB M) pc = .ok (.newarray .int, 2))
    (kk : Y S M h0 rv h1 mc ms (pc + 2) ls (.ref (h.length + 16) :: st) (h ++ [.inl (.int, N, .inl (fun _ => 0))]) (cells + 1) (slots + N)) : Y S M h0 rv h1 mc ms pc ls (.int n :: st) h cells slots := by
  intro l D B σ p e s m args below meth c Qf ρ0 C Rt ρ κ H locs lsc hr hle hI hS hl hkl hks
  obtain ⟨hx, hb, hml, hown, hts, hFS, hB, hnm⟩ := id C
  refine va_newa (atype := .int) (ty := .int) (a0 := (N, .inl (fun _ => 0))) hx hb (hts _ ha) rfl hI.2.2.1 hI.1 hI.2.1 hS (fun q hq => Nat.le_trans hB hq) (fun cA => by rw [vp_cell_i]; rfl) hn hN hby hcs.1 hcs.2 hd (fun q cA H1 hK1 hP1 hD1 hS1 => ?_)
  exact x_new.go C Rt hr hle hS1 (hI.push (c := cA) (e := .inl (.int, N, .inl (fun _ => 0))) (by exact True.intro) (fun ty a h => by cases h; exact hK1.2 0 _ rfl) hP1 hD1) hl hkl (ks_t hks) kk
theorem y_newL {n : Int32} {N : Nat} (ha : Cond.arrayClass .long ∈ x_WT) (hn : ¬ n < 0) (hN : n.toNatClampNeg = N) (hby : N * 8 ≤ 536870912) (hcs : cells + 1 ≤ mc ∧ slots + N ≤ ms) (hd : decode (mB M) pc = .ok (.newarray .long, 2))
    (kk : Y S M h0 rv h1 mc ms (pc + 2) ls (.ref (h.length + 16) :: st) (h ++ [.inl (.long, N, .inr (.inl (fun _ => 0)))]) (cells + 1) (slots + N)) : Y S M h0 rv h1 mc ms pc ls (.int n :: st) h cells slots := by
  intro l D B σ p e s m args below meth c Qf ρ0 C Rt ρ κ H locs lsc hr hle hI hS hl hkl hks
  obtain ⟨hx, hb, hml, hown, hts, hFS, hB, hnm⟩ := id C
  refine va_newa (atype := .long) (ty := .long) (a0 := (N, .inr (.inl (fun _ => 0)))) hx hb (hts _ ha) rfl hI.2.2.1 hI.1 hI.2.1 hS (fun q hq => Nat.le_trans hB hq) (fun cA => by rw [vp_cell_l]; rfl) hn hN hby hcs.1 hcs.2 hd (fun q cA H1 hK1 hP1 hD1 hS1 => ?_)
  exact x_new.go C Rt hr hle hS1 (hI.push (c := cA) (e := .inl (.long, N, .inr (.inl (fun _ => 0)))) (by exact True.intro) (fun ty a h => by cases h; exact hK1.2 0 _ rfl) hP1 hD1) hl hkl (ks_t hks) kk
theorem y_newQ {n : Int32} {N : Nat} (hcl : Cond.classLink (mY M).cls idx "WhoOpensOne$Shelf" ∈ x_WT) (hn : ¬ n < 0) (hN : n.toNatClampNeg = N) (hby : N * 4 ≤ 536870912) (hcs : cells + 1 ≤ mc ∧ slots + N ≤ ms) (hd : decode (mB M) pc = .ok (.anewarray idx, 3))
    (kk : Y S M h0 rv h1 mc ms (pc + 3) ls (.ref (h.length + 16) :: st) (h ++ [.inl (.object "WhoOpensOne$Shelf", N, .inr (.inr (.inr (.inr (fun _ => none)))))]) (cells + 1) (slots + N)) : Y S M h0 rv h1 mc ms pc ls (.int n :: st) h cells slots := by
  intro l D B σ p e s m args below meth c Qf ρ0 C Rt ρ κ H locs lsc hr hle hI hS hl hkl hks
  obtain ⟨hx, hb, hml, hown, hts, hFS, hB, hnm⟩ := id C
  refine va_newq (C := "WhoOpensOne$Shelf") hx hb hown (hts _ hcl) hFS.2.2.2.2.2.2.2.1 hI.2.2.1 hI.1 hI.2.1 hS (fun q hq => Nat.le_trans hB hq) hn hN hby hcs.1 hcs.2 hd (fun q cA H1 hK1 hP1 hD1 hS1 => ?_)
  exact x_new.go (x := .inl (.object "WhoOpensOne$Shelf", N, .inr (.inr (.inr (.inr (fun _ => none)))))) C Rt hr hle hS1 (hI.push (c := cA) (e := .inl (.object "WhoOpensOne$Shelf", N, .inr (.inr (.inr (.inr (fun _ => none)))))) (fun i k h => by cases h) (fun ty a h => by cases h; exact hK1.2 0 _ rfl) hP1 hD1) hl hkl (ks_t hks) kk
theorem y_objInit (hlk : Cond.methodLink (mY M).cls idx objectInit ∈ x_WT) (hin : Cond.instanceMethod objectInit ∈ x_WT) (hco : Cond.code objectInit ⟨#[0xb1]⟩ 1 none ∈ x_WT) (hF : 1 ≤ mF M) (hW : (st.map fun v => v.category).sum + 12 ≤ mW M) (hd : decode (mB M) pc = .ok (.invokespecial idx, 3))
    (kk : Y S M h0 rv h1 mc ms (pc + 3) ls st h cells slots) : Y S M h0 rv h1 mc ms pc ls (.ref a :: st) h cells slots := by
  intro l D B σ p e s m args below meth c Qf ρ0 C Rt ρ κ H locs lsc hr hle hI hS hl hkl hks
  obtain ⟨hx, hb, hml, hown, hts, hFS, hB, hnm⟩ := id C
  have K := kk l D B σ p e s m args below meth c Qf ρ0 C Rt ρ κ H locs lsc hr hle hI hS hl hkl (ks_t hks)
  refine W.objInit (g := F0 m pc lsc ((Value.ref a :: st).map (x_v σ ρ))) hx hb hown (hts _ hlk) (hts _ hin) (hts _ hco) rfl (by rw [hml]; exact hl.1) rfl hd hF ?_ K
  show 2 * (F0 m pc lsc ((Value.ref a :: st).map (x_v σ ρ))).monitorRoom + ((st.map (x_v σ ρ)).map fun v => v.category).sum + 12 ≤ mW M
  rw [x_w8]
  have : (F0 m pc lsc ((Value.ref a :: st).map (x_v σ ρ))).monitorRoom = 0 := rfl
  omega
def x_stQ (h : xH) (a : Nat) (i : Int32) (v : Nat) : Option xH := match x_at h a, x_at h v with
  | some (.inl (.object C, n, .inr (.inr (.inr (.inr f))))), some (.inr o) => if (i < 0 ∨ n ≤ i.toNatClampNeg) ∨ ¬ (vwCl[o.1]?).map (fun r => r.1) = some C then none else some (h.set (a - 16) (.inl (.object C, n, .inr (.inr (.inr (.inr (va_up f i.toNatClampNeg (some v))))))))
  | _, _ => none
theorem x_stQ.spec {i : Int32} {v : Nat} (hg : x_stQ h a i v = some h') : ∃ (C : String) (n : Nat) (f : Nat → Option Nat) (o : Nat × List Value) (r : vw_C), 16 ≤ a ∧ h[a - 16]? = some (.inl (.object C, n, .inr (.inr (.inr (.inr f))))) ∧ 16 ≤ v ∧ h[v - 16]? = some (.inr o) ∧ vwCl[o.1]? = some r ∧ r.1 = C ∧ vp_in i n ∧ h' = h.set (a - 16) (.inl (.object C, n, .inr (.inr (.inr (.inr (va_up f i.toNatClampNeg (some v))))))) := by
  unfold x_stQ at hg
  split at hg
  next C n f o ho hv =>
    by_cases hc : (i < 0 ∨ n ≤ i.toNatClampNeg) ∨ ¬ (vwCl[o.1]?).map (fun r => r.1) = some C
    · rw [if_pos hc] at hg; cases hg
    · rw [if_neg hc] at hg
      obtain ⟨g1, g2⟩ := x_at.spec ho
      obtain ⟨g3, g4⟩ := x_at.spec hv
      have hc2 : (vwCl[o.1]?).map (fun r => r.1) = some C := Classical.not_not.mp fun q => hc (Or.inr q)
      obtain ⟨r, hr, hrc⟩ := Option.map_eq_some_iff.mp hc2
      exact ⟨C, n, f, o, r, g1, g2, g3, g4, hr, hrc, fun q => hc (Or.inl q), (Option.some.inj hg).symm⟩
  next => cases hg
theorem y_aast {i : Int32} {v : Nat} (hg : x_stQ h a i v = some h') (hd : decode (mB M) pc = .ok (.aastore, 1)) (kk : Y S M h0 rv h1 mc ms (pc + 1) ls st h' cells slots) : Y S M h0 rv h1 mc ms pc ls (.ref v :: .int i :: .ref a :: st) h cells slots := by
  intro l D B σ p e s m args below meth c Qf ρ0 C Rt ρ κ H locs lsc hr hle hI hS hl hkl hks
  obtain ⟨Cn, n, f, o, r, ha, hh, hva, hvh, hvc, hrC, hin, rfl⟩ := x_stQ.spec hg
  have hget := x_w.get (σ := σ) (ρ := ρ) (κ := κ) hh
  have hgetv := x_w.get (σ := σ) (ρ := ρ) (κ := κ) hvh
  have hlen : (h.set (a - 16) (.inl (.object Cn, n, .inr (.inr (.inr (.inr (va_up f i.toNatClampNeg (some v)))))))).length = h.length := List.length_set
  show W p l e _ s m args below meth c H locs cells slots Qf (F0 m pc lsc (.ref (x_r σ ρ v) :: .int i :: .ref (x_r σ ρ a) :: st.map (x_v σ ρ)))
  have hrv : x_r σ ρ v = ρ (v - 16) := x_r.own hva
  rw [x_r.own ha, hrv]
  have hke := hI.2.2.2.2 _ _ hh
  refine va_astq (r := r) C.1 C.2.1 (hI.tys hh) hI.1 hI.2.1 hS (a - 16) 0 (v - 16) o.1 hget (by rw [hrC]; rfl) hgetv hvc hin hd (fun H1 locs1 hP1 hD1 hS1 => ?_)
  have e9 : va_up (fun i => (f i).map (x_r σ ρ)) i.toNatClampNeg (some (ρ (v - 16))) = fun j => (va_up f i.toNatClampNeg (some v) j).map (x_r σ ρ) := by
    funext j
    by_cases hj : j = i.toNatClampNeg
    · simp [va_up, hj, hrv]
    · simp [va_up, hj]
  rw [e9] at hP1 hD1
  refine kk l D B σ p e s m args below meth c Qf ρ0 C Rt ρ κ H1 locs1 lsc hr (by rw [hlen]; exact hle) (hI.put hh (fun j k hjk => ?_) (fun ty a h => by cases h; exact ⟨_, rfl⟩) hP1 hD1) hS1 hl (by rw [hlen]; exact hkl) (by rw [hlen]; exact ks_t (ks_t (ks_t hks)))
  by_cases hj : j = i.toNatClampNeg
  · simp [va_up, hj] at hjk
    rw [← hjk]
    exact ks_h hks
  · simp [va_up, hj] at hjk
    exact hke j k hjk
end YA
