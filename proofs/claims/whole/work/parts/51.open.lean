/-! THE CLAIM OUT OF ONE WALK OF THE LAW'S BODY. Your part is whole_start (and what it stands on); all else here is the same for every law, but numbers. -/
def R_law : String := "WhoOpensOneLaw"
def lw_P (b : Addr) (xs : List Int32) (args : Array Value) (s : State) : Prop := args = #[.ref b] ∧ s.IntsAt b xs ∧ xs.length ≤ 3072 ∧ (Jvm.Cond.and given_1 narrow_1).before args s = true
def lw_Q (_ : Array Value) (s : State) (o : Outcome) (t : State) : Prop := o = .returned (some (.int 1)) ∧ Framed s o t [] 192788 8523886
def lw_Z (below : List Frame) (a : Array Value) (s : State) : State → Prop := fun t => ∃ o, t.status = .running ∧ Ended t below o ∧ lw_Q a s o t
/-- the law's own end, with 1 on the stack, nothing written that was there before, its room as the claim has it -/
theorem lw_ret {p : Program} {l : Launch} {e : Env} {s : State} {m : MethodId} {below : List Frame} {meth : Method} {c : Code} {b : Nat} (hx : p.tables.exec = Jvm.exec) (hb : c.code = code) (hr : meth.sig.returnType = ret) (hlocks : meth.locks = false) {pc : Nat} {H : Heap} {ls : Array Slot} (hdg : decode code pc = .ok (.ireturn, 1)) : W p l e room_1 s m #[Value.ref b] below meth c H [] 192788 8523886 (lw_Z below #[Value.ref b] s) (F0 m pc ls [.int 1]) := by
  intro T hT X
  obtain ⟨fs, hret, hrun, hended, hW, hframe⟩ := X.leave (v := some (.int 1)) (hlocks := hlocks) (fun h => by rw [hr] at h; cases h)
  have hmeth' : T.vm.method? m = some meth := X.method'
  refine ⟨T.setFrames fs, ?_, .returned (some (.int 1)), hrun, hended, rfl, ⟨_, rfl⟩, hW, hframe⟩
  jvm_step X.here [X.here.top, hx, hb, hdg, hmeth', hr, ret, narrow_b1]
  (try refine ⟨rfl, ?_⟩); (try refine ⟨rfl, ?_⟩)
  first | (intro acts; rw [hret _ acts rfl rfl rfl]) | rw [hret _ _ rfl rfl rfl]
  exact Steps.refl _
/-- what holds at the law's entry: the machine, the code, the tables' words (any of lw_tbl by 'hts w (by decide +kernel)'), the script of L ints xs at the cell b, what the Statement gives of the start (any of its parts by flat_of_before) -/
def lw_At (p : Program) (s : State) (m : MethodId) (meth : Method) (c : Code) (b L : Nat) (xs : Nat → Int32) : Prop :=
  p.tables.exec = Jvm.exec ∧ c.code = code ∧ meth.sig.returnType = ret ∧ c.maxLocals = 4 ∧ s.vm.findClass R_law = some m.cls ∧ (∀ w ∈ lw_tbl, w.before #[Value.ref b] s = true) ∧ va_X b L xs s s.heap ∧ b < s.heap.size ∧ meth.locks = false ∧ (Jvm.Cond.and given_1 narrow_1).before #[Value.ref b] s = true

def x_pure : Prop := ∀ S : Nat × (Nat → Int32), S.1 ≤ 3072 → ∃ (n : Nat) (hz : xH) (c9 s9 : Nat), f_L_law S n [] = some (((1 : Int32), hz), c9, s9) ∧ c9 ≤ 192788 ∧ s9 ≤ 8523886
set_option maxHeartbeats 4000000 in
set_option maxRecDepth 100000 in
theorem whole_open (hpure : x_pure) {p : Program} {e : Env} {s : State} {m : MethodId} {below : List Frame} {meth : Method} {c : Code} (l : Launch) {b L : Nat} {xs : Nat → Int32} (hL : L ≤ 3072) (hname : meth.name = "law") (C0 : lw_At p s m meth c b L xs) : W p l e room_1 s m #[Value.ref b] below meth c s.heap [] 0 0 (lw_Z below #[Value.ref b] s) (entryFrame m ([Value.ref b] : List Value).toArray 4) := by
  obtain ⟨hx, hb, hr, hml, hown, hts, hX, hbl, hlocks, hgv⟩ := id C0
  obtain ⟨σ, hσ, hFS⟩ := x_fixed hts hX hbl hgv
  obtain ⟨n, hz, c9, s9, hE, hc, hs⟩ := hpure (L, xs) hL
  have hwt : ∀ w ∈ x_WT, w.before #[Value.ref b] s = true := fun w hw => hts w (List.mem_filter.mp hw).1
  obtain ⟨k0, j0, hK0⟩ := u_known (C := RX0) (T := TX0) (N := 11) (n := 11) hwt iw_X0 (hts (.instantiable RX0 11) (tb 25 (by decide +kernel)))
  obtain ⟨k1, j1, hK1⟩ := u_known (C := RX1) (T := TX1) (N := 7) (n := 7) hwt iw_X1 (hts (.instantiable RX1 7) (tb 209 (by decide +kernel)))
  obtain ⟨k2, j2, hK2⟩ := u_known (C := RX2) (T := TX2) (N := 12) (n := 12) hwt iw_X2 (hts (.instantiable RX2 12) (tb 125 (by decide +kernel)))
  obtain ⟨k3, j3, hK3⟩ := u_known (C := RX3) (T := TX3) (N := 11) (n := 11) hwt iw_X3 (hts (.instantiable RX3 11) (tb 119 (by decide +kernel)))
  obtain ⟨k4, j4, hK4⟩ := u_known (C := RX4) (T := TX4) (N := 3) (n := 3) hwt iw_X4 (hts (.instantiable RX4 3) (tb 236 (by decide +kernel)))
  obtain ⟨k5, j5, hK5⟩ := u_known (C := RX5) (T := TX5) (N := 5) (n := 5) hwt iw_X5 (hts (.instantiable RX5 5) (tb 96 (by decide +kernel)))
  obtain ⟨k6, j6, hK6⟩ := u_known (C := RX6) (T := TX6) (N := 9) (n := 9) hwt iw_X6 (hts (.instantiable RX6 9) (tb 17 (by decide +kernel)))
  obtain ⟨k7, j7, hK7⟩ := u_known (C := RX7) (T := TX7) (N := 40) (n := 40) hwt iw_X7 (hts (.instantiable RX7 40) (tb 917 (by decide +kernel)))
  obtain ⟨dC, dI, hKc⟩ : ∃ (dC : Nat → ClassId) (dI : Nat → Nat → Nat), ∀ (k : Nat) (q : vw_C), vwCl[k]? = some q → u_Kn s q.1 q.2.1 q.2.2 (dC k) (dI k) := by
    refine ⟨fun k => match k with
      | 0 => k0
      | 1 => k1
      | 2 => k2
      | 3 => k3
      | 4 => k4
      | 5 => k5
      | 6 => k6
      | _ => k7, fun k => match k with
      | 0 => j0
      | 1 => j1
      | 2 => j2
      | 3 => j3
      | 4 => j4
      | 5 => j5
      | 6 => j6
      | _ => j7, ?_⟩
    intro k q hq
    match k, hq with
    | 0, hq => cases hq; exact hK0
    | 1, hq => cases hq; exact hK1
    | 2, hq => cases hq; exact hK2
    | 3, hq => cases hq; exact hK3
    | 4, hq => cases hq; exact hK4
    | 5, hq => cases hq; exact hK5
    | 6, hq => cases hq; exact hK6
    | 7, hq => cases hq; exact hK7
    | k + 8, hq => simp [vwCl] at hq
  have hK : va_K (dC, dI) vwCl [] s := ⟨hKc, fun k q h => by simp at h⟩
  have hI : x_I (dC, dI) s.heap.size σ (fun _ => 0) (fun _ => 0) ([] : xH) s s.heap := by
    refine ⟨fun k q h => ?_, ⟨fun i j p q h => ?_, fun k q h => ?_⟩, hK, fun k ty a h => ?_, fun k e h => ?_⟩
    · simp [x_w] at h
    · simp [x_w] at h
    · simp [x_w] at h
    · simp at h
    · simp at h
  have C : x_C M_L_law s.heap.size σ L xs p s m #[Value.ref b] meth c := ⟨hx, hb, hml, hown, hwt, hFS, Nat.le_refl _, hname⟩
  have hl := lv_entry ([.ref b]) (n := 4) (Nat.le_of_ble_eq_true rfl)
  rw [lg_entry_eq]
  generalize (lg_sl ([.ref b]) ++ List.replicate (4 - (lg_sl ([.ref b])).length) Slot.unset).toArray = ls at hl ⊢
  have hl : lv_has ls 4 [(0, .ref b)] := hl
  have e9 : x_v σ (fun _ => 0) (.ref 0) = .ref b := by show Value.ref (x_r σ _ 0) = _; unfold x_r; rw [if_pos (by decide), hσ]
  refine c_L_law (L, xs) n [] (mc := 192788) (ms := 8523886) hE ⟨hc, hs⟩ l (dC, dI) s.heap.size σ p e s m #[Value.ref b] below meth c (lw_Z below #[Value.ref b] s) (fun _ => 0) C ?_ (fun _ => 0) (fun _ => 0) s.heap [] ls (fun _ _ => rfl) (Nat.le_refl _) hI va_S.rf ?_ ?_ ?_
  · intro ρ' κ' H' locs' lsc' pc' cells' slots' hag hle hI' hS' hc' hs' hk' hr' hdec
    refine va_forget hS'.2.2 (W.widen hc' hs' ?_)
    exact lw_ret hx hb hr hlocks hdec
  · show lv_has ls 4 [(0, x_v σ (fun _ => 0) (.ref 0))]
    rw [e9]
    exact hl
  · intro q hq
    rcases List.mem_singleton.mp hq with rfl
    show 0 < ([] : xH).length + 16
    omega
  · intro v hv
    cases hv
