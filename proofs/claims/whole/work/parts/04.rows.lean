theorem x_v.cat {σ ρ : Nat → Nat} (v : Value) : (x_v σ ρ v).category = v.category := by cases v <;> rfl
/-! Rows: an instruction, a row. -/
def i_shl (x y : Int32) : Int32 := x <<< (y &&& 31)
def i_shr (x y : Int32) : Int32 := x >>> (y &&& 31)
def i_ushr (x y : Int32) : Int32 := (x.toUInt32 >>> (y.toUInt32 &&& Int32.toUInt32 31)).toInt32
def i_rem (x y : Int32) : Int32 := x - x / y * y
def i_byte (x : Int32) : Int32 := x.toInt8.toInt32
def i_short (x : Int32) : Int32 := x.toInt16.toInt32
def l_shl (x : Int64) (y : Int32) : Int64 := x <<< (y.toInt64 &&& 63)
def l_shr (x : Int64) (y : Int32) : Int64 := x >>> (y.toInt64 &&& 63)
theorem ks_c {n : Nat} {v : Value} {st : List Value} (h : k_v n v) (hs : ∀ w ∈ st, k_v n w) : ∀ w ∈ v :: st, k_v n w := fun w hw => (List.mem_cons.mp hw).elim (fun q => q ▸ h) (hs w)
theorem ks_t {n : Nat} {v : Value} {st : List Value} (hs : ∀ w ∈ v :: st, k_v n w) : ∀ w ∈ st, k_v n w := fun w hw => hs w (List.mem_cons_of_mem _ hw)
theorem ks_h {n : Nat} {v : Value} {st : List Value} (hs : ∀ w ∈ v :: st, k_v n w) : k_v n v := hs v List.mem_cons_self
section YR
variable {S : Nat × (Nat → Int32)} {M : MI} {h0 h1 h : xH} {rv : Option Value} {mc ms pc cells slots : Nat} {ls : List (Nat × Value)} {st : List Value}
theorem y_go {pc' : Nat} {st' : List Value} (hk : (∀ v ∈ st, k_v h.length v) → ∀ v ∈ st', k_v h.length v)
    (hw : ∀ (p : Program) (l : Launch) (e : Env) (R : Room) (s : State) (m : MethodId) (args : Array Value) (below : List Frame) (meth : Method) (c : Code) (H : Heap) (locs : List Loc) (Q : State → Prop) (lsc : Array Slot) (σ ρ : Nat → Nat), p.tables.exec = Jvm.exec → c.code = mB M →
      W p l e R s m args below meth c H locs cells slots Q (F0 m pc' lsc (st'.map (x_v σ ρ))) → W p l e R s m args below meth c H locs cells slots Q (F0 m pc lsc (st.map (x_v σ ρ))))
    (k : Y S M h0 rv h1 mc ms pc' ls st' h cells slots) : Y S M h0 rv h1 mc ms pc ls st h cells slots := by
  intro l D B σ p e s m args below meth c Qf ρ0 C Rt ρ κ H locs lsc hr hle hI hS hl hkl hks
  exact hw p l e _ s m args below meth c H locs Qf lsc σ ρ C.1 C.2.1 (k l D B σ p e s m args below meth c Qf ρ0 C Rt ρ κ H locs lsc hr hle hI hS hl hkl (hk hks))

theorem y_iadd {x y : Int32} (hd : decode (mB M) pc = .ok (.iadd, 1)) (k : Y S M h0 rv h1 mc ms (pc + 1) ls (.int (x + y) :: st) h cells slots) : Y S M h0 rv h1 mc ms pc ls (.int y :: .int x :: st) h cells slots :=
  y_go (fun h => ks_c (by exact True.intro) (ks_t (ks_t h))) (fun p l e R s m args below meth c H locs Q lsc σ ρ hx hb k => lv_iadd hx hb hd k) k
theorem y_isub {x y : Int32} (hd : decode (mB M) pc = .ok (.isub, 1)) (k : Y S M h0 rv h1 mc ms (pc + 1) ls (.int (x - y) :: st) h cells slots) : Y S M h0 rv h1 mc ms pc ls (.int y :: .int x :: st) h cells slots :=
  y_go (fun h => ks_c (by exact True.intro) (ks_t (ks_t h))) (fun p l e R s m args below meth c H locs Q lsc σ ρ hx hb k => lv_isub hx hb hd k) k
theorem y_imul {x y : Int32} (hd : decode (mB M) pc = .ok (.imul, 1)) (k : Y S M h0 rv h1 mc ms (pc + 1) ls (.int (x * y) :: st) h cells slots) : Y S M h0 rv h1 mc ms pc ls (.int y :: .int x :: st) h cells slots :=
  y_go (fun h => ks_c (by exact True.intro) (ks_t (ks_t h))) (fun p l e R s m args below meth c H locs Q lsc σ ρ hx hb k => lv_imul hx hb hd k) k
theorem y_iand {x y : Int32} (hd : decode (mB M) pc = .ok (.iand, 1)) (k : Y S M h0 rv h1 mc ms (pc + 1) ls (.int (x &&& y) :: st) h cells slots) : Y S M h0 rv h1 mc ms pc ls (.int y :: .int x :: st) h cells slots :=
  y_go (fun h => ks_c (by exact True.intro) (ks_t (ks_t h))) (fun p l e R s m args below meth c H locs Q lsc σ ρ hx hb k => lv_iand hx hb hd k) k
theorem y_ior {x y : Int32} (hd : decode (mB M) pc = .ok (.ior, 1)) (k : Y S M h0 rv h1 mc ms (pc + 1) ls (.int (x ||| y) :: st) h cells slots) : Y S M h0 rv h1 mc ms pc ls (.int y :: .int x :: st) h cells slots :=
  y_go (fun h => ks_c (by exact True.intro) (ks_t (ks_t h))) (fun p l e R s m args below meth c H locs Q lsc σ ρ hx hb k => lv_ior hx hb hd k) k
theorem y_ixor {x y : Int32} (hd : decode (mB M) pc = .ok (.ixor, 1)) (k : Y S M h0 rv h1 mc ms (pc + 1) ls (.int (x ^^^ y) :: st) h cells slots) : Y S M h0 rv h1 mc ms pc ls (.int y :: .int x :: st) h cells slots :=
  y_go (fun h => ks_c (by exact True.intro) (ks_t (ks_t h))) (fun p l e R s m args below meth c H locs Q lsc σ ρ hx hb k => lv_ixor hx hb hd k) k
theorem y_ishl {x y : Int32} (hd : decode (mB M) pc = .ok (.ishl, 1)) (k : Y S M h0 rv h1 mc ms (pc + 1) ls (.int (i_shl x y) :: st) h cells slots) : Y S M h0 rv h1 mc ms pc ls (.int y :: .int x :: st) h cells slots :=
  y_go (fun h => ks_c (by exact True.intro) (ks_t (ks_t h))) (fun p l e R s m args below meth c H locs Q lsc σ ρ hx hb k => lv_ishl hx hb hd k) k
theorem y_ishr {x y : Int32} (hd : decode (mB M) pc = .ok (.ishr, 1)) (k : Y S M h0 rv h1 mc ms (pc + 1) ls (.int (i_shr x y) :: st) h cells slots) : Y S M h0 rv h1 mc ms pc ls (.int y :: .int x :: st) h cells slots :=
  y_go (fun h => ks_c (by exact True.intro) (ks_t (ks_t h))) (fun p l e R s m args below meth c H locs Q lsc σ ρ hx hb k => lv_ishr hx hb hd k) k
theorem y_iushr {x y : Int32} (hd : decode (mB M) pc = .ok (.iushr, 1)) (k : Y S M h0 rv h1 mc ms (pc + 1) ls (.int (i_ushr x y) :: st) h cells slots) : Y S M h0 rv h1 mc ms pc ls (.int y :: .int x :: st) h cells slots :=
  y_go (fun h => ks_c (by exact True.intro) (ks_t (ks_t h))) (fun p l e R s m args below meth c H locs Q lsc σ ρ hx hb k => lv_iushr hx hb hd rfl k) k
theorem y_idiv {x y : Int32} (hd : decode (mB M) pc = .ok (.idiv, 1)) (hne : ¬ y = 0) (k : Y S M h0 rv h1 mc ms (pc + 1) ls (.int (x / y) :: st) h cells slots) : Y S M h0 rv h1 mc ms pc ls (.int y :: .int x :: st) h cells slots :=
  y_go (fun h => ks_c (by exact True.intro) (ks_t (ks_t h))) (fun p l e R s m args below meth c H locs Q lsc σ ρ hx hb k => lv_idiv hx hb hd hne k) k
theorem y_irem {x y : Int32} (hd : decode (mB M) pc = .ok (.irem, 1)) (hne : ¬ y = 0) (k : Y S M h0 rv h1 mc ms (pc + 1) ls (.int (i_rem x y) :: st) h cells slots) : Y S M h0 rv h1 mc ms pc ls (.int y :: .int x :: st) h cells slots :=
  y_go (fun h => ks_c (by exact True.intro) (ks_t (ks_t h))) (fun p l e R s m args below meth c H locs Q lsc σ ρ hx hb k => lv_irem hx hb hd hne k) k
theorem y_ineg {x : Int32} (hd : decode (mB M) pc = .ok (.ineg, 1)) (k : Y S M h0 rv h1 mc ms (pc + 1) ls (.int (-x) :: st) h cells slots) : Y S M h0 rv h1 mc ms pc ls (.int x :: st) h cells slots :=
  y_go (fun h => ks_c (by exact True.intro) (ks_t h)) (fun p l e R s m args below meth c H locs Q lsc σ ρ hx hb k => lv_ineg hx hb hd k) k
theorem y_ladd {x y : Int64} (hd : decode (mB M) pc = .ok (.ladd, 1)) (k : Y S M h0 rv h1 mc ms (pc + 1) ls (.long (x + y) :: st) h cells slots) : Y S M h0 rv h1 mc ms pc ls (.long y :: .long x :: st) h cells slots :=
  y_go (fun h => ks_c (by exact True.intro) (ks_t (ks_t h))) (fun p l e R s m args below meth c H locs Q lsc σ ρ hx hb k => lv_ladd hx hb hd k) k
theorem y_lsub {x y : Int64} (hd : decode (mB M) pc = .ok (.lsub, 1)) (k : Y S M h0 rv h1 mc ms (pc + 1) ls (.long (x - y) :: st) h cells slots) : Y S M h0 rv h1 mc ms pc ls (.long y :: .long x :: st) h cells slots :=
  y_go (fun h => ks_c (by exact True.intro) (ks_t (ks_t h))) (fun p l e R s m args below meth c H locs Q lsc σ ρ hx hb k => lv_lsub hx hb hd k) k
theorem y_land {x y : Int64} (hd : decode (mB M) pc = .ok (.land, 1)) (k : Y S M h0 rv h1 mc ms (pc + 1) ls (.long (x &&& y) :: st) h cells slots) : Y S M h0 rv h1 mc ms pc ls (.long y :: .long x :: st) h cells slots :=
  y_go (fun h => ks_c (by exact True.intro) (ks_t (ks_t h))) (fun p l e R s m args below meth c H locs Q lsc σ ρ hx hb k => lv_land hx hb hd k) k
theorem y_lor {x y : Int64} (hd : decode (mB M) pc = .ok (.lor, 1)) (k : Y S M h0 rv h1 mc ms (pc + 1) ls (.long (x ||| y) :: st) h cells slots) : Y S M h0 rv h1 mc ms pc ls (.long y :: .long x :: st) h cells slots :=
  y_go (fun h => ks_c (by exact True.intro) (ks_t (ks_t h))) (fun p l e R s m args below meth c H locs Q lsc σ ρ hx hb k => lv_lor hx hb hd k) k
theorem y_lxor {x y : Int64} (hd : decode (mB M) pc = .ok (.lxor, 1)) (k : Y S M h0 rv h1 mc ms (pc + 1) ls (.long (x ^^^ y) :: st) h cells slots) : Y S M h0 rv h1 mc ms pc ls (.long y :: .long x :: st) h cells slots :=
  y_go (fun h => ks_c (by exact True.intro) (ks_t (ks_t h))) (fun p l e R s m args below meth c H locs Q lsc σ ρ hx hb k => lv_lxor hx hb hd k) k
theorem y_lshl {x : Int64} {y : Int32} (hd : decode (mB M) pc = .ok (.lshl, 1)) (k : Y S M h0 rv h1 mc ms (pc + 1) ls (.long (l_shl x y) :: st) h cells slots) : Y S M h0 rv h1 mc ms pc ls (.int y :: .long x :: st) h cells slots :=
  y_go (fun h => ks_c (by exact True.intro) (ks_t (ks_t h))) (fun p l e R s m args below meth c H locs Q lsc σ ρ hx hb k => lv_lshl hx hb hd rfl k) k
theorem y_lshr {x : Int64} {y : Int32} (hd : decode (mB M) pc = .ok (.lshr, 1)) (k : Y S M h0 rv h1 mc ms (pc + 1) ls (.long (l_shr x y) :: st) h cells slots) : Y S M h0 rv h1 mc ms pc ls (.int y :: .long x :: st) h cells slots :=
  y_go (fun h => ks_c (by exact True.intro) (ks_t (ks_t h))) (fun p l e R s m args below meth c H locs Q lsc σ ρ hx hb k => lv_lshr hx hb hd rfl k) k
theorem y_lcmp {x y : Int64} (hd : decode (mB M) pc = .ok (.lcmp, 1)) (k : Y S M h0 rv h1 mc ms (pc + 1) ls (.int (lg_cmp x y) :: st) h cells slots) : Y S M h0 rv h1 mc ms pc ls (.long y :: .long x :: st) h cells slots :=
  y_go (fun h => ks_c (by exact True.intro) (ks_t (ks_t h))) (fun p l e R s m args below meth c H locs Q lsc σ ρ hx hb k => W.lcmp hx hb hd k) k
theorem y_i2l {x : Int32} (hd : decode (mB M) pc = .ok (.i2l, 1)) (k : Y S M h0 rv h1 mc ms (pc + 1) ls (.long x.toInt64 :: st) h cells slots) : Y S M h0 rv h1 mc ms pc ls (.int x :: st) h cells slots :=
  y_go (fun h => ks_c (by exact True.intro) (ks_t h)) (fun p l e R s m args below meth c H locs Q lsc σ ρ hx hb k => lv_i2l hx hb hd rfl k) k
theorem y_l2i {x : Int64} (hd : decode (mB M) pc = .ok (.l2i, 1)) (k : Y S M h0 rv h1 mc ms (pc + 1) ls (.int x.toInt32 :: st) h cells slots) : Y S M h0 rv h1 mc ms pc ls (.long x :: st) h cells slots :=
  y_go (fun h => ks_c (by exact True.intro) (ks_t h)) (fun p l e R s m args below meth c H locs Q lsc σ ρ hx hb k => lv_l2i hx hb hd rfl k) k
theorem y_i2b {x : Int32} (hd : decode (mB M) pc = .ok (.i2b, 1)) (k : Y S M h0 rv h1 mc ms (pc + 1) ls (.int (i_byte x) :: st) h cells slots) : Y S M h0 rv h1 mc ms pc ls (.int x :: st) h cells slots :=
  y_go (fun h => ks_c (by exact True.intro) (ks_t h)) (fun p l e R s m args below meth c H locs Q lsc σ ρ hx hb k => lv_i2b hx hb hd rfl k) k
theorem y_i2s {x : Int32} (hd : decode (mB M) pc = .ok (.i2s, 1)) (k : Y S M h0 rv h1 mc ms (pc + 1) ls (.int (i_short x) :: st) h cells slots) : Y S M h0 rv h1 mc ms pc ls (.int x :: st) h cells slots :=
  y_go (fun h => ks_c (by exact True.intro) (ks_t h)) (fun p l e R s m args below meth c H locs Q lsc σ ρ hx hb k => lv_i2s hx hb hd rfl k) k
theorem y_iconst {n : Int} {v : Int32} (hd : decode (mB M) pc = .ok (.iconst n, 1)) (hv : Int32.ofInt n = v) (k : Y S M h0 rv h1 mc ms (pc + 1) ls (.int v :: st) h cells slots) : Y S M h0 rv h1 mc ms pc ls (st) h cells slots :=
  y_go (fun h => ks_c (by exact True.intro) h) (fun p l e R s m args below meth c H locs Q lsc σ ρ hx hb k => lv_iconst hx hb hd hv k) k
theorem y_bipush {n : Int} {v : Int32} (hd : decode (mB M) pc = .ok (.bipush n, 2)) (hv : (Int8.ofInt n).toInt32 = v) (k : Y S M h0 rv h1 mc ms (pc + 2) ls (.int v :: st) h cells slots) : Y S M h0 rv h1 mc ms pc ls (st) h cells slots :=
  y_go (fun h => ks_c (by exact True.intro) h) (fun p l e R s m args below meth c H locs Q lsc σ ρ hx hb k => lv_bipush hx hb hd hv k) k
theorem y_sipush {n : Int} {v : Int32} (hd : decode (mB M) pc = .ok (.sipush n, 3)) (hv : (Int16.ofInt n).toInt32 = v) (k : Y S M h0 rv h1 mc ms (pc + 3) ls (.int v :: st) h cells slots) : Y S M h0 rv h1 mc ms pc ls (st) h cells slots :=
  y_go (fun h => ks_c (by exact True.intro) h) (fun p l e R s m args below meth c H locs Q lsc σ ρ hx hb k => lv_sipush hx hb hd hv k) k
theorem y_lconst {n : Fin 2} {v : Int64} (hd : decode (mB M) pc = .ok (.lconst n, 1)) (hv : Int64.ofNat (n : Nat) = v) (k : Y S M h0 rv h1 mc ms (pc + 1) ls (.long v :: st) h cells slots) : Y S M h0 rv h1 mc ms pc ls (st) h cells slots :=
  y_go (fun h => ks_c (by exact True.intro) h) (fun p l e R s m args below meth c H locs Q lsc σ ρ hx hb k => lv_lconst hx hb hd hv k) k
theorem y_null (hd : decode (mB M) pc = .ok (.aconst_null, 1)) (k : Y S M h0 rv h1 mc ms (pc + 1) ls (.null :: st) h cells slots) : Y S M h0 rv h1 mc ms pc ls (st) h cells slots :=
  y_go (fun h => ks_c (by exact True.intro) h) (fun p l e R s m args below meth c H locs Q lsc σ ρ hx hb k => lv_null hx hb hd k) k
theorem y_dup {v : Value} (hd : decode (mB M) pc = .ok (.dup, 1)) (hv : v.category = 1) (k : Y S M h0 rv h1 mc ms (pc + 1) ls (v :: v :: st) h cells slots) : Y S M h0 rv h1 mc ms pc ls (v :: st) h cells slots :=
  y_go (fun h => ks_c (ks_h h) h) (fun p l e R s m args below meth c H locs Q lsc σ ρ hx hb k => lv_dup hx hb hd (by rw [x_v.cat]; exact hv) k) k
theorem y_pop {v : Value} (hd : decode (mB M) pc = .ok (.pop, 1)) (hv : v.category = 1) (k : Y S M h0 rv h1 mc ms (pc + 1) ls (st) h cells slots) : Y S M h0 rv h1 mc ms pc ls (v :: st) h cells slots :=
  y_go (fun h => ks_t h) (fun p l e R s m args below meth c H locs Q lsc σ ρ hx hb k => lv_pop hx hb hd (by rw [x_v.cat]; exact hv) k) k
theorem y_dup_x1 {v w : Value} (hd : decode (mB M) pc = .ok (.dup_x1, 1)) (hv : v.category = 1) (hw : w.category = 1) (k : Y S M h0 rv h1 mc ms (pc + 1) ls (v :: w :: v :: st) h cells slots) : Y S M h0 rv h1 mc ms pc ls (v :: w :: st) h cells slots :=
  y_go (fun h => ks_c (ks_h h) (ks_c (ks_h (ks_t h)) (ks_c (ks_h h) (ks_t (ks_t h))))) (fun p l e R s m args below meth c H locs Q lsc σ ρ hx hb k => lv_dup_x1 hx hb hd (by rw [x_v.cat]; exact hv) (by rw [x_v.cat]; exact hw) k) k
theorem y_dup2 {v w : Value} (hd : decode (mB M) pc = .ok (.dup2, 1)) (hv : v.category = 1) (hw : w.category = 1) (k : Y S M h0 rv h1 mc ms (pc + 1) ls (v :: w :: v :: w :: st) h cells slots) : Y S M h0 rv h1 mc ms pc ls (v :: w :: st) h cells slots :=
  y_go (fun h => ks_c (ks_h h) (ks_c (ks_h (ks_t h)) h)) (fun p l e R s m args below meth c H locs Q lsc σ ρ hx hb k => lv_dup2_11 hx hb hd (by rw [x_v.cat]; exact hv) (by rw [x_v.cat]; exact hw) k) k
theorem y_goto {off : Int} {tgt : Nat} (hd : decode (mB M) pc = .ok (.goto off, 3)) (ht : (pc : Int) + off = (tgt : Int)) (k : Y S M h0 rv h1 mc ms tgt ls st h cells slots) : Y S M h0 rv h1 mc ms pc ls st h cells slots :=
  y_go (fun h => h) (fun p l e R s m args below meth c H locs Q lsc σ ρ hx hb k => lv_goto hx hb hd ht k) k
theorem y_br {st' : List Value} {c0 : Prop} {tgt nxt : Nat} (hk : (∀ v ∈ st, k_v h.length v) → ∀ v ∈ st', k_v h.length v)
    (hw : ∀ (p : Program) (l : Launch) (e : Env) (R : Room) (s : State) (m : MethodId) (args : Array Value) (below : List Frame) (meth : Method) (c : Code) (H : Heap) (locs : List Loc) (Q : State → Prop) (lsc : Array Slot) (σ ρ : Nat → Nat), p.tables.exec = Jvm.exec → c.code = mB M →
      (c0 → W p l e R s m args below meth c H locs cells slots Q (F0 m tgt lsc (st'.map (x_v σ ρ)))) → (¬ c0 → W p l e R s m args below meth c H locs cells slots Q (F0 m nxt lsc (st'.map (x_v σ ρ)))) → W p l e R s m args below meth c H locs cells slots Q (F0 m pc lsc (st.map (x_v σ ρ))))
    (kt : c0 → Y S M h0 rv h1 mc ms tgt ls st' h cells slots) (kf : ¬ c0 → Y S M h0 rv h1 mc ms nxt ls st' h cells slots) : Y S M h0 rv h1 mc ms pc ls st h cells slots := by
  intro l D B σ p e s m args below meth c Qf ρ0 C Rt ρ κ H locs lsc hr hle hI hS hl hkl hks
  exact hw p l e _ s m args below meth c H locs Qf lsc σ ρ C.1 C.2.1 (fun q => kt q l D B σ p e s m args below meth c Qf ρ0 C Rt ρ κ H locs lsc hr hle hI hS hl hkl (hk hks)) (fun q => kf q l D B σ p e s m args below meth c Qf ρ0 C Rt ρ κ H locs lsc hr hle hI hS hl hkl (hk hks))
theorem y_if_eq {x : Int32} {off : Int} {tgt : Nat} (hd : decode (mB M) pc = .ok (.ifCond .eq off, 3)) (ht : (pc : Int) + off = (tgt : Int)) (kt : x = 0 → Y S M h0 rv h1 mc ms tgt ls st h cells slots) (kf : ¬ x = 0 → Y S M h0 rv h1 mc ms (pc + 3) ls st h cells slots) : Y S M h0 rv h1 mc ms pc ls (.int x :: st) h cells slots :=
  y_br (fun h => ks_t h) (fun p l e R s m args below meth c H locs Q lsc σ ρ hx hb kt kf => lv_if_eq hx hb hd ht kt kf) kt kf
theorem y_if_ne {x : Int32} {off : Int} {tgt : Nat} (hd : decode (mB M) pc = .ok (.ifCond .ne off, 3)) (ht : (pc : Int) + off = (tgt : Int)) (kf : x = 0 → Y S M h0 rv h1 mc ms (pc + 3) ls st h cells slots) (kt : ¬ x = 0 → Y S M h0 rv h1 mc ms tgt ls st h cells slots) : Y S M h0 rv h1 mc ms pc ls (.int x :: st) h cells slots :=
  y_br (fun h => ks_t h) (fun p l e R s m args below meth c H locs Q lsc σ ρ hx hb kf kt => lv_if_ne hx hb hd ht kt kf) kf kt
theorem y_if_lt {x : Int32} {off : Int} {tgt : Nat} (hd : decode (mB M) pc = .ok (.ifCond .lt off, 3)) (ht : (pc : Int) + off = (tgt : Int)) (kt : x < 0 → Y S M h0 rv h1 mc ms tgt ls st h cells slots) (kf : ¬ x < 0 → Y S M h0 rv h1 mc ms (pc + 3) ls st h cells slots) : Y S M h0 rv h1 mc ms pc ls (.int x :: st) h cells slots :=
  y_br (fun h => ks_t h) (fun p l e R s m args below meth c H locs Q lsc σ ρ hx hb kt kf => lv_if_lt hx hb hd ht kt kf) kt kf
theorem y_if_ge {x : Int32} {off : Int} {tgt : Nat} (hd : decode (mB M) pc = .ok (.ifCond .ge off, 3)) (ht : (pc : Int) + off = (tgt : Int)) (kt : 0 ≤ x → Y S M h0 rv h1 mc ms tgt ls st h cells slots) (kf : ¬ 0 ≤ x → Y S M h0 rv h1 mc ms (pc + 3) ls st h cells slots) : Y S M h0 rv h1 mc ms pc ls (.int x :: st) h cells slots :=
  y_br (fun h => ks_t h) (fun p l e R s m args below meth c H locs Q lsc σ ρ hx hb kt kf => lv_if_ge hx hb hd ht kt kf) kt kf
theorem y_if_gt {x : Int32} {off : Int} {tgt : Nat} (hd : decode (mB M) pc = .ok (.ifCond .gt off, 3)) (ht : (pc : Int) + off = (tgt : Int)) (kt : 0 < x → Y S M h0 rv h1 mc ms tgt ls st h cells slots) (kf : ¬ 0 < x → Y S M h0 rv h1 mc ms (pc + 3) ls st h cells slots) : Y S M h0 rv h1 mc ms pc ls (.int x :: st) h cells slots :=
  y_br (fun h => ks_t h) (fun p l e R s m args below meth c H locs Q lsc σ ρ hx hb kt kf => lv_if_gt hx hb hd ht kt kf) kt kf
theorem y_if_le {x : Int32} {off : Int} {tgt : Nat} (hd : decode (mB M) pc = .ok (.ifCond .le off, 3)) (ht : (pc : Int) + off = (tgt : Int)) (kt : x ≤ 0 → Y S M h0 rv h1 mc ms tgt ls st h cells slots) (kf : ¬ x ≤ 0 → Y S M h0 rv h1 mc ms (pc + 3) ls st h cells slots) : Y S M h0 rv h1 mc ms pc ls (.int x :: st) h cells slots :=
  y_br (fun h => ks_t h) (fun p l e R s m args below meth c H locs Q lsc σ ρ hx hb kt kf => lv_if_le hx hb hd ht kt kf) kt kf
theorem y_icmp_eq {x y : Int32} {off : Int} {tgt : Nat} (hd : decode (mB M) pc = .ok (.if_icmp .eq off, 3)) (ht : (pc : Int) + off = (tgt : Int)) (kt : x = y → Y S M h0 rv h1 mc ms tgt ls st h cells slots) (kf : ¬ x = y → Y S M h0 rv h1 mc ms (pc + 3) ls st h cells slots) : Y S M h0 rv h1 mc ms pc ls (.int y :: .int x :: st) h cells slots :=
  y_br (fun h => ks_t (ks_t h)) (fun p l e R s m args below meth c H locs Q lsc σ ρ hx hb kt kf => lv_icmp_eq hx hb hd ht kt kf) kt kf
theorem y_icmp_ne {x y : Int32} {off : Int} {tgt : Nat} (hd : decode (mB M) pc = .ok (.if_icmp .ne off, 3)) (ht : (pc : Int) + off = (tgt : Int)) (kf : x = y → Y S M h0 rv h1 mc ms (pc + 3) ls st h cells slots) (kt : ¬ x = y → Y S M h0 rv h1 mc ms tgt ls st h cells slots) : Y S M h0 rv h1 mc ms pc ls (.int y :: .int x :: st) h cells slots :=
  y_br (fun h => ks_t (ks_t h)) (fun p l e R s m args below meth c H locs Q lsc σ ρ hx hb kf kt => lv_icmp_ne hx hb hd ht kt kf) kf kt
theorem y_icmp_lt {x y : Int32} {off : Int} {tgt : Nat} (hd : decode (mB M) pc = .ok (.if_icmp .lt off, 3)) (ht : (pc : Int) + off = (tgt : Int)) (kt : x < y → Y S M h0 rv h1 mc ms tgt ls st h cells slots) (kf : ¬ x < y → Y S M h0 rv h1 mc ms (pc + 3) ls st h cells slots) : Y S M h0 rv h1 mc ms pc ls (.int y :: .int x :: st) h cells slots :=
  y_br (fun h => ks_t (ks_t h)) (fun p l e R s m args below meth c H locs Q lsc σ ρ hx hb kt kf => lv_icmp_lt hx hb hd ht kt kf) kt kf
theorem y_icmp_ge {x y : Int32} {off : Int} {tgt : Nat} (hd : decode (mB M) pc = .ok (.if_icmp .ge off, 3)) (ht : (pc : Int) + off = (tgt : Int)) (kt : y ≤ x → Y S M h0 rv h1 mc ms tgt ls st h cells slots) (kf : ¬ y ≤ x → Y S M h0 rv h1 mc ms (pc + 3) ls st h cells slots) : Y S M h0 rv h1 mc ms pc ls (.int y :: .int x :: st) h cells slots :=
  y_br (fun h => ks_t (ks_t h)) (fun p l e R s m args below meth c H locs Q lsc σ ρ hx hb kt kf => lv_icmp_ge hx hb hd ht kt kf) kt kf
theorem y_icmp_gt {x y : Int32} {off : Int} {tgt : Nat} (hd : decode (mB M) pc = .ok (.if_icmp .gt off, 3)) (ht : (pc : Int) + off = (tgt : Int)) (kt : y < x → Y S M h0 rv h1 mc ms tgt ls st h cells slots) (kf : ¬ y < x → Y S M h0 rv h1 mc ms (pc + 3) ls st h cells slots) : Y S M h0 rv h1 mc ms pc ls (.int y :: .int x :: st) h cells slots :=
  y_br (fun h => ks_t (ks_t h)) (fun p l e R s m args below meth c H locs Q lsc σ ρ hx hb kt kf => lv_icmp_gt hx hb hd ht kt kf) kt kf
theorem y_icmp_le {x y : Int32} {off : Int} {tgt : Nat} (hd : decode (mB M) pc = .ok (.if_icmp .le off, 3)) (ht : (pc : Int) + off = (tgt : Int)) (kt : x ≤ y → Y S M h0 rv h1 mc ms tgt ls st h cells slots) (kf : ¬ x ≤ y → Y S M h0 rv h1 mc ms (pc + 3) ls st h cells slots) : Y S M h0 rv h1 mc ms pc ls (.int y :: .int x :: st) h cells slots :=
  y_br (fun h => ks_t (ks_t h)) (fun p l e R s m args below meth c H locs Q lsc σ ρ hx hb kt kf => lv_icmp_le hx hb hd ht kt kf) kt kf
theorem y_nonnullR {a : Nat} {off : Int} {tgt : Nat} (hd : decode (mB M) pc = .ok (.ifnonnull off, 3)) (ht : (pc : Int) + off = (tgt : Int)) (k : Y S M h0 rv h1 mc ms tgt ls st h cells slots) : Y S M h0 rv h1 mc ms pc ls (.ref a :: st) h cells slots :=
  y_go (fun h => ks_t h) (fun p l e R s m args below meth c H locs Q lsc σ ρ hx hb k => lv_ifnonnull hx hb hd ht k) k
theorem y_nonnullN {off : Int} (hd : decode (mB M) pc = .ok (.ifnonnull off, 3)) (k : Y S M h0 rv h1 mc ms (pc + 3) ls st h cells slots) : Y S M h0 rv h1 mc ms pc ls (.null :: st) h cells slots :=
  y_go (fun h => ks_t h) (fun p l e R s m args below meth c H locs Q lsc σ ρ hx hb k => lv_ifnonnullN hx hb hd k) k
theorem y_tabIn {dflt lo hi : Int} {offs : Array Int} {len : Nat} {x : Int32} {off : Int} {tgt : Nat} (hd : decode (mB M) pc = .ok (.tableswitch dflt lo hi offs, len)) (g1 : ¬ x.toInt < lo) (g2 : ¬ hi < x.toInt) (ho : offs[(x.toInt - lo).toNat]? = some off) (ht : (pc : Int) + off = (tgt : Int)) (k : Y S M h0 rv h1 mc ms tgt ls st h cells slots) : Y S M h0 rv h1 mc ms pc ls (.int x :: st) h cells slots :=
  y_go (fun h => ks_t h) (fun p l e R s m args below meth c H locs Q lsc σ ρ hx hb k => lv_tableIn hx hb hd g1 g2 ho ht k) k
theorem y_tabOut {dflt lo hi : Int} {offs : Array Int} {len : Nat} {x : Int32} {tgt : Nat} (hd : decode (mB M) pc = .ok (.tableswitch dflt lo hi offs, len)) (g : x.toInt < lo ∨ hi < x.toInt) (ht : (pc : Int) + dflt = (tgt : Int)) (k : Y S M h0 rv h1 mc ms tgt ls st h cells slots) : Y S M h0 rv h1 mc ms pc ls (.int x :: st) h cells slots :=
  y_go (fun h => ks_t h) (fun p l e R s m args below meth c H locs Q lsc σ ρ hx hb k => lv_tableOut hx hb hd g ht k) k
theorem y_lookup {dflt : Int} {ps : Array (Int × Int)} {len : Nat} {x : Int32} {off : Int} {tgt : Nat} (hd : decode (mB M) pc = .ok (.lookupswitch dflt ps, len)) (hp : (ps.toList.zip (ps.toList.drop 1)).all (fun (a, next) => a.1 < next.1) = true) (ho : Op.lookupswitch.offset ps.toList dflt x.toInt = off) (ht : (pc : Int) + off = (tgt : Int)) (k : Y S M h0 rv h1 mc ms tgt ls st h cells slots) : Y S M h0 rv h1 mc ms pc ls (.int x :: st) h cells slots :=
  y_go (fun h => ks_t h) (fun p l e R s m args below meth c H locs Q lsc σ ρ hx hb k => lv_lookup hx hb hd hp ho ht k) k
/-- locals: a load -/
theorem y_ld {i j len : Nat} {v : Value} {I : Instr} (hk : ls[j]? = some (i, v)) (hd : decode (mB M) pc = .ok (I, len))
    (hw : ∀ (p : Program) (l : Launch) (e : Env) (R : Room) (s : State) (m : MethodId) (args : Array Value) (below : List Frame) (meth : Method) (c : Code) (H : Heap) (locs : List Loc) (Q : State → Prop) (lsc : Array Slot) (rest : List Value) (σ ρ : Nat → Nat), p.tables.exec = Jvm.exec → c.code = mB M → lsc[i]? = some (.val (x_v σ ρ v)) →
      W p l e R s m args below meth c H locs cells slots Q (F0 m (pc + len) lsc (x_v σ ρ v :: rest)) → W p l e R s m args below meth c H locs cells slots Q (F0 m pc lsc rest))
    (k : Y S M h0 rv h1 mc ms (pc + len) ls (v :: st) h cells slots) : Y S M h0 rv h1 mc ms pc ls st h cells slots := by
  intro l D B σ p e s m args below meth c Qf ρ0 C Rt ρ κ H locs lsc hr hle hI hS hl hkl hks
  refine hw p l e _ s m args below meth c H locs Qf lsc _ σ ρ C.1 C.2.1 (lv_at hl j (v := x_v σ ρ v) (i := i) (by rw [List.getElem?_map, hk]; rfl)) (k l D B σ p e s m args below meth c Qf ρ0 C Rt ρ κ H locs lsc hr hle hI hS hl hkl (ks_c (hkl _ (List.mem_of_getElem? hk)) hks))

theorem y_iload_n {k : Fin 4} {x : Int32} (hd : decode (mB M) pc = .ok (.iload_n k, 1)) (j : Nat) (hk : ls[j]? = some ((k : Nat), .int x)) (kk : Y S M h0 rv h1 mc ms (pc + 1) ls (.int x :: st) h cells slots) : Y S M h0 rv h1 mc ms pc ls st h cells slots :=
  y_ld hk hd (fun p l e R s m args below meth c H locs Q lsc rest σ ρ hx hb hl k => lv_iload_n hx hb hd rfl hl k) kk
theorem y_iload {i : Nat} {x : Int32} (hd : decode (mB M) pc = .ok (.iload i, 2)) (j : Nat) (hk : ls[j]? = some (i, .int x)) (kk : Y S M h0 rv h1 mc ms (pc + 2) ls (.int x :: st) h cells slots) : Y S M h0 rv h1 mc ms pc ls st h cells slots :=
  y_ld hk hd (fun p l e R s m args below meth c H locs Q lsc rest σ ρ hx hb hl k => lv_iload hx hb hd hl k) kk
theorem y_lload_n {k : Fin 4} {x : Int64} (hd : decode (mB M) pc = .ok (.lload_n k, 1)) (j : Nat) (hk : ls[j]? = some ((k : Nat), .long x)) (kk : Y S M h0 rv h1 mc ms (pc + 1) ls (.long x :: st) h cells slots) : Y S M h0 rv h1 mc ms pc ls st h cells slots :=
  y_ld hk hd (fun p l e R s m args below meth c H locs Q lsc rest σ ρ hx hb hl k => lv_lload_n hx hb hd rfl hl k) kk
theorem y_lload {i : Nat} {x : Int64} (hd : decode (mB M) pc = .ok (.lload i, 2)) (j : Nat) (hk : ls[j]? = some (i, .long x)) (kk : Y S M h0 rv h1 mc ms (pc + 2) ls (.long x :: st) h cells slots) : Y S M h0 rv h1 mc ms pc ls st h cells slots :=
  y_ld hk hd (fun p l e R s m args below meth c H locs Q lsc rest σ ρ hx hb hl k => lv_lload hx hb hd hl k) kk
theorem y_aload_n {k : Fin 4} {x : Nat} (hd : decode (mB M) pc = .ok (.aload_n k, 1)) (j : Nat) (hk : ls[j]? = some ((k : Nat), .ref x)) (kk : Y S M h0 rv h1 mc ms (pc + 1) ls (.ref x :: st) h cells slots) : Y S M h0 rv h1 mc ms pc ls st h cells slots :=
  y_ld hk hd (fun p l e R s m args below meth c H locs Q lsc rest σ ρ hx hb hl k => lv_aload_n hx hb hd rfl hl k) kk
theorem y_aload {i : Nat} {x : Nat} (hd : decode (mB M) pc = .ok (.aload i, 2)) (j : Nat) (hk : ls[j]? = some (i, .ref x)) (kk : Y S M h0 rv h1 mc ms (pc + 2) ls (.ref x :: st) h cells slots) : Y S M h0 rv h1 mc ms pc ls st h cells slots :=
  y_ld hk hd (fun p l e R s m args below meth c H locs Q lsc rest σ ρ hx hb hl k => lv_aload hx hb hd hl k) kk
theorem x_flt {σ ρ : Nat → Nat} {P : Nat → Nat → Bool} (ls : List (Nat × Value)) : (ls.map fun q => (q.1, x_v σ ρ q.2)).filter (fun q => P q.1 q.2.category) = (ls.filter (fun q => P q.1 q.2.category)).map fun q => (q.1, x_v σ ρ q.2) := by
  induction ls with
  | nil => rfl
  | cons q ls ih =>
    rw [List.map_cons, List.filter_cons, List.filter_cons]
    show (if P q.1 (x_v σ ρ q.2).category = true then _ else _) = _
    rw [x_v.cat, ih]
    by_cases hp : P q.1 q.2.category = true
    · rw [if_pos hp, if_pos hp]; rfl
    · rw [if_neg hp, if_neg hp]
/-- locals: a store of a value of one word -/
theorem y_st1 {i len : Nat} {v : Value} {I : Instr} {ls' : List (Nat × Value)} (hd : decode (mB M) pc = .ok (I, len)) (hl' : (i, v) :: ls.filter (fun q => !(q.1 == i) && !(q.1 + 1 == i && q.2.category == 2)) = ls')
    (hw : ∀ (p : Program) (l : Launch) (e : Env) (R : Room) (s : State) (m : MethodId) (args : Array Value) (below : List Frame) (meth : Method) (c : Code) (H : Heap) (locs : List Loc) (Q : State → Prop) (lsc : Array Slot) (rest : List Value) (lv : List (Nat × Value)) (σ ρ : Nat → Nat), p.tables.exec = Jvm.exec → c.code = mB M → lv_has lsc (mL M) lv →
      (∀ ls2 : Array Slot, lv_has ls2 (mL M) ((i, x_v σ ρ v) :: lv.filter (fun q => !(q.1 == i) && !(q.1 + 1 == i && q.2.category == 2))) → W p l e R s m args below meth c H locs cells slots Q (F0 m (pc + len) ls2 rest)) → W p l e R s m args below meth c H locs cells slots Q (F0 m pc lsc (x_v σ ρ v :: rest)))
    (k : Y S M h0 rv h1 mc ms (pc + len) ls' st h cells slots) : Y S M h0 rv h1 mc ms pc ls (v :: st) h cells slots := by
  intro l D B σ p e s m args below meth c Qf ρ0 C Rt ρ κ H locs lsc hr hle hI hS hl hkl hks
  refine hw p l e _ s m args below meth c H locs Qf lsc _ _ σ ρ C.1 C.2.1 hl (fun ls2 h2 => k l D B σ p e s m args below meth c Qf ρ0 C Rt ρ κ H locs ls2 hr hle hI hS ?_ ?_ (ks_t hks))
  · subst hl'
    rw [List.map_cons, ← x_flt (P := fun a b => !(a == i) && !(a + 1 == i && b == 2)) ls]
    exact h2
  · subst hl'
    intro q hq
    rcases List.mem_cons.mp hq with rfl | hq
    · exact ks_h hks
    · exact hkl q (List.mem_filter.mp hq).1
theorem y_st2 {i len : Nat} {v : Value} {I : Instr} {ls' : List (Nat × Value)} (hd : decode (mB M) pc = .ok (I, len)) (hl' : (i, v) :: ls.filter (fun q => !(q.1 == i) && (!(q.1 == i + 1) && !(q.1 + 1 == i && q.2.category == 2))) = ls')
    (hw : ∀ (p : Program) (l : Launch) (e : Env) (R : Room) (s : State) (m : MethodId) (args : Array Value) (below : List Frame) (meth : Method) (c : Code) (H : Heap) (locs : List Loc) (Q : State → Prop) (lsc : Array Slot) (rest : List Value) (lv : List (Nat × Value)) (σ ρ : Nat → Nat), p.tables.exec = Jvm.exec → c.code = mB M → lv_has lsc (mL M) lv →
      (∀ ls2 : Array Slot, lv_has ls2 (mL M) ((i, x_v σ ρ v) :: lv.filter (fun q => !(q.1 == i) && (!(q.1 == i + 1) && !(q.1 + 1 == i && q.2.category == 2)))) → W p l e R s m args below meth c H locs cells slots Q (F0 m (pc + len) ls2 rest)) → W p l e R s m args below meth c H locs cells slots Q (F0 m pc lsc (x_v σ ρ v :: rest)))
    (k : Y S M h0 rv h1 mc ms (pc + len) ls' st h cells slots) : Y S M h0 rv h1 mc ms pc ls (v :: st) h cells slots := by
  intro l D B σ p e s m args below meth c Qf ρ0 C Rt ρ κ H locs lsc hr hle hI hS hl hkl hks
  refine hw p l e _ s m args below meth c H locs Qf lsc _ _ σ ρ C.1 C.2.1 hl (fun ls2 h2 => k l D B σ p e s m args below meth c Qf ρ0 C Rt ρ κ H locs ls2 hr hle hI hS ?_ ?_ (ks_t hks))
  · subst hl'
    rw [List.map_cons, ← x_flt (P := fun a b => !(a == i) && (!(a == i + 1) && !(a + 1 == i && b == 2))) ls]
    exact h2
  · subst hl'
    intro q hq
    rcases List.mem_cons.mp hq with rfl | hq
    · exact ks_h hks
    · exact hkl q (List.mem_filter.mp hq).1
theorem y_istore_n {k : Fin 4} {x z : Int32} {ls' : List (Nat × Value)} (hd : decode (mB M) pc = .ok (.istore_n k, 1)) (hn : (k : Nat) < mL M) (hz : x = z) (hl' : ((k : Nat), Value.int z) :: ls.filter (fun q => !(q.1 == (k : Nat)) && !(q.1 + 1 == (k : Nat) && q.2.category == 2)) = ls') (kk : Y S M h0 rv h1 mc ms (pc + 1) ls' st h cells slots) : Y S M h0 rv h1 mc ms pc ls (.int x :: st) h cells slots := by
  subst hz
  exact y_st1 hd hl' (fun p l e R s m args below meth c H locs Q lsc rest lv σ ρ hx hb hl k => lv_istore_n hx hb hd rfl hl hn rfl k) kk
theorem y_istore {i : Nat} {x z : Int32} {ls' : List (Nat × Value)} (hd : decode (mB M) pc = .ok (.istore i, 2)) (hn : i < mL M) (hz : x = z) (hl' : (i, Value.int z) :: ls.filter (fun q => !(q.1 == i) && !(q.1 + 1 == i && q.2.category == 2)) = ls') (kk : Y S M h0 rv h1 mc ms (pc + 2) ls' st h cells slots) : Y S M h0 rv h1 mc ms pc ls (.int x :: st) h cells slots := by
  subst hz
  exact y_st1 hd hl' (fun p l e R s m args below meth c H locs Q lsc rest lv σ ρ hx hb hl k => lv_istore hx hb hd hl hn rfl k) kk
theorem y_astore_n {k : Fin 4} {x z : Nat} {ls' : List (Nat × Value)} (hd : decode (mB M) pc = .ok (.astore_n k, 1)) (hn : (k : Nat) < mL M) (hz : x = z) (hl' : ((k : Nat), Value.ref z) :: ls.filter (fun q => !(q.1 == (k : Nat)) && !(q.1 + 1 == (k : Nat) && q.2.category == 2)) = ls') (kk : Y S M h0 rv h1 mc ms (pc + 1) ls' st h cells slots) : Y S M h0 rv h1 mc ms pc ls (.ref x :: st) h cells slots := by
  subst hz
  exact y_st1 hd hl' (fun p l e R s m args below meth c H locs Q lsc rest lv σ ρ hx hb hl k => lv_astore_n hx hb hd rfl hl hn rfl k) kk
theorem y_astore {i : Nat} {x z : Nat} {ls' : List (Nat × Value)} (hd : decode (mB M) pc = .ok (.astore i, 2)) (hn : i < mL M) (hz : x = z) (hl' : (i, Value.ref z) :: ls.filter (fun q => !(q.1 == i) && !(q.1 + 1 == i && q.2.category == 2)) = ls') (kk : Y S M h0 rv h1 mc ms (pc + 2) ls' st h cells slots) : Y S M h0 rv h1 mc ms pc ls (.ref x :: st) h cells slots := by
  subst hz
  exact y_st1 hd hl' (fun p l e R s m args below meth c H locs Q lsc rest lv σ ρ hx hb hl k => lv_astore hx hb hd hl hn rfl k) kk
theorem y_lstore_n {k : Fin 4} {x z : Int64} {ls' : List (Nat × Value)} (hd : decode (mB M) pc = .ok (.lstore_n k, 1)) (hn : (k : Nat) + 1 < mL M) (hz : x = z) (hl' : ((k : Nat), Value.long z) :: ls.filter (fun q => !(q.1 == (k : Nat)) && (!(q.1 == (k : Nat) + 1) && !(q.1 + 1 == (k : Nat) && q.2.category == 2))) = ls') (kk : Y S M h0 rv h1 mc ms (pc + 1) ls' st h cells slots) : Y S M h0 rv h1 mc ms pc ls (.long x :: st) h cells slots := by
  subst hz
  exact y_st2 hd hl' (fun p l e R s m args below meth c H locs Q lsc rest lv σ ρ hx hb hl k => lv_lstore_n hx hb hd rfl hl hn rfl k) kk
theorem y_lstore {i : Nat} {x z : Int64} {ls' : List (Nat × Value)} (hd : decode (mB M) pc = .ok (.lstore i, 2)) (hn : i + 1 < mL M) (hz : x = z) (hl' : (i, Value.long z) :: ls.filter (fun q => !(q.1 == i) && (!(q.1 == i + 1) && !(q.1 + 1 == i && q.2.category == 2))) = ls') (kk : Y S M h0 rv h1 mc ms (pc + 2) ls' st h cells slots) : Y S M h0 rv h1 mc ms pc ls (.long x :: st) h cells slots := by
  subst hz
  exact y_st2 hd hl' (fun p l e R s m args below meth c H locs Q lsc rest lv σ ρ hx hb hl k => lv_lstore hx hb hd hl hn rfl k) kk
theorem y_iinc {i : Nat} {n : Int} {x z : Int32} {ls' : List (Nat × Value)} (hd : decode (mB M) pc = .ok (.iinc i n, 3)) (j : Nat) (hk : ls[j]? = some (i, .int x)) (hz : x + Int32.ofInt n = z) (hn : i < mL M) (hl' : (i, Value.int z) :: ls.filter (fun q => !(q.1 == i) && !(q.1 + 1 == i && q.2.category == 2)) = ls') (k : Y S M h0 rv h1 mc ms (pc + 3) ls' st h cells slots) : Y S M h0 rv h1 mc ms pc ls st h cells slots := by
  intro l D B σ p e s m args below meth c Qf ρ0 C Rt ρ κ H locs lsc hr hle hI hS hl hkl hks
  refine lv_iinc C.1 C.2.1 hd hl (k := j) (x := x) (by rw [List.getElem?_map, hk]; rfl) hz hn rfl (fun ls2 h2 => k l D B σ p e s m args below meth c Qf ρ0 C Rt ρ κ H locs ls2 hr hle hI hS ?_ ?_ hks)
  · subst hl'
    rw [List.map_cons, ← x_flt (P := fun a b => !(a == i) && !(a + 1 == i && b == 2)) ls]
    exact h2
  · subst hl'
    intro q hq
    rcases List.mem_cons.mp hq with rfl | hq
    · trivial
    · exact hkl q (List.mem_filter.mp hq).1
/-- fewer locals, in another order -/
theorem y_pick {ls' : List (Nat × Value)} (ks : List Nat) (hp : lv_pick ls ks = ls') (k : Y S M h0 rv h1 mc ms pc ls' st h cells slots) : Y S M h0 rv h1 mc ms pc ls st h cells slots := by
  intro l D B σ p e s m args below meth c Qf ρ0 C Rt ρ κ H locs lsc hr hle hI hS hl hkl hks
  have hm : ∀ q ∈ ls', q ∈ ls := fun q hq => by
    rw [← hp] at hq
    obtain ⟨i, -, hi⟩ := List.mem_filterMap.mp hq
    exact List.mem_of_getElem? hi
  refine k l D B σ p e s m args below meth c Qf ρ0 C Rt ρ κ H locs lsc hr hle hI hS ⟨hl.1, hl.2.1, fun q hq => ?_⟩ (fun q hq => hkl q (hm q hq)) hks
  obtain ⟨q', hq', rfl⟩ := List.mem_map.mp hq
  exact hl.2.2 _ (List.mem_map.mpr ⟨q', hm q' hq', rfl⟩)
/-- the method's end -/
theorem y_ret (hd : decode (mB M) pc = .ok (x_ret rv, 1)) (hc : cells ≤ mc) (hs : slots ≤ ms) (hk : x_rok (mT M) rv) : Y S M h0 rv h1 mc ms pc ls rv.toList h1 cells slots := by
  intro l D B σ p e s m args below meth c Qf ρ0 C Rt ρ κ H locs lsc hr hle hI hS hl hkl hks
  exact Rt ρ κ H locs lsc pc cells slots hr hle hI hS hc hs hks hk hd
theorem y_widen {c2 s2 : Nat} (hc : cells ≤ c2) (hs : slots ≤ s2) (k : Y S M h0 rv h1 mc ms pc ls st h c2 s2) : Y S M h0 rv h1 mc ms pc ls st h cells slots := by
  intro l D B σ p e s m args below meth c Qf ρ0 C Rt ρ κ H locs lsc hr hle hI hS hl hkl hks
  exact W.widen hc hs (k l D B σ p e s m args below meth c Qf ρ0 C Rt ρ κ H locs lsc hr hle hI hS hl hkl hks)
end YR
