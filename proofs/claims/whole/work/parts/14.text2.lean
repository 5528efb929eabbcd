theorem x_slen.spec {a : Nat} {x : Int32} (h : x_slen a = some x) : ∃ q, 3 ≤ a ∧ a < 15 ∧ x_tx[a - 3]? = some q ∧ Int32.ofNat q.2.2.2.length = x := by
  unfold x_slen at h
  by_cases ha : a < 3
  · rw [if_pos ha] at h; cases h
  · rw [if_neg ha] at h
    obtain ⟨q, hq, rfl⟩ := Option.map_eq_some_iff.mp h
    have hl : a - 3 < x_tx.length := (List.getElem?_eq_some_iff.mp hq).1
    have h12 : x_tx.length = 12 := rfl
    exact ⟨q, by omega, by omega, hq, rfl⟩
theorem x_sch.spec {a : Nat} {i x : Int32} (h : x_sch a i = some x) : ∃ q, 3 ≤ a ∧ a < 15 ∧ x_tx[a - 3]? = some q ∧ ¬ i < 0 ∧ i.toNatClampNeg < q.2.2.2.length ∧ q.2.2.2.getD i.toNatClampNeg 0 = x := by
  unfold x_sch at h
  by_cases ha : a < 3
  · rw [if_pos ha] at h; cases h
  · rw [if_neg ha] at h
    split at h
    next q hq =>
      by_cases hc : i < 0 ∨ q.2.2.2.length ≤ i.toNatClampNeg
      · rw [if_pos hc] at h; cases h
      · rw [if_neg hc] at h
        have hl : a - 3 < x_tx.length := (List.getElem?_eq_some_iff.mp hq).1
        have h12 : x_tx.length = 12 := rfl
        exact ⟨q, by omega, by omega, hq, fun z => hc (Or.inl z), Nat.not_le.mp fun z => hc (Or.inr z), Option.some.inj h⟩
    next => cases h
theorem x_tx_ok : ∀ q ∈ x_tx, q.2.2.2.length < 100 ∧ ∀ b ∈ q.2.2.2, ((b &&& 255).toUInt32 % 65536).toInt32 = b ∧ narrow .char (.int b) = .int b := by decide +kernel
section YT
variable {S : Nat × (Nat → Int32)} {M : MI} {h0 h1 h h' : xH} {rv : Option Value} {mc ms pc cells slots : Nat} {ls : List (Nat × Value)} {st : List Value} {a idx : Nat}
theorem x_txt {B : Nat} {σ : Nat → Nat} {L : Nat} {xs : Nat → Int32} {U : State} {H : Heap} (hF : x_FS B σ L xs U H) {q : String × Nat × String × List Int32} (ha : 3 ≤ a) (hq : x_tx[a - 3]? = some q) : ∃ t, x_T B (σ a) t q.2.2.2 U H := by
  obtain ⟨t, -, h2, h3, h4, h5⟩ := hF.2.2.2.2.1 (a - 3) q hq
  rw [show 3 + (a - 3) = a by omega] at h2 h3 h4
  exact ⟨t, h2, h3, h4, h5, hF.2.2.2.2.2.1, hF.2.2.2.2.2.2.1⟩
theorem y_strlen {x : Int32} (hx : x_slen a = some x) (hw : Cond.methodLink (mY M).cls idx yJ0_length_8abf5 ∈ x_WT) (hF : 5 ≤ mF M) (hW : 130 ≤ mW M) (h8 : (st.map fun v => v.category).sum ≤ 8) (hf : cells ≤ mc ∧ slots ≤ ms) (hd : decode (mB M) pc = .ok (.invokevirtual idx, 3)) (kk : Y S M h0 rv h1 mc ms (pc + 3) ls (.int x :: st) h cells slots) : Y S M h0 rv h1 mc ms pc ls (.ref a :: st) h cells slots := by
  intro l D B σ p e s m args below meth c Qf ρ0 C Rt ρ κ H locs lsc hr hle hI hS hl hkl hks
  obtain ⟨hx9, hb, hml, hown, hts, hFS, hB, hnm⟩ := id C
  obtain ⟨q, ha, ha2, hq, rfl⟩ := x_slen.spec hx
  obtain ⟨t, hT⟩ := x_txt (hFS.kept hS.1 hS.2.1) ha hq
  have K := kk l D B σ p e s m args below meth c Qf ρ0 C Rt ρ κ H locs lsc hr hle hI hS hl hkl (ks_c (by exact True.intro) (ks_t hks))
  show W p l e _ s m args below meth c H locs cells slots Qf (F0 m pc lsc (.ref (x_r σ ρ a) :: st.map (x_v σ ρ)))
  have hra : x_r σ ρ a = σ a := if_pos (by omega)
  rw [hra]
  exact W.callR (r := Int32.ofNat q.2.2.2.length) (a := #[.ref (σ a)]) (rest := st.map (x_v σ ρ)) (W.runV (n := 0) (As := []) (C := RJ0) (nL := mL M) ⟨hx9, hb, hml, hown, hts⟩ (s_length (B := B) (q := σ a) (t := t) (bs := q.2.2.2)) ⟨callB_of 0 hts (x_good (x_wt (tb 487 (by decide +kernel)) rfl)) rfl rfl rfl (hts _ (x_wt (tb 10 (by decide +kernel)) rfl)) (hts _ hw) ⟨by decide, by decide, by decide +kernel⟩ ⟨by show 1 + 1 ≤ mF M; omega, by show 8 + (1 + 11) + 20 ≤ mW M; omega⟩, hts _ (x_wt (tb 485 (by decide +kernel)) rfl), hts _ (x_wt (tb 486 (by decide +kernel)) rfl)⟩ ⟨fun a U g mk q => ⟨q.1, x_T.moved (u := U) (U := U.calling g mk a) (Vm.Alike.refl U.vm) q.2⟩, hT.recv, fun U hU hW => ⟨rfl, by show x_T B (σ a) t q.2.2.2 U U.heap; rw [hU]; exact hT.moved hW.alike⟩⟩ rfl rfl hl.1 rfl (x_mr h8) hd hf) K
theorem y_charAt {i x : Int32} (hx : x_sch a i = some x) (hw : Cond.methodLink (mY M).cls idx yJ0_charAt_5068e ∈ x_WT) (hF : 5 ≤ mF M) (hW : 130 ≤ mW M) (h8 : (st.map fun v => v.category).sum ≤ 8) (hf : cells ≤ mc ∧ slots ≤ ms) (hd : decode (mB M) pc = .ok (.invokevirtual idx, 3)) (kk : Y S M h0 rv h1 mc ms (pc + 3) ls (.int x :: st) h cells slots) : Y S M h0 rv h1 mc ms pc ls (.int i :: .ref a :: st) h cells slots := by
  intro l D B σ p e s m args below meth c Qf ρ0 C Rt ρ κ H locs lsc hr hle hI hS hl hkl hks
  obtain ⟨hx9, hb, hml, hown, hts, hFS, hB, hnm⟩ := id C
  obtain ⟨q, ha, ha2, hq, g1, g2, rfl⟩ := x_sch.spec hx
  obtain ⟨t, hT⟩ := x_txt (hFS.kept hS.1 hS.2.1) ha hq
  have K := kk l D B σ p e s m args below meth c Qf ρ0 C Rt ρ κ H locs lsc hr hle hI hS hl hkl (ks_c (by exact True.intro) (ks_t (ks_t hks)))
  show W p l e _ s m args below meth c H locs cells slots Qf (F0 m pc lsc (.int i :: .ref (x_r σ ρ a) :: st.map (x_v σ ρ)))
  have hra : x_r σ ρ a = σ a := if_pos (by omega)
  rw [hra]
  obtain ⟨ok1, ok2⟩ := x_tx_ok q (List.mem_of_getElem? hq)
  have hmem : q.2.2.2.getD i.toNatClampNeg 0 ∈ q.2.2.2 := by
    rw [List.getD_eq_getElem?_getD, List.getElem?_eq_getElem g2]
    exact List.getElem_mem g2
  obtain ⟨ok3, ok4⟩ := ok2 _ hmem
  have g3 : i < Int32.ofNat q.2.2.2.length := by
    obtain ⟨j, hj, rfl⟩ := nI_of g1
    rw [nI_clamp hj] at g2
    exact nI_lt g2 (by omega)
  exact W.callR (r := q.2.2.2.getD i.toNatClampNeg 0) (a := #[.ref (σ a), .int i]) (rest := st.map (x_v σ ρ)) (W.runV (n := 1) (As := [.int i]) (C := RJ0) (nL := mL M) ⟨hx9, hb, hml, hown, hts⟩ (s_charAt (B := B) (q := σ a) (t := t) (bs := q.2.2.2) g1 g3 g2 ok3 ok4) ⟨callB_of 1 hts (x_good (x_wt (tb 497 (by decide +kernel)) rfl)) rfl rfl rfl (hts _ (x_wt (tb 10 (by decide +kernel)) rfl)) (hts _ hw) ⟨by decide, by decide, by decide +kernel⟩ ⟨by show 3 + 1 ≤ mF M; omega, by show 8 + (2 + 11) + 64 ≤ mW M; omega⟩, hts _ (x_wt (tb 495 (by decide +kernel)) rfl), hts _ (x_wt (tb 496 (by decide +kernel)) rfl)⟩ ⟨fun a U g mk q => ⟨q.1, x_T.moved (u := U) (U := U.calling g mk a) (Vm.Alike.refl U.vm) q.2⟩, hT.recv, fun U hU hW => ⟨rfl, by show x_T B (σ a) t q.2.2.2 U U.heap; rw [hU]; exact hT.moved hW.alike⟩⟩ rfl rfl hl.1 rfl (x_mr h8) hd hf) K
end YT
