set_option maxHeartbeats 4000000 in
set_option maxRecDepth 100000 in
theorem metX8_nameOf (l : Launch) (dC : Nat → ClassId) (dI : Nat → Nat → Nat) (cI cJ cC cZ cD : ClassId) (nt : Nat) (ng : Nat → Int32) (sz : Nat) (x0 x1 : Int32)  : Met l yX8_nameOf wsX8_nameOf ({ frames := 0, cells := 0, slots := 0, locals := 0 }) (va_Pc [.int x0, .int x1] (fun U => U.heap.size = sz ∧ va_P (dC, dI) vwCl [] U.heap ∧ va_K (dC, dI) vwCl [(cI, .int), (cJ, .long), (cC, .char), (cZ, .boolean), (cD, .double)] U ∧ va_D (fun _ => True) [] ∧ va_Z RX8 "NAMES" "[I" (.ref nt) (va_A [] sz) U U.heap ∧ va_T .int nt 18 (fun j => .int (ng j)) (va_A [] sz) U U.heap)) (va_Qi (fun (r : Int32) (u : Unit) => True) (fun (u : Unit) (t : State) => va_P (dC, dI) vwCl [] t.heap ∧ va_K (dC, dI) vwCl [(cI, .int), (cJ, .long), (cC, .char), (cZ, .boolean), (cD, .double)] t ∧ va_D (va_A [] sz) []) (va_A [] sz)) 0 0 (va_A [] sz) := by
  refine Met.ofW (cc := cX8_nameOf) (maxL := 3) (ret := (some .int)) (by decide) rfl ?_
  intro p e s m args below meth c s₁ B hml hv
  obtain ⟨rfl, hsz, hP, hK, hD0, hNZ, hNT⟩ := hv
  have hx := B.exec
  have hb := B.bytes
  have hr := B.returns
  have hts := atoms_spec (ws := wsX8_nameOf) B.pre
  have hown : s.vm.findClass RX8 = some m.cls := findClass_of_methodNamed B.named
  have hlocks := B.notSynchronized
  subst hsz
  have hD := hD0.self (sz := s.heap.size)
  generalize hAe : va_A [] s.heap.size = A at hD hNZ hNT ⊢
  have hA : ∀ q : Nat, s.heap.size ≤ q → A q := fun q h => by rw [← hAe]; exact Or.inr h
  have hS : va_S A s.heap s.heap [] := va_S.rf
  have hP : va_P (dC, dI) vwCl [] s.heap := hP
  have hl := lv_entry ([.int x0, .int x1]) (n := 3) (Nat.le_of_ble_eq_true rfl)
  rw [lg_entry_eq]
  generalize (lg_sl ([.int x0, .int x1]) ++ List.replicate (3 - (lg_sl ([.int x0, .int x1])).length) Slot.unset).toArray = ls at hl ⊢
  have hl : lv_has ls 3 [(0, .int x0), (1, .int x1)] := hl
  refine lv_iload_n hx hb dX8_nameOf_0 rfl (lv_at hl 0 rfl) ?_
  refine lv_iload_n hx hb dX8_nameOf_1 rfl (lv_at hl 1 rfl) ?_
  refine lv_iadd hx hb dX8_nameOf_2 ?_
  refine lv_topi (fun z1 _ => ?_)
  refine lv_istore_n (lv' := [(2, .int z1), (0, .int x0), (1, .int x1)]) hx hb dX8_nameOf_3 rfl hl (by decide) rfl (fun ls hl => ?_)
  refine lv_iload_n hx hb dX8_nameOf_4 rfl (lv_at hl 0 rfl) ?_
  refine lv_if_lt (tgt := 24) hx hb dX8_nameOf_5 (by decide) (fun c1 => ?_) (fun c1 => ?_)
  · refine lv_iconst (v := (nI 0)) hx hb dX8_nameOf_24 (by decide) ?_
    have hP9 := hP.sub (ws' := []) [] rfl
    have hD9 := hD.sub (ws' := []) [] (by decide) rfl
    exact W.iret (v := (nI 0)) hx hb hr (fun t ht hW => ⟨⟨(nI 0), (), rfl, trivial, by rw [ht]; exact hP9, va_K.moved hW.alike hK, hD9⟩, hS.F ht⟩) hS.2.2 dX8_nameOf_25
  · refine lv_iload_n hx hb dX8_nameOf_8 rfl (lv_at hl 0 rfl) ?_
    refine va_gets hx hb hNZ hS hown (hts (.fieldLink RX8 48 "Eggboxery$Tables" "NAMES" "[I") (by decide +kernel)) (fun _ h9 => h9) dX8_nameOf_9 ?_
    refine va_tlen (v := nI 18) hx hb hNT hS rfl dX8_nameOf_12 ?_
    refine lv_icmp_ge (tgt := 24) hx hb dX8_nameOf_13 (by decide) (fun c2 => ?_) (fun c2 => ?_)
    · refine lv_iconst (v := (nI 0)) hx hb dX8_nameOf_24 (by decide) ?_
      have hP9 := hP.sub (ws' := []) [] rfl
      have hD9 := hD.sub (ws' := []) [] (by decide) rfl
      exact W.iret (v := (nI 0)) hx hb hr (fun t ht hW => ⟨⟨(nI 0), (), rfl, trivial, by rw [ht]; exact hP9, va_K.moved hW.alike hK, hD9⟩, hS.F ht⟩) hS.2.2 dX8_nameOf_25
    · have hin0 := in_of (n := 18) (by omega) c1 c2
      refine va_gets hx hb hNZ hS hown (hts (.fieldLink RX8 48 "Eggboxery$Tables" "NAMES" "[I") (by decide +kernel)) (fun _ h9 => h9) dX8_nameOf_16 ?_
      refine lv_iload_n hx hb dX8_nameOf_19 rfl (lv_at hl 0 rfl) ?_
      refine va_ti (v := .int (ng (z1).toNatClampNeg)) hx hb hNT hS hin0 rfl dX8_nameOf_20 ?_
      refine lv_topi (fun z2 _ => ?_)
      refine lv_goto (tgt := 25) hx hb dX8_nameOf_21 (by decide) ?_
      have hP9 := hP.sub (ws' := []) [] rfl
      have hD9 := hD.sub (ws' := []) [] (by decide) rfl
      exact W.iret (v := z2) hx hb hr (fun t ht hW => ⟨⟨z2, (), rfl, trivial, by rw [ht]; exact hP9, va_K.moved hW.alike hK, hD9⟩, hS.F ht⟩) hS.2.2 dX8_nameOf_25
set_option maxHeartbeats 4000000 in
set_option maxRecDepth 100000 in
theorem metX8_cellAt (l : Launch) (dC : Nat → ClassId) (dI : Nat → Nat → Nat) (cI cJ cC cZ cD : ClassId) (sz : Nat) (h0 q1 q2 q3 : Nat) (f g h : Nat → Int32) (sd : Int32) (x1 x2 : Int32)  : Met l yX8_cellAt wsX8_cellAt ({ frames := 0, cells := 0, slots := 0, locals := 0 }) (va_Pc [.ref h0, .int x1, .int x2] (fun U => U.heap.size = sz ∧ va_P (dC, dI) vwCl [(h0, .inr (13, [.ref q1, .ref q2, .ref q3, .int sd])), (q1, .inl (cI, 9, .inl f)), (q2, .inl (cI, 9, .inl g)), (q3, .inl (cI, 8, .inl h))] U.heap ∧ va_K (dC, dI) vwCl [(cI, .int), (cJ, .long), (cC, .char), (cZ, .boolean), (cD, .double)] U ∧ va_D (fun _ => True) [(h0, .inr (13, [.ref q1, .ref q2, .ref q3, .int sd])), (q1, .inl (cI, 9, .inl f)), (q2, .inl (cI, 9, .inl g)), (q3, .inl (cI, 8, .inl h))])) (va_Qi (fun (r : Int32) (u : Unit) => True) (fun (u : Unit) (t : State) => va_P (dC, dI) vwCl [(h0, .inr (13, [.ref q1, .ref q2, .ref q3, .int sd])), (q1, .inl (cI, 9, .inl f)), (q2, .inl (cI, 9, .inl g)), (q3, .inl (cI, 8, .inl h))] t.heap ∧ va_K (dC, dI) vwCl [(cI, .int), (cJ, .long), (cC, .char), (cZ, .boolean), (cD, .double)] t ∧ va_D (va_A [(h0, .inr (13, [.ref q1, .ref q2, .ref q3, .int sd])), (q1, .inl (cI, 9, .inl f)), (q2, .inl (cI, 9, .inl g)), (q3, .inl (cI, 8, .inl h))] sz) [(h0, .inr (13, [.ref q1, .ref q2, .ref q3, .int sd])), (q1, .inl (cI, 9, .inl f)), (q2, .inl (cI, 9, .inl g)), (q3, .inl (cI, 8, .inl h))]) (va_A [(h0, .inr (13, [.ref q1, .ref q2, .ref q3, .int sd])), (q1, .inl (cI, 9, .inl f)), (q2, .inl (cI, 9, .inl g)), (q3, .inl (cI, 8, .inl h))] sz)) 0 0 (va_A [(h0, .inr (13, [.ref q1, .ref q2, .ref q3, .int sd])), (q1, .inl (cI, 9, .inl f)), (q2, .inl (cI, 9, .inl g)), (q3, .inl (cI, 8, .inl h))] sz) := by
  refine Met.ofW (cc := cX8_cellAt) (maxL := 4) (ret := (some .int)) (by decide) rfl ?_
  intro p e s m args below meth c s₁ B hml hv
  obtain ⟨rfl, hsz, hP, hK, hD0⟩ := hv
  have hx := B.exec
  have hb := B.bytes
  have hr := B.returns
  have hts := atoms_spec (ws := wsX8_cellAt) B.pre
  have hown : s.vm.findClass RX8 = some m.cls := findClass_of_methodNamed B.named
  have hlocks := B.notSynchronized
  subst hsz
  have hD := hD0.self (sz := s.heap.size)
  generalize hAe : va_A [(h0, .inr (13, [.ref q1, .ref q2, .ref q3, .int sd])), (q1, .inl (cI, 9, .inl f)), (q2, .inl (cI, 9, .inl g)), (q3, .inl (cI, 8, .inl h))] s.heap.size = A at hD ⊢
  have hA : ∀ q : Nat, s.heap.size ≤ q → A q := fun q h => by rw [← hAe]; exact Or.inr h
  have hS : va_S A s.heap s.heap [] := va_S.rf
  have hP : va_P (dC, dI) vwCl [(h0, .inr (13, [.ref q1, .ref q2, .ref q3, .int sd])), (q1, .inl (cI, 9, .inl f)), (q2, .inl (cI, 9, .inl g)), (q3, .inl (cI, 8, .inl h))] s.heap := hP
  have hl := lv_entry ([.ref h0, .int x1, .int x2]) (n := 4) (Nat.le_of_ble_eq_true rfl)
  rw [lg_entry_eq]
  generalize (lg_sl ([.ref h0, .int x1, .int x2]) ++ List.replicate (4 - (lg_sl ([.ref h0, .int x1, .int x2])).length) Slot.unset).toArray = ls at hl ⊢
  have hinX8 : ∀ w ∈ wsX80, w ∈ wsX8_cellAt := by decide +kernel
  have hl : lv_has ls 4 [(0, .ref h0), (1, .int x1), (2, .int x2)] := hl
  refine lv_iload_n hx hb dX8_cellAt_0 rfl (lv_at hl 1 rfl) ?_
  refine lv_aload_n hx hb dX8_cellAt_1 rfl (lv_at hl 0 rfl) ?_
  refine va_get (D := (dC, dI)) (ci := 13) (v := .int sd) (C := RX8) (T := TX8) (N := 4) hx hb hts hinX8 hown hK hP 0 rfl rfl 3 (by decide) (hts (.fieldLink RX8 19 "Eggboxery$Tables" "side" "I") (by decide +kernel)) (fun _ h9 => h9) rfl dX8_cellAt_2 ?_
  refine lv_imul hx hb dX8_cellAt_5 ?_
  refine lv_topi (fun z1 _ => ?_)
  refine lv_iload_n hx hb dX8_cellAt_6 rfl (lv_at hl 2 rfl) ?_
  refine lv_iadd hx hb dX8_cellAt_7 ?_
  refine lv_topi (fun z2 _ => ?_)
  refine lv_istore_n (lv' := [(3, .int z2), (0, .ref h0), (1, .int x1), (2, .int x2)]) hx hb dX8_cellAt_8 rfl hl (by decide) rfl (fun ls hl => ?_)
  refine lv_iload_n hx hb dX8_cellAt_9 rfl (lv_at hl 0 rfl) ?_
  refine lv_if_lt (tgt := 31) hx hb dX8_cellAt_10 (by decide) (fun c1 => ?_) (fun c1 => ?_)
  · refine lv_iconst (v := (nI 0)) hx hb dX8_cellAt_31 (by decide) ?_
    have hP9 := hP.sub (ws' := [(h0, .inr (13, [.ref q1, .ref q2, .ref q3, .int sd])), (q1, .inl (cI, 9, .inl f)), (q2, .inl (cI, 9, .inl g)), (q3, .inl (cI, 8, .inl h))]) [0, 1, 2, 3] rfl
    have hD9 := hD.sub (ws' := [(h0, .inr (13, [.ref q1, .ref q2, .ref q3, .int sd])), (q1, .inl (cI, 9, .inl f)), (q2, .inl (cI, 9, .inl g)), (q3, .inl (cI, 8, .inl h))]) [0, 1, 2, 3] (by decide) rfl
    exact W.iret (v := (nI 0)) hx hb hr (fun t ht hW => ⟨⟨(nI 0), (), rfl, trivial, by rw [ht]; exact hP9, va_K.moved hW.alike hK, hD9⟩, hS.F ht⟩) hS.2.2 dX8_cellAt_32
  · refine lv_iload_n hx hb dX8_cellAt_13 rfl (lv_at hl 0 rfl) ?_
    refine lv_aload_n hx hb dX8_cellAt_14 rfl (lv_at hl 1 rfl) ?_
    refine va_get (D := (dC, dI)) (ci := 13) (v := .ref q1) (C := RX8) (T := TX8) (N := 4) hx hb hts hinX8 hown hK hP 0 rfl rfl 0 (by decide) (hts (.fieldLink RX8 9 "Eggboxery$Tables" "cells" "[I") (by decide +kernel)) (fun _ h9 => h9) rfl dX8_cellAt_15 ?_
    refine va_alen (v := nI (9)) hx hb hK hP 1 0 rfl rfl rfl dX8_cellAt_18 ?_
    refine lv_icmp_ge (tgt := 31) hx hb dX8_cellAt_19 (by decide) (fun c2 => ?_) (fun c2 => ?_)
    · refine lv_iconst (v := (nI 0)) hx hb dX8_cellAt_31 (by decide) ?_
      have hP9 := hP.sub (ws' := [(h0, .inr (13, [.ref q1, .ref q2, .ref q3, .int sd])), (q1, .inl (cI, 9, .inl f)), (q2, .inl (cI, 9, .inl g)), (q3, .inl (cI, 8, .inl h))]) [0, 1, 2, 3] rfl
      have hD9 := hD.sub (ws' := [(h0, .inr (13, [.ref q1, .ref q2, .ref q3, .int sd])), (q1, .inl (cI, 9, .inl f)), (q2, .inl (cI, 9, .inl g)), (q3, .inl (cI, 8, .inl h))]) [0, 1, 2, 3] (by decide) rfl
      exact W.iret (v := (nI 0)) hx hb hr (fun t ht hW => ⟨⟨(nI 0), (), rfl, trivial, by rw [ht]; exact hP9, va_K.moved hW.alike hK, hD9⟩, hS.F ht⟩) hS.2.2 dX8_cellAt_32
    · have hin0 := in_of (n := 9) (by omega) c1 c2
      refine lv_aload_n hx hb dX8_cellAt_22 rfl (lv_at hl 1 rfl) ?_
      refine va_get (D := (dC, dI)) (ci := 13) (v := .ref q1) (C := RX8) (T := TX8) (N := 4) hx hb hts hinX8 hown hK hP 0 rfl rfl 0 (by decide) (hts (.fieldLink RX8 9 "Eggboxery$Tables" "cells" "[I") (by decide +kernel)) (fun _ h9 => h9) rfl dX8_cellAt_23 ?_
      refine lv_iload_n hx hb dX8_cellAt_26 rfl (lv_at hl 0 rfl) ?_
      refine va_iald hx hb hK hP 1 0 rfl rfl hin0 dX8_cellAt_27 ?_
      refine lv_topi (fun z3 _ => ?_)
      refine lv_goto (tgt := 32) hx hb dX8_cellAt_28 (by decide) ?_
      have hP9 := hP.sub (ws' := [(h0, .inr (13, [.ref q1, .ref q2, .ref q3, .int sd])), (q1, .inl (cI, 9, .inl f)), (q2, .inl (cI, 9, .inl g)), (q3, .inl (cI, 8, .inl h))]) [0, 1, 2, 3] rfl
      have hD9 := hD.sub (ws' := [(h0, .inr (13, [.ref q1, .ref q2, .ref q3, .int sd])), (q1, .inl (cI, 9, .inl f)), (q2, .inl (cI, 9, .inl g)), (q3, .inl (cI, 8, .inl h))]) [0, 1, 2, 3] (by decide) rfl
      exact W.iret (v := z3) hx hb hr (fun t ht hW => ⟨⟨z3, (), rfl, trivial, by rw [ht]; exact hP9, va_K.moved hW.alike hK, hD9⟩, hS.F ht⟩) hS.2.2 dX8_cellAt_32
set_option maxHeartbeats 4000000 in
set_option maxRecDepth 100000 in
theorem metX8_isAssociative (l : Launch) (dC : Nat → ClassId) (dI : Nat → Nat → Nat) (cI cJ cC cZ cD : ClassId) (sz : Nat) (h0 q1 q2 q3 : Nat) (f g h : Nat → Int32) (k : Nat) (hk : k ≤ 3) : Met l yX8_isAssociative wsX8_isAssociative ({ frames := 1, cells := 0, slots := 0, locals := 23 }) (va_Pc [.ref h0] (fun U => U.heap.size = sz ∧ va_P (dC, dI) vwCl [(h0, .inr (13, [.ref q1, .ref q2, .ref q3, .int (nI k)])), (q1, .inl (cI, 9, .inl f)), (q2, .inl (cI, 9, .inl g)), (q3, .inl (cI, 8, .inl h))] U.heap ∧ va_K (dC, dI) vwCl [(cI, .int), (cJ, .long), (cC, .char), (cZ, .boolean), (cD, .double)] U ∧ va_D (fun _ => True) [(h0, .inr (13, [.ref q1, .ref q2, .ref q3, .int (nI k)])), (q1, .inl (cI, 9, .inl f)), (q2, .inl (cI, 9, .inl g)), (q3, .inl (cI, 8, .inl h))])) (va_Qi (fun (r : Int32) (u : Unit) => True) (fun (u : Unit) (t : State) => va_P (dC, dI) vwCl [(h0, .inr (13, [.ref q1, .ref q2, .ref q3, .int (nI k)])), (q1, .inl (cI, 9, .inl f)), (q2, .inl (cI, 9, .inl g)), (q3, .inl (cI, 8, .inl h))] t.heap ∧ va_K (dC, dI) vwCl [(cI, .int), (cJ, .long), (cC, .char), (cZ, .boolean), (cD, .double)] t ∧ va_D (va_A [(h0, .inr (13, [.ref q1, .ref q2, .ref q3, .int (nI k)])), (q1, .inl (cI, 9, .inl f)), (q2, .inl (cI, 9, .inl g)), (q3, .inl (cI, 8, .inl h))] sz) [(h0, .inr (13, [.ref q1, .ref q2, .ref q3, .int (nI k)])), (q1, .inl (cI, 9, .inl f)), (q2, .inl (cI, 9, .inl g)), (q3, .inl (cI, 8, .inl h))]) (va_A [(h0, .inr (13, [.ref q1, .ref q2, .ref q3, .int (nI k)])), (q1, .inl (cI, 9, .inl f)), (q2, .inl (cI, 9, .inl g)), (q3, .inl (cI, 8, .inl h))] sz)) 0 0 (va_A [(h0, .inr (13, [.ref q1, .ref q2, .ref q3, .int (nI k)])), (q1, .inl (cI, 9, .inl f)), (q2, .inl (cI, 9, .inl g)), (q3, .inl (cI, 8, .inl h))] sz) := by
  refine Met.ofW (cc := cX8_isAssociative) (maxL := 4) (ret := (some .boolean)) (by decide) rfl ?_
  intro p e s m args below meth c s₁ B hml hv
  obtain ⟨rfl, hsz, hP, hK, hD0⟩ := hv
  have hx := B.exec
  have hb := B.bytes
  have hr := B.returns
  have hts := atoms_spec (ws := wsX8_isAssociative) B.pre
  have hown : s.vm.findClass RX8 = some m.cls := findClass_of_methodNamed B.named
  have hlocks := B.notSynchronized
  subst hsz
  have hD := hD0.self (sz := s.heap.size)
  generalize hAe : va_A [(h0, .inr (13, [.ref q1, .ref q2, .ref q3, .int (nI k)])), (q1, .inl (cI, 9, .inl f)), (q2, .inl (cI, 9, .inl g)), (q3, .inl (cI, 8, .inl h))] s.heap.size = A at hD ⊢
  have hA : ∀ q : Nat, s.heap.size ≤ q → A q := fun q h => by rw [← hAe]; exact Or.inr h
  have hS : va_S A s.heap s.heap [] := va_S.rf
  have hP : va_P (dC, dI) vwCl [(h0, .inr (13, [.ref q1, .ref q2, .ref q3, .int (nI k)])), (q1, .inl (cI, 9, .inl f)), (q2, .inl (cI, 9, .inl g)), (q3, .inl (cI, 8, .inl h))] s.heap := hP
  have hl := lv_entry ([.ref h0]) (n := 4) (Nat.le_of_ble_eq_true rfl)
  rw [lg_entry_eq]
  generalize (lg_sl ([.ref h0]) ++ List.replicate (4 - (lg_sl ([.ref h0])).length) Slot.unset).toArray = ls at hl ⊢
  have hinX8 : ∀ w ∈ wsX80, w ∈ wsX8_isAssociative := by decide +kernel
  have hl : lv_has ls 4 [(0, .ref h0)] := hl
  refine lv_iconst (v := (nI 0)) hx hb dX8_isAssociative_0 (by decide) ?_
  refine lv_istore_n (lv' := [(1, .int (nI 0)), (0, .ref h0)]) hx hb dX8_isAssociative_1 rfl hl (by decide) rfl (fun ls hl => ?_)
  have L1 : ∀ (n a3 : Nat) (H : Heap) (locs : List Loc) (ls : Array Slot), a3 ≤ k → k + 1 ≤ a3 + n → va_P (dC, dI) vwCl [(h0, .inr (13, [.ref q1, .ref q2, .ref q3, .int (nI k)])), (q1, .inl (cI, 9, .inl f)), (q2, .inl (cI, 9, .inl g)), (q3, .inl (cI, 8, .inl h))] H → va_D A [(h0, .inr (13, [.ref q1, .ref q2, .ref q3, .int (nI k)])), (q1, .inl (cI, 9, .inl f)), (q2, .inl (cI, 9, .inl g)), (q3, .inl (cI, 8, .inl h))] → va_S A s.heap H locs → lv_has ls 4 [(0, .ref h0), (1, .int (nI a3))] → W p l e (headSpec wsX8_isAssociative ({ frames := 1, cells := 0, slots := 0, locals := 23 })).room s m ([.ref h0]).toArray below meth c H locs 0 0 (MQ below (va_Qi (fun (r : Int32) (u : Unit) => True) (fun (u : Unit) (t : State) => va_P (dC, dI) vwCl [(h0, .inr (13, [.ref q1, .ref q2, .ref q3, .int (nI k)])), (q1, .inl (cI, 9, .inl f)), (q2, .inl (cI, 9, .inl g)), (q3, .inl (cI, 8, .inl h))] t.heap ∧ va_K (dC, dI) vwCl [(cI, .int), (cJ, .long), (cC, .char), (cZ, .boolean), (cD, .double)] t ∧ va_D A [(h0, .inr (13, [.ref q1, .ref q2, .ref q3, .int (nI k)])), (q1, .inl (cI, 9, .inl f)), (q2, .inl (cI, 9, .inl g)), (q3, .inl (cI, 8, .inl h))]) A) ([.ref h0]).toArray s 0 0 A) (F0 m 2 ls []) := by
    intro n
    induction n with
    | zero =>
      intro a3  H locs ls h1 h2
      exact absurd h2 (by omega)
    | succ n ih =>
      intro a3  H locs ls hia3 hna3  hP hD hS hl
      have ihL1 := ih
      clear ih
      refine lv_iload_n hx hb dX8_isAssociative_2 rfl (lv_at hl 1 rfl) ?_
      refine lv_aload_n hx hb dX8_isAssociative_3 rfl (lv_at hl 0 rfl) ?_
      refine va_get (D := (dC, dI)) (ci := 13) (v := .int (nI k)) (C := RX8) (T := TX8) (N := 4) hx hb hts hinX8 hown hK hP 0 rfl rfl 3 (by decide) (hts (.fieldLink RX8 19 "Eggboxery$Tables" "side" "I") (by decide +kernel)) (fun _ h9 => h9) rfl dX8_isAssociative_4 ?_
      refine lv_icmp_ge (tgt := 75) hx hb dX8_isAssociative_7 (by decide) (fun hc1 => ?_) (fun hc1 => ?_)
      · try simp only [ge_iff_le, gt_iff_lt, ne_eq] at hc1
        rw [nI_leI (by omega) (by omega)] at hc1
        refine lv_iconst (v := (nI 1)) hx hb dX8_isAssociative_75 (by decide) ?_
        have hP9 := hP.sub (ws' := [(h0, .inr (13, [.ref q1, .ref q2, .ref q3, .int (nI k)])), (q1, .inl (cI, 9, .inl f)), (q2, .inl (cI, 9, .inl g)), (q3, .inl (cI, 8, .inl h))]) [0, 1, 2, 3] rfl
        have hD9 := hD.sub (ws' := [(h0, .inr (13, [.ref q1, .ref q2, .ref q3, .int (nI k)])), (q1, .inl (cI, 9, .inl f)), (q2, .inl (cI, 9, .inl g)), (q3, .inl (cI, 8, .inl h))]) [0, 1, 2, 3] (by decide) rfl
        exact W.zret (ty := .boolean) (v := (nI 1)) hx hb hr (by decide) (fun t ht hW => ⟨⟨(nI 1), (), rfl, trivial, by rw [ht]; exact hP9, va_K.moved hW.alike hK, hD9⟩, hS.F ht⟩) hS.2.2 dX8_isAssociative_76
      · try simp only [ge_iff_le, gt_iff_lt, ne_eq] at hc1
        rw [nI_leI (by omega) (by omega)] at hc1
        refine lv_iconst (v := (nI 0)) hx hb dX8_isAssociative_10 (by decide) ?_
        refine lv_istore_n (lv' := [(2, .int (nI 0)), (0, .ref h0), (1, .int (nI a3))]) hx hb dX8_isAssociative_11 rfl hl (by decide) rfl (fun ls hl => ?_)
        have L2 : ∀ (n b3 : Nat) (H : Heap) (locs : List Loc) (ls : Array Slot), b3 ≤ k → k + 1 ≤ b3 + n → va_P (dC, dI) vwCl [(h0, .inr (13, [.ref q1, .ref q2, .ref q3, .int (nI k)])), (q1, .inl (cI, 9, .inl f)), (q2, .inl (cI, 9, .inl g)), (q3, .inl (cI, 8, .inl h))] H → va_D A [(h0, .inr (13, [.ref q1, .ref q2, .ref q3, .int (nI k)])), (q1, .inl (cI, 9, .inl f)), (q2, .inl (cI, 9, .inl g)), (q3, .inl (cI, 8, .inl h))] → va_S A s.heap H locs → lv_has ls 4 [(0, .ref h0), (1, .int (nI a3)), (2, .int (nI b3))] → W p l e (headSpec wsX8_isAssociative ({ frames := 1, cells := 0, slots := 0, locals := 23 })).room s m ([.ref h0]).toArray below meth c H locs 0 0 (MQ below (va_Qi (fun (r : Int32) (u : Unit) => True) (fun (u : Unit) (t : State) => va_P (dC, dI) vwCl [(h0, .inr (13, [.ref q1, .ref q2, .ref q3, .int (nI k)])), (q1, .inl (cI, 9, .inl f)), (q2, .inl (cI, 9, .inl g)), (q3, .inl (cI, 8, .inl h))] t.heap ∧ va_K (dC, dI) vwCl [(cI, .int), (cJ, .long), (cC, .char), (cZ, .boolean), (cD, .double)] t ∧ va_D A [(h0, .inr (13, [.ref q1, .ref q2, .ref q3, .int (nI k)])), (q1, .inl (cI, 9, .inl f)), (q2, .inl (cI, 9, .inl g)), (q3, .inl (cI, 8, .inl h))]) A) ([.ref h0]).toArray s 0 0 A) (F0 m 12 ls []) := by
          intro n
          induction n with
          | zero =>
            intro b3  H locs ls h1 h2
            exact absurd h2 (by omega)
          | succ n ih =>
            intro b3  H locs ls hib3 hnb3  hP hD hS hl
            have ihL2 := ih
            clear ih
            refine lv_iload_n hx hb dX8_isAssociative_12 rfl (lv_at hl 2 rfl) ?_
            refine lv_aload_n hx hb dX8_isAssociative_13 rfl (lv_at hl 0 rfl) ?_
            refine va_get (D := (dC, dI)) (ci := 13) (v := .int (nI k)) (C := RX8) (T := TX8) (N := 4) hx hb hts hinX8 hown hK hP 0 rfl rfl 3 (by decide) (hts (.fieldLink RX8 19 "Eggboxery$Tables" "side" "I") (by decide +kernel)) (fun _ h9 => h9) rfl dX8_isAssociative_14 ?_
            refine lv_icmp_ge (tgt := 69) hx hb dX8_isAssociative_17 (by decide) (fun hc2 => ?_) (fun hc2 => ?_)
            · try simp only [ge_iff_le, gt_iff_lt, ne_eq] at hc2
              rw [nI_leI (by omega) (by omega)] at hc2
              refine lv_iinc (v := (nI (a3 + 1))) (lv' := [(1, .int (nI (a3 + 1))), (0, .ref h0), (2, .int (nI b3))]) hx hb dX8_isAssociative_69 hl (k := 1) rfl (by rw [show Int32.ofInt 1 = (1 : Int32) from rfl]; exact nI_1 _) (by decide) rfl (fun ls hl => ?_)
              refine lv_goto (tgt := 2) hx hb dX8_isAssociative_72 (by decide) ?_
              exact ihL1 (a3 + 1)  H locs _ (by omega) (by omega)  hP hD hS (lv_sub hl [1, 0] rfl)
            · try simp only [ge_iff_le, gt_iff_lt, ne_eq] at hc2
              rw [nI_leI (by omega) (by omega)] at hc2
              refine lv_iconst (v := (nI 0)) hx hb dX8_isAssociative_20 (by decide) ?_
              refine lv_istore_n (lv' := [(3, .int (nI 0)), (0, .ref h0), (1, .int (nI a3)), (2, .int (nI b3))]) hx hb dX8_isAssociative_21 rfl hl (by decide) rfl (fun ls hl => ?_)
              have L3 : ∀ (n c3 : Nat) (H : Heap) (locs : List Loc) (ls : Array Slot), c3 ≤ k → k + 1 ≤ c3 + n → va_P (dC, dI) vwCl [(h0, .inr (13, [.ref q1, .ref q2, .ref q3, .int (nI k)])), (q1, .inl (cI, 9, .inl f)), (q2, .inl (cI, 9, .inl g)), (q3, .inl (cI, 8, .inl h))] H → va_D A [(h0, .inr (13, [.ref q1, .ref q2, .ref q3, .int (nI k)])), (q1, .inl (cI, 9, .inl f)), (q2, .inl (cI, 9, .inl g)), (q3, .inl (cI, 8, .inl h))] → va_S A s.heap H locs → lv_has ls 4 [(0, .ref h0), (1, .int (nI a3)), (2, .int (nI b3)), (3, .int (nI c3))] → W p l e (headSpec wsX8_isAssociative ({ frames := 1, cells := 0, slots := 0, locals := 23 })).room s m ([.ref h0]).toArray below meth c H locs 0 0 (MQ below (va_Qi (fun (r : Int32) (u : Unit) => True) (fun (u : Unit) (t : State) => va_P (dC, dI) vwCl [(h0, .inr (13, [.ref q1, .ref q2, .ref q3, .int (nI k)])), (q1, .inl (cI, 9, .inl f)), (q2, .inl (cI, 9, .inl g)), (q3, .inl (cI, 8, .inl h))] t.heap ∧ va_K (dC, dI) vwCl [(cI, .int), (cJ, .long), (cC, .char), (cZ, .boolean), (cD, .double)] t ∧ va_D A [(h0, .inr (13, [.ref q1, .ref q2, .ref q3, .int (nI k)])), (q1, .inl (cI, 9, .inl f)), (q2, .inl (cI, 9, .inl g)), (q3, .inl (cI, 8, .inl h))]) A) ([.ref h0]).toArray s 0 0 A) (F0 m 22 ls []) := by
                intro n
                induction n with
                | zero =>
                  intro c3  H locs ls h1 h2
                  exact absurd h2 (by omega)
                | succ n ih =>
                  intro c3  H locs ls hic3 hnc3  hP hD hS hl
                  have ihL3 := ih
                  clear ih
                  refine lv_iload_n hx hb dX8_isAssociative_22 rfl (lv_at hl 3 rfl) ?_
                  refine lv_aload_n hx hb dX8_isAssociative_23 rfl (lv_at hl 0 rfl) ?_
                  refine va_get (D := (dC, dI)) (ci := 13) (v := .int (nI k)) (C := RX8) (T := TX8) (N := 4) hx hb hts hinX8 hown hK hP 0 rfl rfl 3 (by decide) (hts (.fieldLink RX8 19 "Eggboxery$Tables" "side" "I") (by decide +kernel)) (fun _ h9 => h9) rfl dX8_isAssociative_24 ?_
                  refine lv_icmp_ge (tgt := 63) hx hb dX8_isAssociative_27 (by decide) (fun hc3 => ?_) (fun hc3 => ?_)
                  · try simp only [ge_iff_le, gt_iff_lt, ne_eq] at hc3
                    rw [nI_leI (by omega) (by omega)] at hc3
                    refine lv_iinc (v := (nI (b3 + 1))) (lv' := [(2, .int (nI (b3 + 1))), (0, .ref h0), (1, .int (nI a3)), (3, .int (nI c3))]) hx hb dX8_isAssociative_63 hl (k := 2) rfl (by rw [show Int32.ofInt 1 = (1 : Int32) from rfl]; exact nI_1 _) (by decide) rfl (fun ls hl => ?_)
                    refine lv_goto (tgt := 12) hx hb dX8_isAssociative_66 (by decide) ?_
                    exact ihL2 (b3 + 1)  H locs _ (by omega) (by omega)  hP hD hS (lv_sub hl [1, 2, 0] rfl)
                  · try simp only [ge_iff_le, gt_iff_lt, ne_eq] at hc3
                    rw [nI_leI (by omega) (by omega)] at hc3
                    refine lv_aload_n hx hb dX8_isAssociative_30 rfl (lv_at hl 0 rfl) ?_
                    refine lv_aload_n hx hb dX8_isAssociative_31 rfl (lv_at hl 0 rfl) ?_
                    refine lv_iload_n hx hb dX8_isAssociative_32 rfl (lv_at hl 1 rfl) ?_
                    refine lv_iload_n hx hb dX8_isAssociative_33 rfl (lv_at hl 2 rfl) ?_
                    have hPc := hP.sub (ws' := [(h0, .inr (13, [.ref q1, .ref q2, .ref q3, .int (nI k)])), (q1, .inl (cI, 9, .inl f)), (q2, .inl (cI, 9, .inl g)), (q3, .inl (cI, 8, .inl h))]) [0, 1, 2, 3] rfl
                    have hDc := hD.sub (ws' := [(h0, .inr (13, [.ref q1, .ref q2, .ref q3, .int (nI k)])), (q1, .inl (cI, 9, .inl f)), (q2, .inl (cI, 9, .inl g)), (q3, .inl (cI, 8, .inl h))]) [0, 1, 2, 3] (by decide) rfl
                    have hFc := va_free (wc := [(h0, .inr (13, [.ref q1, .ref q2, .ref q3, .int (nI k)])), (q1, .inl (cI, 9, .inl f)), (q2, .inl (cI, 9, .inl g)), (q3, .inl (cI, 8, .inl h))]) hD hS hA [0, 1, 2, 3] rfl
                    refine va_calli (va_runV (As := [.int (nI a3), .int (nI b3)]) (rest := [.ref h0]) ⟨hx, hb, hml, hown, hts⟩ (metX8_cellAt l dC dI cI cJ cC cZ cD H.size h0 q1 q2 q3 f g h (nI k) (nI a3) (nI b3)) (cwV 2 hts gX8_isAssociative_X8_cellAt rfl rfl rfl (by decide +kernel) ⟨Nat.le_of_ble_eq_true rfl, Nat.le_of_ble_eq_true rfl⟩) ⟨fun a U g mk q => by obtain ⟨q0, q1, qP, qK, qD⟩ := q; exact ⟨q0, q1, qP, va_K.moved (u := U) (U := U.calling g mk a) (Vm.Alike.refl U.vm) qK, qD⟩, va_recv hK hPc (ci := 13) (q0 := 0) rfl rfl, fun U hU hW => ⟨rfl, by rw [hU], by rw [hU]; exact hPc, va_K.moved hW.alike hK, hDc.weaken (fun _ _ _ _ => trivial)⟩⟩ rfl rfl hl.1 rfl (lv_room (Nat.le_of_ble_eq_true rfl)) dX8_isAssociative_34 ⟨Nat.le_of_ble_eq_true rfl, Nat.le_of_ble_eq_true rfl⟩) hS (fun q _ h => hFc q h) hFc (fun r4 u t H1 locs ht hvm hw hB hz1 hk1 hS => ?_)
                    obtain ⟨hP1, hK1, hD1⟩ := hB
                    rw [ht] at hP1
                    try dsimp only at hP1 hD1 hw
                    obtain ⟨hP, hD⟩ := va_join (wr := []) (w1 := [(h0, .inr (13, [.ref q1, .ref q2, .ref q3, .int (nI k)])), (q1, .inl (cI, 9, .inl f)), (q2, .inl (cI, 9, .inl g)), (q3, .inl (cI, 8, .inl h))]) hP hD [0, 1, 2, 3] [] rfl rfl (by decide) (by decide) hk1 hFc hP1 hD1
                    generalize H1 = H at hP hS ⊢
                    have hP : va_P (dC, dI) vwCl [(h0, .inr (13, [.ref q1, .ref q2, .ref q3, .int (nI k)])), (q1, .inl (cI, 9, .inl f)), (q2, .inl (cI, 9, .inl g)), (q3, .inl (cI, 8, .inl h))] H := hP
                    have hD : va_D A [(h0, .inr (13, [.ref q1, .ref q2, .ref q3, .int (nI k)])), (q1, .inl (cI, 9, .inl f)), (q2, .inl (cI, 9, .inl g)), (q3, .inl (cI, 8, .inl h))] := hD
                    refine lv_iload_n hx hb dX8_isAssociative_37 rfl (lv_at hl 3 rfl) ?_
                    have hPc := hP.sub (ws' := [(h0, .inr (13, [.ref q1, .ref q2, .ref q3, .int (nI k)])), (q1, .inl (cI, 9, .inl f)), (q2, .inl (cI, 9, .inl g)), (q3, .inl (cI, 8, .inl h))]) [0, 1, 2, 3] rfl
                    have hDc := hD.sub (ws' := [(h0, .inr (13, [.ref q1, .ref q2, .ref q3, .int (nI k)])), (q1, .inl (cI, 9, .inl f)), (q2, .inl (cI, 9, .inl g)), (q3, .inl (cI, 8, .inl h))]) [0, 1, 2, 3] (by decide) rfl
                    have hFc := va_free (wc := [(h0, .inr (13, [.ref q1, .ref q2, .ref q3, .int (nI k)])), (q1, .inl (cI, 9, .inl f)), (q2, .inl (cI, 9, .inl g)), (q3, .inl (cI, 8, .inl h))]) hD hS hA [0, 1, 2, 3] rfl
                    refine va_calli (va_runV (As := [.int r4, .int (nI c3)]) (rest := []) ⟨hx, hb, hml, hown, hts⟩ (metX8_cellAt l dC dI cI cJ cC cZ cD H.size h0 q1 q2 q3 f g h (nI k) r4 (nI c3)) (cwV 2 hts gX8_isAssociative_X8_cellAt rfl rfl rfl (by decide +kernel) ⟨Nat.le_of_ble_eq_true rfl, Nat.le_of_ble_eq_true rfl⟩) ⟨fun a U g mk q => by obtain ⟨q0, q1, qP, qK, qD⟩ := q; exact ⟨q0, q1, qP, va_K.moved (u := U) (U := U.calling g mk a) (Vm.Alike.refl U.vm) qK, qD⟩, va_recv hK hPc (ci := 13) (q0 := 0) rfl rfl, fun U hU hW => ⟨rfl, by rw [hU], by rw [hU]; exact hPc, va_K.moved hW.alike hK, hDc.weaken (fun _ _ _ _ => trivial)⟩⟩ rfl rfl hl.1 rfl (lv_room (Nat.le_of_ble_eq_true rfl)) dX8_isAssociative_38 ⟨Nat.le_of_ble_eq_true rfl, Nat.le_of_ble_eq_true rfl⟩) hS (fun q _ h => hFc q h) hFc (fun r5 u t H1 locs ht hvm hw hB hz1 hk1 hS => ?_)
                    obtain ⟨hP1, hK1, hD1⟩ := hB
                    rw [ht] at hP1
                    try dsimp only at hP1 hD1 hw
                    obtain ⟨hP, hD⟩ := va_join (wr := []) (w1 := [(h0, .inr (13, [.ref q1, .ref q2, .ref q3, .int (nI k)])), (q1, .inl (cI, 9, .inl f)), (q2, .inl (cI, 9, .inl g)), (q3, .inl (cI, 8, .inl h))]) hP hD [0, 1, 2, 3] [] rfl rfl (by decide) (by decide) hk1 hFc hP1 hD1
                    generalize H1 = H at hP hS ⊢
                    have hP : va_P (dC, dI) vwCl [(h0, .inr (13, [.ref q1, .ref q2, .ref q3, .int (nI k)])), (q1, .inl (cI, 9, .inl f)), (q2, .inl (cI, 9, .inl g)), (q3, .inl (cI, 8, .inl h))] H := hP
                    have hD : va_D A [(h0, .inr (13, [.ref q1, .ref q2, .ref q3, .int (nI k)])), (q1, .inl (cI, 9, .inl f)), (q2, .inl (cI, 9, .inl g)), (q3, .inl (cI, 8, .inl h))] := hD
                    refine lv_aload_n hx hb dX8_isAssociative_41 rfl (lv_at hl 0 rfl) ?_
                    refine lv_iload_n hx hb dX8_isAssociative_42 rfl (lv_at hl 1 rfl) ?_
                    refine lv_aload_n hx hb dX8_isAssociative_43 rfl (lv_at hl 0 rfl) ?_
                    refine lv_iload_n hx hb dX8_isAssociative_44 rfl (lv_at hl 2 rfl) ?_
                    refine lv_iload_n hx hb dX8_isAssociative_45 rfl (lv_at hl 3 rfl) ?_
                    have hPc := hP.sub (ws' := [(h0, .inr (13, [.ref q1, .ref q2, .ref q3, .int (nI k)])), (q1, .inl (cI, 9, .inl f)), (q2, .inl (cI, 9, .inl g)), (q3, .inl (cI, 8, .inl h))]) [0, 1, 2, 3] rfl
                    have hDc := hD.sub (ws' := [(h0, .inr (13, [.ref q1, .ref q2, .ref q3, .int (nI k)])), (q1, .inl (cI, 9, .inl f)), (q2, .inl (cI, 9, .inl g)), (q3, .inl (cI, 8, .inl h))]) [0, 1, 2, 3] (by decide) rfl
                    have hFc := va_free (wc := [(h0, .inr (13, [.ref q1, .ref q2, .ref q3, .int (nI k)])), (q1, .inl (cI, 9, .inl f)), (q2, .inl (cI, 9, .inl g)), (q3, .inl (cI, 8, .inl h))]) hD hS hA [0, 1, 2, 3] rfl
                    refine va_calli (va_runV (As := [.int (nI b3), .int (nI c3)]) (rest := [.int (nI a3), .ref h0, .int r5]) ⟨hx, hb, hml, hown, hts⟩ (metX8_cellAt l dC dI cI cJ cC cZ cD H.size h0 q1 q2 q3 f g h (nI k) (nI b3) (nI c3)) (cwV 2 hts gX8_isAssociative_X8_cellAt rfl rfl rfl (by decide +kernel) ⟨Nat.le_of_ble_eq_true rfl, Nat.le_of_ble_eq_true rfl⟩) ⟨fun a U g mk q => by obtain ⟨q0, q1, qP, qK, qD⟩ := q; exact ⟨q0, q1, qP, va_K.moved (u := U) (U := U.calling g mk a) (Vm.Alike.refl U.vm) qK, qD⟩, va_recv hK hPc (ci := 13) (q0 := 0) rfl rfl, fun U hU hW => ⟨rfl, by rw [hU], by rw [hU]; exact hPc, va_K.moved hW.alike hK, hDc.weaken (fun _ _ _ _ => trivial)⟩⟩ rfl rfl hl.1 rfl (lv_room (Nat.le_of_ble_eq_true rfl)) dX8_isAssociative_46 ⟨Nat.le_of_ble_eq_true rfl, Nat.le_of_ble_eq_true rfl⟩) hS (fun q _ h => hFc q h) hFc (fun r6 u t H1 locs ht hvm hw hB hz1 hk1 hS => ?_)
                    obtain ⟨hP1, hK1, hD1⟩ := hB
                    rw [ht] at hP1
                    try dsimp only at hP1 hD1 hw
                    obtain ⟨hP, hD⟩ := va_join (wr := []) (w1 := [(h0, .inr (13, [.ref q1, .ref q2, .ref q3, .int (nI k)])), (q1, .inl (cI, 9, .inl f)), (q2, .inl (cI, 9, .inl g)), (q3, .inl (cI, 8, .inl h))]) hP hD [0, 1, 2, 3] [] rfl rfl (by decide) (by decide) hk1 hFc hP1 hD1
                    generalize H1 = H at hP hS ⊢
                    have hP : va_P (dC, dI) vwCl [(h0, .inr (13, [.ref q1, .ref q2, .ref q3, .int (nI k)])), (q1, .inl (cI, 9, .inl f)), (q2, .inl (cI, 9, .inl g)), (q3, .inl (cI, 8, .inl h))] H := hP
                    have hD : va_D A [(h0, .inr (13, [.ref q1, .ref q2, .ref q3, .int (nI k)])), (q1, .inl (cI, 9, .inl f)), (q2, .inl (cI, 9, .inl g)), (q3, .inl (cI, 8, .inl h))] := hD
                    have hPc := hP.sub (ws' := [(h0, .inr (13, [.ref q1, .ref q2, .ref q3, .int (nI k)])), (q1, .inl (cI, 9, .inl f)), (q2, .inl (cI, 9, .inl g)), (q3, .inl (cI, 8, .inl h))]) [0, 1, 2, 3] rfl
                    have hDc := hD.sub (ws' := [(h0, .inr (13, [.ref q1, .ref q2, .ref q3, .int (nI k)])), (q1, .inl (cI, 9, .inl f)), (q2, .inl (cI, 9, .inl g)), (q3, .inl (cI, 8, .inl h))]) [0, 1, 2, 3] (by decide) rfl
                    have hFc := va_free (wc := [(h0, .inr (13, [.ref q1, .ref q2, .ref q3, .int (nI k)])), (q1, .inl (cI, 9, .inl f)), (q2, .inl (cI, 9, .inl g)), (q3, .inl (cI, 8, .inl h))]) hD hS hA [0, 1, 2, 3] rfl
                    refine va_calli (va_runV (As := [.int (nI a3), .int r6]) (rest := [.int r5]) ⟨hx, hb, hml, hown, hts⟩ (metX8_cellAt l dC dI cI cJ cC cZ cD H.size h0 q1 q2 q3 f g h (nI k) (nI a3) r6) (cwV 2 hts gX8_isAssociative_X8_cellAt rfl rfl rfl (by decide +kernel) ⟨Nat.le_of_ble_eq_true rfl, Nat.le_of_ble_eq_true rfl⟩) ⟨fun a U g mk q => by obtain ⟨q0, q1, qP, qK, qD⟩ := q; exact ⟨q0, q1, qP, va_K.moved (u := U) (U := U.calling g mk a) (Vm.Alike.refl U.vm) qK, qD⟩, va_recv hK hPc (ci := 13) (q0 := 0) rfl rfl, fun U hU hW => ⟨rfl, by rw [hU], by rw [hU]; exact hPc, va_K.moved hW.alike hK, hDc.weaken (fun _ _ _ _ => trivial)⟩⟩ rfl rfl hl.1 rfl (lv_room (Nat.le_of_ble_eq_true rfl)) dX8_isAssociative_49 ⟨Nat.le_of_ble_eq_true rfl, Nat.le_of_ble_eq_true rfl⟩) hS (fun q _ h => hFc q h) hFc (fun r7 u t H1 locs ht hvm hw hB hz1 hk1 hS => ?_)
                    obtain ⟨hP1, hK1, hD1⟩ := hB
                    rw [ht] at hP1
                    try dsimp only at hP1 hD1 hw
                    obtain ⟨hP, hD⟩ := va_join (wr := []) (w1 := [(h0, .inr (13, [.ref q1, .ref q2, .ref q3, .int (nI k)])), (q1, .inl (cI, 9, .inl f)), (q2, .inl (cI, 9, .inl g)), (q3, .inl (cI, 8, .inl h))]) hP hD [0, 1, 2, 3] [] rfl rfl (by decide) (by decide) hk1 hFc hP1 hD1
                    generalize H1 = H at hP hS ⊢
                    have hP : va_P (dC, dI) vwCl [(h0, .inr (13, [.ref q1, .ref q2, .ref q3, .int (nI k)])), (q1, .inl (cI, 9, .inl f)), (q2, .inl (cI, 9, .inl g)), (q3, .inl (cI, 8, .inl h))] H := hP
                    have hD : va_D A [(h0, .inr (13, [.ref q1, .ref q2, .ref q3, .int (nI k)])), (q1, .inl (cI, 9, .inl f)), (q2, .inl (cI, 9, .inl g)), (q3, .inl (cI, 8, .inl h))] := hD
                    refine lv_icmp_eq (tgt := 57) hx hb dX8_isAssociative_52 (by decide) (fun hc8 => ?_) (fun hc8 => ?_)
                    · refine lv_iinc (v := (nI (c3 + 1))) (lv' := [(3, .int (nI (c3 + 1))), (0, .ref h0), (1, .int (nI a3)), (2, .int (nI b3))]) hx hb dX8_isAssociative_57 hl (k := 3) rfl (by rw [show Int32.ofInt 1 = (1 : Int32) from rfl]; exact nI_1 _) (by decide) rfl (fun ls hl => ?_)
                      refine lv_goto (tgt := 22) hx hb dX8_isAssociative_60 (by decide) ?_
                      exact ihL3 (c3 + 1)  H locs _ (by omega) (by omega)  hP hD hS (lv_sub hl [1, 2, 3, 0] rfl)
                    · refine lv_iconst (v := (nI 0)) hx hb dX8_isAssociative_55 (by decide) ?_
                      have hP9 := hP.sub (ws' := [(h0, .inr (13, [.ref q1, .ref q2, .ref q3, .int (nI k)])), (q1, .inl (cI, 9, .inl f)), (q2, .inl (cI, 9, .inl g)), (q3, .inl (cI, 8, .inl h))]) [0, 1, 2, 3] rfl
                      have hD9 := hD.sub (ws' := [(h0, .inr (13, [.ref q1, .ref q2, .ref q3, .int (nI k)])), (q1, .inl (cI, 9, .inl f)), (q2, .inl (cI, 9, .inl g)), (q3, .inl (cI, 8, .inl h))]) [0, 1, 2, 3] (by decide) rfl
                      exact W.zret (ty := .boolean) (v := (nI 0)) hx hb hr (by decide) (fun t ht hW => ⟨⟨(nI 0), (), rfl, trivial, by rw [ht]; exact hP9, va_K.moved hW.alike hK, hD9⟩, hS.F ht⟩) hS.2.2 dX8_isAssociative_56
              exact L3 (k + 1) 0  H locs _ (by omega) (by omega)  hP hD hS (lv_sub hl [1, 2, 3, 0] rfl)
        exact L2 (k + 1) 0  H locs _ (by omega) (by omega)  hP hD hS (lv_sub hl [1, 2, 0] rfl)
  exact L1 (k + 1) 0  s.heap [] _ (by omega) (by omega)  hP hD hS (lv_sub hl [1, 0] rfl)
set_option maxHeartbeats 4000000 in
set_option maxRecDepth 100000 in
theorem metX8_areNamesInside (l : Launch) (dC : Nat → ClassId) (dI : Nat → Nat → Nat) (cI cJ cC cZ cD : ClassId) (nt : Nat) (ng : Nat → Int32) (sz : Nat) (h0 q1 q2 q3 : Nat) (f g h : Nat → Int32) (k : Nat) (x1 : Int32) (hk : k ≤ 3) : Met l yX8_areNamesInside wsX8_areNamesInside ({ frames := 1, cells := 0, slots := 0, locals := 22 }) (va_Pc [.ref h0, .int x1] (fun U => U.heap.size = sz ∧ va_P (dC, dI) vwCl [(h0, .inr (13, [.ref q1, .ref q2, .ref q3, .int (nI k)])), (q1, .inl (cI, 9, .inl f)), (q2, .inl (cI, 9, .inl g)), (q3, .inl (cI, 8, .inl h))] U.heap ∧ va_K (dC, dI) vwCl [(cI, .int), (cJ, .long), (cC, .char), (cZ, .boolean), (cD, .double)] U ∧ va_D (fun _ => True) [(h0, .inr (13, [.ref q1, .ref q2, .ref q3, .int (nI k)])), (q1, .inl (cI, 9, .inl f)), (q2, .inl (cI, 9, .inl g)), (q3, .inl (cI, 8, .inl h))] ∧ va_Z RX8 "NAMES" "[I" (.ref nt) (va_A [(h0, .inr (13, [.ref q1, .ref q2, .ref q3, .int (nI k)])), (q1, .inl (cI, 9, .inl f)), (q2, .inl (cI, 9, .inl g)), (q3, .inl (cI, 8, .inl h))] sz) U U.heap ∧ va_T .int nt 18 (fun j => .int (ng j)) (va_A [(h0, .inr (13, [.ref q1, .ref q2, .ref q3, .int (nI k)])), (q1, .inl (cI, 9, .inl f)), (q2, .inl (cI, 9, .inl g)), (q3, .inl (cI, 8, .inl h))] sz) U U.heap)) (va_Qi (fun (r : Int32) (u : Unit) => True) (fun (u : Unit) (t : State) => va_P (dC, dI) vwCl [(h0, .inr (13, [.ref q1, .ref q2, .ref q3, .int (nI k)])), (q1, .inl (cI, 9, .inl f)), (q2, .inl (cI, 9, .inl g)), (q3, .inl (cI, 8, .inl h))] t.heap ∧ va_K (dC, dI) vwCl [(cI, .int), (cJ, .long), (cC, .char), (cZ, .boolean), (cD, .double)] t ∧ va_D (va_A [(h0, .inr (13, [.ref q1, .ref q2, .ref q3, .int (nI k)])), (q1, .inl (cI, 9, .inl f)), (q2, .inl (cI, 9, .inl g)), (q3, .inl (cI, 8, .inl h))] sz) [(h0, .inr (13, [.ref q1, .ref q2, .ref q3, .int (nI k)])), (q1, .inl (cI, 9, .inl f)), (q2, .inl (cI, 9, .inl g)), (q3, .inl (cI, 8, .inl h))]) (va_A [(h0, .inr (13, [.ref q1, .ref q2, .ref q3, .int (nI k)])), (q1, .inl (cI, 9, .inl f)), (q2, .inl (cI, 9, .inl g)), (q3, .inl (cI, 8, .inl h))] sz)) 0 0 (va_A [(h0, .inr (13, [.ref q1, .ref q2, .ref q3, .int (nI k)])), (q1, .inl (cI, 9, .inl f)), (q2, .inl (cI, 9, .inl g)), (q3, .inl (cI, 8, .inl h))] sz) := by
  refine Met.ofW (cc := cX8_areNamesInside) (maxL := 3) (ret := (some .boolean)) (by decide) rfl ?_
  intro p e s m args below meth c s₁ B hml hv
  obtain ⟨rfl, hsz, hP, hK, hD0, hNZ, hNT⟩ := hv
  have hx := B.exec
  have hb := B.bytes
  have hr := B.returns
  have hts := atoms_spec (ws := wsX8_areNamesInside) B.pre
  have hown : s.vm.findClass RX8 = some m.cls := findClass_of_methodNamed B.named
  have hlocks := B.notSynchronized
  subst hsz
  have hD := hD0.self (sz := s.heap.size)
  generalize hAe : va_A [(h0, .inr (13, [.ref q1, .ref q2, .ref q3, .int (nI k)])), (q1, .inl (cI, 9, .inl f)), (q2, .inl (cI, 9, .inl g)), (q3, .inl (cI, 8, .inl h))] s.heap.size = A at hD hNZ hNT ⊢
  have hA : ∀ q : Nat, s.heap.size ≤ q → A q := fun q h => by rw [← hAe]; exact Or.inr h
  have hS : va_S A s.heap s.heap [] := va_S.rf
  have hP : va_P (dC, dI) vwCl [(h0, .inr (13, [.ref q1, .ref q2, .ref q3, .int (nI k)])), (q1, .inl (cI, 9, .inl f)), (q2, .inl (cI, 9, .inl g)), (q3, .inl (cI, 8, .inl h))] s.heap := hP
  have hl := lv_entry ([.ref h0, .int x1]) (n := 3) (Nat.le_of_ble_eq_true rfl)
  rw [lg_entry_eq]
  generalize (lg_sl ([.ref h0, .int x1]) ++ List.replicate (3 - (lg_sl ([.ref h0, .int x1])).length) Slot.unset).toArray = ls at hl ⊢
  have hinX8 : ∀ w ∈ wsX80, w ∈ wsX8_areNamesInside := by decide +kernel
  have hl : lv_has ls 3 [(0, .ref h0), (1, .int x1)] := hl
  refine lv_iconst (v := (nI 0)) hx hb dX8_areNamesInside_0 (by decide) ?_
  refine lv_istore_n (lv' := [(2, .int (nI 0)), (0, .ref h0), (1, .int x1)]) hx hb dX8_areNamesInside_1 rfl hl (by decide) rfl (fun ls hl => ?_)
  have L1 : ∀ (n i1 : Nat) (H : Heap) (locs : List Loc) (ls : Array Slot), i1 ≤ k → k + 1 ≤ i1 + n → va_P (dC, dI) vwCl [(h0, .inr (13, [.ref q1, .ref q2, .ref q3, .int (nI k)])), (q1, .inl (cI, 9, .inl f)), (q2, .inl (cI, 9, .inl g)), (q3, .inl (cI, 8, .inl h))] H → va_D A [(h0, .inr (13, [.ref q1, .ref q2, .ref q3, .int (nI k)])), (q1, .inl (cI, 9, .inl f)), (q2, .inl (cI, 9, .inl g)), (q3, .inl (cI, 8, .inl h))] → va_S A s.heap H locs → lv_has ls 3 [(0, .ref h0), (1, .int x1), (2, .int (nI i1))] → W p l e (headSpec wsX8_areNamesInside ({ frames := 1, cells := 0, slots := 0, locals := 22 })).room s m ([.ref h0, .int x1]).toArray below meth c H locs 0 0 (MQ below (va_Qi (fun (r : Int32) (u : Unit) => True) (fun (u : Unit) (t : State) => va_P (dC, dI) vwCl [(h0, .inr (13, [.ref q1, .ref q2, .ref q3, .int (nI k)])), (q1, .inl (cI, 9, .inl f)), (q2, .inl (cI, 9, .inl g)), (q3, .inl (cI, 8, .inl h))] t.heap ∧ va_K (dC, dI) vwCl [(cI, .int), (cJ, .long), (cC, .char), (cZ, .boolean), (cD, .double)] t ∧ va_D A [(h0, .inr (13, [.ref q1, .ref q2, .ref q3, .int (nI k)])), (q1, .inl (cI, 9, .inl f)), (q2, .inl (cI, 9, .inl g)), (q3, .inl (cI, 8, .inl h))]) A) ([.ref h0, .int x1]).toArray s 0 0 A) (F0 m 2 ls []) := by
    intro n
    induction n with
    | zero =>
      intro i1  H locs ls h1 h2
      exact absurd h2 (by omega)
    | succ n ih =>
      intro i1  H locs ls hii1 hni1  hP hD hS hl
      have ihL1 := ih
      clear ih
      refine lv_iload_n hx hb dX8_areNamesInside_2 rfl (lv_at hl 2 rfl) ?_
      refine lv_aload_n hx hb dX8_areNamesInside_3 rfl (lv_at hl 0 rfl) ?_
      refine va_get (D := (dC, dI)) (ci := 13) (v := .int (nI k)) (C := RX8) (T := TX8) (N := 4) hx hb hts hinX8 hown hK hP 0 rfl rfl 3 (by decide) (hts (.fieldLink RX8 19 "Eggboxery$Tables" "side" "I") (by decide +kernel)) (fun _ h9 => h9) rfl dX8_areNamesInside_4 ?_
      refine lv_icmp_ge (tgt := 30) hx hb dX8_areNamesInside_7 (by decide) (fun hc1 => ?_) (fun hc1 => ?_)
      · try simp only [ge_iff_le, gt_iff_lt, ne_eq] at hc1
        rw [nI_leI (by omega) (by omega)] at hc1
        refine lv_iconst (v := (nI 1)) hx hb dX8_areNamesInside_30 (by decide) ?_
        have hP9 := hP.sub (ws' := [(h0, .inr (13, [.ref q1, .ref q2, .ref q3, .int (nI k)])), (q1, .inl (cI, 9, .inl f)), (q2, .inl (cI, 9, .inl g)), (q3, .inl (cI, 8, .inl h))]) [0, 1, 2, 3] rfl
        have hD9 := hD.sub (ws' := [(h0, .inr (13, [.ref q1, .ref q2, .ref q3, .int (nI k)])), (q1, .inl (cI, 9, .inl f)), (q2, .inl (cI, 9, .inl g)), (q3, .inl (cI, 8, .inl h))]) [0, 1, 2, 3] (by decide) rfl
        exact W.zret (ty := .boolean) (v := (nI 1)) hx hb hr (by decide) (fun t ht hW => ⟨⟨(nI 1), (), rfl, trivial, by rw [ht]; exact hP9, va_K.moved hW.alike hK, hD9⟩, hS.F ht⟩) hS.2.2 dX8_areNamesInside_31
      · try simp only [ge_iff_le, gt_iff_lt, ne_eq] at hc1
        rw [nI_leI (by omega) (by omega)] at hc1
        refine lv_iload_n hx hb dX8_areNamesInside_10 rfl (lv_at hl 1 rfl) ?_
        refine lv_iload_n hx hb dX8_areNamesInside_11 rfl (lv_at hl 2 rfl) ?_
        have hPc := hP.sub (ws' := []) [] rfl
        have hDc := hD.sub (ws' := []) [] (by decide) rfl
        have hFc := va_free (wc := []) hD hS hA [] rfl
        have hZc := (hNZ.kept hS.2.1).narrow hFc
        have hTc := (hNT.kept hS.2.1).narrow hFc
        refine va_calli (va_runS (As := [.int x1, .int (nI i1)]) (rest := []) ⟨hx, hb, hml, hown, hts⟩ (metX8_nameOf l dC dI cI cJ cC cZ cD nt ng H.size x1 (nI i1)) (va_cwS 2 hts gX8_areNamesInside_X8_nameOf rfl rfl rfl (by decide +kernel) ⟨Nat.le_of_ble_eq_true rfl, Nat.le_of_ble_eq_true rfl⟩) ⟨fun a U g mk q => by obtain ⟨q0, q1, qP, qK, qD, qZ, qT⟩ := q; exact ⟨q0, q1, qP, va_K.moved (u := U) (U := U.calling g mk a) (Vm.Alike.refl U.vm) qK, qD, va_Z.moved (u := U) (U := U.calling g mk a) (Vm.Alike.refl U.vm) qZ, va_T.moved (u := U) (U := U.calling g mk a) (Vm.Alike.refl U.vm) qT⟩, fun U hU hW => ⟨rfl, by rw [hU], by rw [hU]; exact hPc, va_K.moved hW.alike hK, hDc.weaken (fun _ _ _ _ => trivial), va_Z.moved hW.alike (by rw [hU]; exact hZc), va_T.moved hW.alike (by rw [hU]; exact hTc)⟩⟩ rfl rfl hl.1 rfl (lv_room (Nat.le_of_ble_eq_true rfl)) dX8_areNamesInside_12 ⟨Nat.le_of_ble_eq_true rfl, Nat.le_of_ble_eq_true rfl⟩) hS (fun q _ h => hFc q h) hFc (fun r2 u t H1 locs ht hvm hw hB hz1 hk1 hS => ?_)
        obtain ⟨hP1, hK1, hD1⟩ := hB
        rw [ht] at hP1
        try dsimp only at hP1 hD1 hw
        obtain ⟨hP, hD⟩ := va_join (wr := [(h0, .inr (13, [.ref q1, .ref q2, .ref q3, .int (nI k)])), (q1, .inl (cI, 9, .inl f)), (q2, .inl (cI, 9, .inl g)), (q3, .inl (cI, 8, .inl h))]) (w1 := []) hP hD [] [0, 1, 2, 3] rfl rfl (by decide) (by decide) hk1 hFc hP1 hD1
        generalize H1 = H at hP hS ⊢
        have hP : va_P (dC, dI) vwCl [(h0, .inr (13, [.ref q1, .ref q2, .ref q3, .int (nI k)])), (q1, .inl (cI, 9, .inl f)), (q2, .inl (cI, 9, .inl g)), (q3, .inl (cI, 8, .inl h))] H := hP
        have hD : va_D A [(h0, .inr (13, [.ref q1, .ref q2, .ref q3, .int (nI k)])), (q1, .inl (cI, 9, .inl f)), (q2, .inl (cI, 9, .inl g)), (q3, .inl (cI, 8, .inl h))] := hD
        refine lv_aload_n hx hb dX8_areNamesInside_15 rfl (lv_at hl 0 rfl) ?_
        refine va_get (D := (dC, dI)) (ci := 13) (v := .int (nI k)) (C := RX8) (T := TX8) (N := 4) hx hb hts hinX8 hown hK hP 0 rfl rfl 3 (by decide) (hts (.fieldLink RX8 19 "Eggboxery$Tables" "side" "I") (by decide +kernel)) (fun _ h9 => h9) rfl dX8_areNamesInside_16 ?_
        refine lv_icmp_lt (tgt := 24) hx hb dX8_areNamesInside_19 (by decide) (fun hc3 => ?_) (fun hc3 => ?_)
        · refine lv_iinc (v := (nI (i1 + 1))) (lv' := [(2, .int (nI (i1 + 1))), (0, .ref h0), (1, .int x1)]) hx hb dX8_areNamesInside_24 hl (k := 2) rfl (by rw [show Int32.ofInt 1 = (1 : Int32) from rfl]; exact nI_1 _) (by decide) rfl (fun ls hl => ?_)
          refine lv_goto (tgt := 2) hx hb dX8_areNamesInside_27 (by decide) ?_
          exact ihL1 (i1 + 1)  H locs _ (by omega) (by omega)  hP hD hS (lv_sub hl [1, 2, 0] rfl)
        · refine lv_iconst (v := (nI 0)) hx hb dX8_areNamesInside_22 (by decide) ?_
          have hP9 := hP.sub (ws' := [(h0, .inr (13, [.ref q1, .ref q2, .ref q3, .int (nI k)])), (q1, .inl (cI, 9, .inl f)), (q2, .inl (cI, 9, .inl g)), (q3, .inl (cI, 8, .inl h))]) [0, 1, 2, 3] rfl
          have hD9 := hD.sub (ws' := [(h0, .inr (13, [.ref q1, .ref q2, .ref q3, .int (nI k)])), (q1, .inl (cI, 9, .inl f)), (q2, .inl (cI, 9, .inl g)), (q3, .inl (cI, 8, .inl h))]) [0, 1, 2, 3] (by decide) rfl
          exact W.zret (ty := .boolean) (v := (nI 0)) hx hb hr (by decide) (fun t ht hW => ⟨⟨(nI 0), (), rfl, trivial, by rw [ht]; exact hP9, va_K.moved hW.alike hK, hD9⟩, hS.F ht⟩) hS.2.2 dX8_areNamesInside_23
  exact L1 (k + 1) 0  s.heap [] _ (by omega) (by omega)  hP hD hS (lv_sub hl [1, 2, 0] rfl)
set_option maxHeartbeats 4000000 in
set_option maxRecDepth 100000 in
theorem metX8_isRenamedLess (l : Launch) (dC : Nat → ClassId) (dI : Nat → Nat → Nat) (cI cJ cC cZ cD : ClassId) (nt : Nat) (ng : Nat → Int32) (sz : Nat) (h0 q1 q2 q3 : Nat) (f g h : Nat → Int32) (k mb : Nat) (x1 : Int32) (hk : k ≤ 3) (hkk : k * k ≤ 9) (hmb : mb ≤ 1) : Met l yX8_isRenamedLess wsX8_isRenamedLess ({ frames := 1, cells := 0, slots := 0, locals := 23 }) (va_Pc [.ref h0, .int x1, .int (nI mb)] (fun U => U.heap.size = sz ∧ va_P (dC, dI) vwCl [(h0, .inr (13, [.ref q1, .ref q2, .ref q3, .int (nI k)])), (q1, .inl (cI, 9, .inl f)), (q2, .inl (cI, 9, .inl g)), (q3, .inl (cI, 8, .inl h))] U.heap ∧ va_K (dC, dI) vwCl [(cI, .int), (cJ, .long), (cC, .char), (cZ, .boolean), (cD, .double)] U ∧ va_D (fun _ => True) [(h0, .inr (13, [.ref q1, .ref q2, .ref q3, .int (nI k)])), (q1, .inl (cI, 9, .inl f)), (q2, .inl (cI, 9, .inl g)), (q3, .inl (cI, 8, .inl h))] ∧ va_Z RX8 "NAMES" "[I" (.ref nt) (va_A [(h0, .inr (13, [.ref q1, .ref q2, .ref q3, .int (nI k)])), (q1, .inl (cI, 9, .inl f)), (q2, .inl (cI, 9, .inl g)), (q3, .inl (cI, 8, .inl h))] sz) U U.heap ∧ va_T .int nt 18 (fun j => .int (ng j)) (va_A [(h0, .inr (13, [.ref q1, .ref q2, .ref q3, .int (nI k)])), (q1, .inl (cI, 9, .inl f)), (q2, .inl (cI, 9, .inl g)), (q3, .inl (cI, 8, .inl h))] sz) U U.heap)) (va_Qi (fun (r : Int32) (u : (Nat → Int32)) => True) (fun (u : (Nat → Int32)) (t : State) => va_P (dC, dI) vwCl [(h0, .inr (13, [.ref q1, .ref q2, .ref q3, .int (nI k)])), (q1, .inl (cI, 9, .inl f)), (q2, .inl (cI, 9, .inl u)), (q3, .inl (cI, 8, .inl h))] t.heap ∧ va_K (dC, dI) vwCl [(cI, .int), (cJ, .long), (cC, .char), (cZ, .boolean), (cD, .double)] t ∧ va_D (va_A [(h0, .inr (13, [.ref q1, .ref q2, .ref q3, .int (nI k)])), (q1, .inl (cI, 9, .inl f)), (q2, .inl (cI, 9, .inl g)), (q3, .inl (cI, 8, .inl h))] sz) [(h0, .inr (13, [.ref q1, .ref q2, .ref q3, .int (nI k)])), (q1, .inl (cI, 9, .inl f)), (q2, .inl (cI, 9, .inl u)), (q3, .inl (cI, 8, .inl h))]) (va_A [(h0, .inr (13, [.ref q1, .ref q2, .ref q3, .int (nI k)])), (q1, .inl (cI, 9, .inl f)), (q2, .inl (cI, 9, .inl g)), (q3, .inl (cI, 8, .inl h))] sz)) 0 0 (va_A [(h0, .inr (13, [.ref q1, .ref q2, .ref q3, .int (nI k)])), (q1, .inl (cI, 9, .inl f)), (q2, .inl (cI, 9, .inl g)), (q3, .inl (cI, 8, .inl h))] sz) := by
  refine Met.ofW (cc := cX8_isRenamedLess) (maxL := 8) (ret := (some .boolean)) (by decide) rfl ?_
  intro p e s m args below meth c s₁ B hml hv
  obtain ⟨rfl, hsz, hP, hK, hD0, hNZ, hNT⟩ := hv
  have hx := B.exec
  have hb := B.bytes
  have hr := B.returns
  have hts := atoms_spec (ws := wsX8_isRenamedLess) B.pre
  have hown : s.vm.findClass RX8 = some m.cls := findClass_of_methodNamed B.named
  have hlocks := B.notSynchronized
  subst hsz
  have hD := hD0.self (sz := s.heap.size)
  generalize hAe : va_A [(h0, .inr (13, [.ref q1, .ref q2, .ref q3, .int (nI k)])), (q1, .inl (cI, 9, .inl f)), (q2, .inl (cI, 9, .inl g)), (q3, .inl (cI, 8, .inl h))] s.heap.size = A at hD hNZ hNT ⊢
  have hA : ∀ q : Nat, s.heap.size ≤ q → A q := fun q h => by rw [← hAe]; exact Or.inr h
  have hS : va_S A s.heap s.heap [] := va_S.rf
  have hP : va_P (dC, dI) vwCl [(h0, .inr (13, [.ref q1, .ref q2, .ref q3, .int (nI k)])), (q1, .inl (cI, 9, .inl f)), (q2, .inl (cI, 9, .inl g)), (q3, .inl (cI, 8, .inl h))] s.heap := hP
  have hl := lv_entry ([.ref h0, .int x1, .int (nI mb)]) (n := 8) (Nat.le_of_ble_eq_true rfl)
  rw [lg_entry_eq]
  generalize (lg_sl ([.ref h0, .int x1, .int (nI mb)]) ++ List.replicate (8 - (lg_sl ([.ref h0, .int x1, .int (nI mb)])).length) Slot.unset).toArray = ls at hl ⊢
  have hinX8 : ∀ w ∈ wsX80, w ∈ wsX8_isRenamedLess := by decide +kernel
  have hl : lv_has ls 8 [(0, .ref h0), (1, .int x1), (2, .int (nI mb))] := hl
  refine lv_iconst (v := (nI 0)) hx hb dX8_isRenamedLess_0 (by decide) ?_
  refine lv_istore_n (lv' := [(3, .int (nI 0)), (0, .ref h0), (1, .int x1), (2, .int (nI mb))]) hx hb dX8_isRenamedLess_1 rfl hl (by decide) rfl (fun ls hl => ?_)
  have L1 : ∀ (n a2 : Nat) (ga : Nat → Int32) (H : Heap) (locs : List Loc) (ls : Array Slot), a2 ≤ k → k + 1 ≤ a2 + n → va_P (dC, dI) vwCl [(h0, .inr (13, [.ref q1, .ref q2, .ref q3, .int (nI k)])), (q1, .inl (cI, 9, .inl f)), (q2, .inl (cI, 9, .inl ga)), (q3, .inl (cI, 8, .inl h))] H → va_D A [(h0, .inr (13, [.ref q1, .ref q2, .ref q3, .int (nI k)])), (q1, .inl (cI, 9, .inl f)), (q2, .inl (cI, 9, .inl ga)), (q3, .inl (cI, 8, .inl h))] → va_S A s.heap H locs → lv_has ls 8 [(0, .ref h0), (1, .int x1), (2, .int (nI mb)), (3, .int (nI a2))] → W p l e (headSpec wsX8_isRenamedLess ({ frames := 1, cells := 0, slots := 0, locals := 23 })).room s m ([.ref h0, .int x1, .int (nI mb)]).toArray below meth c H locs 0 0 (MQ below (va_Qi (fun (r : Int32) (u : (Nat → Int32)) => True) (fun (u : (Nat → Int32)) (t : State) => va_P (dC, dI) vwCl [(h0, .inr (13, [.ref q1, .ref q2, .ref q3, .int (nI k)])), (q1, .inl (cI, 9, .inl f)), (q2, .inl (cI, 9, .inl u)), (q3, .inl (cI, 8, .inl h))] t.heap ∧ va_K (dC, dI) vwCl [(cI, .int), (cJ, .long), (cC, .char), (cZ, .boolean), (cD, .double)] t ∧ va_D A [(h0, .inr (13, [.ref q1, .ref q2, .ref q3, .int (nI k)])), (q1, .inl (cI, 9, .inl f)), (q2, .inl (cI, 9, .inl u)), (q3, .inl (cI, 8, .inl h))]) A) ([.ref h0, .int x1, .int (nI mb)]).toArray s 0 0 A) (F0 m 2 ls []) := by
    intro n
    induction n with
    | zero =>
      intro a2 ga H locs ls h1 h2
      exact absurd h2 (by omega)
    | succ n ih =>
      intro a2 ga H locs ls hia2 hna2  hP hD hS hl
      have ihL1 := ih
      clear ih
      refine lv_iload_n hx hb dX8_isRenamedLess_2 rfl (lv_at hl 3 rfl) ?_
      refine lv_aload_n hx hb dX8_isRenamedLess_3 rfl (lv_at hl 0 rfl) ?_
      refine va_get (D := (dC, dI)) (ci := 13) (v := .int (nI k)) (C := RX8) (T := TX8) (N := 4) hx hb hts hinX8 hown hK hP 0 rfl rfl 3 (by decide) (hts (.fieldLink RX8 19 "Eggboxery$Tables" "side" "I") (by decide +kernel)) (fun _ h9 => h9) rfl dX8_isRenamedLess_4 ?_
      refine lv_icmp_ge (tgt := 111) hx hb dX8_isRenamedLess_7 (by decide) (fun hc1 => ?_) (fun hc1 => ?_)
      · try simp only [ge_iff_le, gt_iff_lt, ne_eq] at hc1
        rw [nI_leI (by omega) (by omega)] at hc1
        refine lv_iconst (v := (nI 0)) hx hb dX8_isRenamedLess_111 (by decide) ?_
        refine lv_istore_n (lv' := [(3, .int (nI 0)), (0, .ref h0), (1, .int x1), (2, .int (nI mb))]) hx hb dX8_isRenamedLess_112 rfl hl (by decide) rfl (fun ls hl => ?_)
        have L9 : ∀ (n i9 : Nat) (H : Heap) (locs : List Loc) (ls : Array Slot), i9 ≤ 9 → 9 + 1 ≤ i9 + n → va_P (dC, dI) vwCl [(h0, .inr (13, [.ref q1, .ref q2, .ref q3, .int (nI k)])), (q1, .inl (cI, 9, .inl f)), (q2, .inl (cI, 9, .inl ga)), (q3, .inl (cI, 8, .inl h))] H → va_D A [(h0, .inr (13, [.ref q1, .ref q2, .ref q3, .int (nI k)])), (q1, .inl (cI, 9, .inl f)), (q2, .inl (cI, 9, .inl ga)), (q3, .inl (cI, 8, .inl h))] → va_S A s.heap H locs → lv_has ls 8 [(0, .ref h0), (1, .int x1), (2, .int (nI mb)), (3, .int (nI i9))] → W p l e (headSpec wsX8_isRenamedLess ({ frames := 1, cells := 0, slots := 0, locals := 23 })).room s m ([.ref h0, .int x1, .int (nI mb)]).toArray below meth c H locs 0 0 (MQ below (va_Qi (fun (r : Int32) (u : (Nat → Int32)) => True) (fun (u : (Nat → Int32)) (t : State) => va_P (dC, dI) vwCl [(h0, .inr (13, [.ref q1, .ref q2, .ref q3, .int (nI k)])), (q1, .inl (cI, 9, .inl f)), (q2, .inl (cI, 9, .inl u)), (q3, .inl (cI, 8, .inl h))] t.heap ∧ va_K (dC, dI) vwCl [(cI, .int), (cJ, .long), (cC, .char), (cZ, .boolean), (cD, .double)] t ∧ va_D A [(h0, .inr (13, [.ref q1, .ref q2, .ref q3, .int (nI k)])), (q1, .inl (cI, 9, .inl f)), (q2, .inl (cI, 9, .inl u)), (q3, .inl (cI, 8, .inl h))]) A) ([.ref h0, .int x1, .int (nI mb)]).toArray s 0 0 A) (F0 m 113 ls []) := by
          intro n
          induction n with
          | zero =>
            intro i9  H locs ls h1 h2
            exact absurd h2 (by omega)
          | succ n ih =>
            intro i9  H locs ls hii9 hni9  hP hD hS hl
            have ihL9 := ih
            clear ih
            refine lv_iload_n hx hb dX8_isRenamedLess_113 rfl (lv_at hl 3 rfl) ?_
            refine lv_aload_n hx hb dX8_isRenamedLess_114 rfl (lv_at hl 0 rfl) ?_
            refine va_get (D := (dC, dI)) (ci := 13) (v := .int (nI k)) (C := RX8) (T := TX8) (N := 4) hx hb hts hinX8 hown hK hP 0 rfl rfl 3 (by decide) (hts (.fieldLink RX8 19 "Eggboxery$Tables" "side" "I") (by decide +kernel)) (fun _ h9 => h9) rfl dX8_isRenamedLess_115 ?_
            refine lv_aload_n hx hb dX8_isRenamedLess_118 rfl (lv_at hl 0 rfl) ?_
            refine va_get (D := (dC, dI)) (ci := 13) (v := .int (nI k)) (C := RX8) (T := TX8) (N := 4) hx hb hts hinX8 hown hK hP 0 rfl rfl 3 (by decide) (hts (.fieldLink RX8 19 "Eggboxery$Tables" "side" "I") (by decide +kernel)) (fun _ h9 => h9) rfl dX8_isRenamedLess_119 ?_
            refine lv_imul hx hb dX8_isRenamedLess_122 ?_
            refine lv_topi (nm_r (e' := nI (k * k)) (pk_mul _ _) ?_)
            refine lv_icmp_ge (tgt := 177) hx hb dX8_isRenamedLess_123 (by decide) (fun hc2 => ?_) (fun hc2 => ?_)
            · try simp only [ge_iff_le, gt_iff_lt, ne_eq] at hc2
              rw [nI_leI (by omega) (by omega)] at hc2
              refine lv_iconst (v := (nI 0)) hx hb dX8_isRenamedLess_177 (by decide) ?_
              have hP9 := hP.sub (ws' := [(h0, .inr (13, [.ref q1, .ref q2, .ref q3, .int (nI k)])), (q1, .inl (cI, 9, .inl f)), (q2, .inl (cI, 9, .inl ga)), (q3, .inl (cI, 8, .inl h))]) [0, 1, 2, 3] rfl
              have hD9 := hD.sub (ws' := [(h0, .inr (13, [.ref q1, .ref q2, .ref q3, .int (nI k)])), (q1, .inl (cI, 9, .inl f)), (q2, .inl (cI, 9, .inl ga)), (q3, .inl (cI, 8, .inl h))]) [0, 1, 2, 3] (by decide) rfl
              exact W.zret (ty := .boolean) (v := (nI 0)) hx hb hr (by decide) (fun t ht hW => ⟨⟨(nI 0), ga, rfl, trivial, by rw [ht]; exact hP9, va_K.moved hW.alike hK, hD9⟩, hS.F ht⟩) hS.2.2 dX8_isRenamedLess_178
            · try simp only [ge_iff_le, gt_iff_lt, ne_eq] at hc2
              rw [nI_leI (by omega) (by omega)] at hc2
              refine lv_iload_n hx hb dX8_isRenamedLess_126 rfl (lv_at hl 3 rfl) ?_
              refine lv_aload_n hx hb dX8_isRenamedLess_127 rfl (lv_at hl 0 rfl) ?_
              refine va_get (D := (dC, dI)) (ci := 13) (v := .ref q1) (C := RX8) (T := TX8) (N := 4) hx hb hts hinX8 hown hK hP 0 rfl rfl 0 (by decide) (hts (.fieldLink RX8 9 "Eggboxery$Tables" "cells" "[I") (by decide +kernel)) (fun _ h9 => h9) rfl dX8_isRenamedLess_128 ?_
              refine va_alen (v := nI (9)) hx hb hK hP 1 0 rfl rfl rfl dX8_isRenamedLess_131 ?_
              refine lv_icmp_ge (tgt := 177) hx hb dX8_isRenamedLess_132 (by decide) (fun hc3 => ?_) (fun hc3 => ?_)
              · try simp only [ge_iff_le, gt_iff_lt, ne_eq] at hc3
                rw [nI_leI (by omega) (by omega)] at hc3
                refine lv_iconst (v := (nI 0)) hx hb dX8_isRenamedLess_177 (by decide) ?_
                have hP9 := hP.sub (ws' := [(h0, .inr (13, [.ref q1, .ref q2, .ref q3, .int (nI k)])), (q1, .inl (cI, 9, .inl f)), (q2, .inl (cI, 9, .inl ga)), (q3, .inl (cI, 8, .inl h))]) [0, 1, 2, 3] rfl
                have hD9 := hD.sub (ws' := [(h0, .inr (13, [.ref q1, .ref q2, .ref q3, .int (nI k)])), (q1, .inl (cI, 9, .inl f)), (q2, .inl (cI, 9, .inl ga)), (q3, .inl (cI, 8, .inl h))]) [0, 1, 2, 3] (by decide) rfl
                exact W.zret (ty := .boolean) (v := (nI 0)) hx hb hr (by decide) (fun t ht hW => ⟨⟨(nI 0), ga, rfl, trivial, by rw [ht]; exact hP9, va_K.moved hW.alike hK, hD9⟩, hS.F ht⟩) hS.2.2 dX8_isRenamedLess_178
              · try simp only [ge_iff_le, gt_iff_lt, ne_eq] at hc3
                rw [nI_leI (by omega) (by omega)] at hc3
                refine lv_aload_n hx hb dX8_isRenamedLess_135 rfl (lv_at hl 0 rfl) ?_
                refine va_get (D := (dC, dI)) (ci := 13) (v := .ref q2) (C := RX8) (T := TX8) (N := 4) hx hb hts hinX8 hown hK hP 0 rfl rfl 1 (by decide) (hts (.fieldLink RX8 13 "Eggboxery$Tables" "renamed" "[I") (by decide +kernel)) (fun _ h9 => h9) rfl dX8_isRenamedLess_136 ?_
                refine lv_iload_n hx hb dX8_isRenamedLess_139 rfl (lv_at hl 3 rfl) ?_
                refine va_iald hx hb hK hP 2 0 rfl rfl (vp_in_nI (n := i9) (by omega) (by omega)) dX8_isRenamedLess_140 ?_
                refine lv_topi (fun z4 ez4 => ?_)
                refine lv_aload_n hx hb dX8_isRenamedLess_141 rfl (lv_at hl 0 rfl) ?_
                refine va_get (D := (dC, dI)) (ci := 13) (v := .ref q1) (C := RX8) (T := TX8) (N := 4) hx hb hts hinX8 hown hK hP 0 rfl rfl 0 (by decide) (hts (.fieldLink RX8 9 "Eggboxery$Tables" "cells" "[I") (by decide +kernel)) (fun _ h9 => h9) rfl dX8_isRenamedLess_142 ?_
                refine lv_iload_n hx hb dX8_isRenamedLess_145 rfl (lv_at hl 3 rfl) ?_
                refine va_iald hx hb hK hP 1 0 rfl rfl (vp_in_nI (n := i9) (by omega) (by omega)) dX8_isRenamedLess_146 ?_
                refine lv_topi (fun z5 ez5 => ?_)
                refine lv_icmp_eq (tgt := 171) hx hb dX8_isRenamedLess_147 (by decide) (fun hc6 => ?_) (fun hc6 => ?_)
                · refine lv_iinc (v := (nI (i9 + 1))) (lv' := [(3, .int (nI (i9 + 1))), (0, .ref h0), (1, .int x1), (2, .int (nI mb))]) hx hb dX8_isRenamedLess_171 hl (k := 3) rfl (by rw [show Int32.ofInt 1 = (1 : Int32) from rfl]; exact nI_1 _) (by decide) rfl (fun ls hl => ?_)
                  refine lv_goto (tgt := 113) hx hb dX8_isRenamedLess_174 (by decide) ?_
                  exact ihL9 (i9 + 1)  H locs _ (by omega) (by omega)  hP hD hS (lv_sub hl [1, 2, 3, 0] rfl)
                · refine lv_aload_n hx hb dX8_isRenamedLess_150 rfl (lv_at hl 0 rfl) ?_
                  refine va_get (D := (dC, dI)) (ci := 13) (v := .ref q2) (C := RX8) (T := TX8) (N := 4) hx hb hts hinX8 hown hK hP 0 rfl rfl 1 (by decide) (hts (.fieldLink RX8 13 "Eggboxery$Tables" "renamed" "[I") (by decide +kernel)) (fun _ h9 => h9) rfl dX8_isRenamedLess_151 ?_
                  refine lv_iload_n hx hb dX8_isRenamedLess_154 rfl (lv_at hl 3 rfl) ?_
                  refine va_iald hx hb hK hP 2 0 rfl rfl (vp_in_nI (n := i9) (by omega) (by omega)) dX8_isRenamedLess_155 ?_
                  refine lv_topi (fun z7 ez7 => ?_)
                  refine lv_aload_n hx hb dX8_isRenamedLess_156 rfl (lv_at hl 0 rfl) ?_
                  refine va_get (D := (dC, dI)) (ci := 13) (v := .ref q1) (C := RX8) (T := TX8) (N := 4) hx hb hts hinX8 hown hK hP 0 rfl rfl 0 (by decide) (hts (.fieldLink RX8 9 "Eggboxery$Tables" "cells" "[I") (by decide +kernel)) (fun _ h9 => h9) rfl dX8_isRenamedLess_157 ?_
                  refine lv_iload_n hx hb dX8_isRenamedLess_160 rfl (lv_at hl 3 rfl) ?_
                  refine va_iald hx hb hK hP 1 0 rfl rfl (vp_in_nI (n := i9) (by omega) (by omega)) dX8_isRenamedLess_161 ?_
                  refine lv_topi (fun z8 ez8 => ?_)
                  refine lv_icmp_ge (tgt := 169) hx hb dX8_isRenamedLess_162 (by decide) (fun hc9 => ?_) (fun hc9 => ?_)
                  · refine lv_iconst (v := (nI 0)) hx hb dX8_isRenamedLess_169 (by decide) ?_
                    have hP9 := hP.sub (ws' := [(h0, .inr (13, [.ref q1, .ref q2, .ref q3, .int (nI k)])), (q1, .inl (cI, 9, .inl f)), (q2, .inl (cI, 9, .inl ga)), (q3, .inl (cI, 8, .inl h))]) [0, 1, 2, 3] rfl
                    have hD9 := hD.sub (ws' := [(h0, .inr (13, [.ref q1, .ref q2, .ref q3, .int (nI k)])), (q1, .inl (cI, 9, .inl f)), (q2, .inl (cI, 9, .inl ga)), (q3, .inl (cI, 8, .inl h))]) [0, 1, 2, 3] (by decide) rfl
                    exact W.zret (ty := .boolean) (v := (nI 0)) hx hb hr (by decide) (fun t ht hW => ⟨⟨(nI 0), ga, rfl, trivial, by rw [ht]; exact hP9, va_K.moved hW.alike hK, hD9⟩, hS.F ht⟩) hS.2.2 dX8_isRenamedLess_170
                  · refine lv_iconst (v := (nI 1)) hx hb dX8_isRenamedLess_165 (by decide) ?_
                    refine lv_goto (tgt := 170) hx hb dX8_isRenamedLess_166 (by decide) ?_
                    have hP9 := hP.sub (ws' := [(h0, .inr (13, [.ref q1, .ref q2, .ref q3, .int (nI k)])), (q1, .inl (cI, 9, .inl f)), (q2, .inl (cI, 9, .inl ga)), (q3, .inl (cI, 8, .inl h))]) [0, 1, 2, 3] rfl
                    have hD9 := hD.sub (ws' := [(h0, .inr (13, [.ref q1, .ref q2, .ref q3, .int (nI k)])), (q1, .inl (cI, 9, .inl f)), (q2, .inl (cI, 9, .inl ga)), (q3, .inl (cI, 8, .inl h))]) [0, 1, 2, 3] (by decide) rfl
                    exact W.zret (ty := .boolean) (v := (nI 1)) hx hb hr (by decide) (fun t ht hW => ⟨⟨(nI 1), ga, rfl, trivial, by rw [ht]; exact hP9, va_K.moved hW.alike hK, hD9⟩, hS.F ht⟩) hS.2.2 dX8_isRenamedLess_170
        exact L9 (9 + 1) 0  H locs _ (by omega) (by omega)  hP hD hS (lv_sub hl [1, 2, 3, 0] rfl)
      · try simp only [ge_iff_le, gt_iff_lt, ne_eq] at hc1
        rw [nI_leI (by omega) (by omega)] at hc1
        refine lv_iconst (v := (nI 0)) hx hb dX8_isRenamedLess_10 (by decide) ?_
        refine lv_istore (lv' := [(4, .int (nI 0)), (0, .ref h0), (1, .int x1), (2, .int (nI mb)), (3, .int (nI a2))]) hx hb dX8_isRenamedLess_11 hl (by decide) rfl (fun ls hl => ?_)
        have L2 : ∀ (n b2 : Nat) (gb : Nat → Int32) (H : Heap) (locs : List Loc) (ls : Array Slot), b2 ≤ k → k + 1 ≤ b2 + n → va_P (dC, dI) vwCl [(h0, .inr (13, [.ref q1, .ref q2, .ref q3, .int (nI k)])), (q1, .inl (cI, 9, .inl f)), (q2, .inl (cI, 9, .inl gb)), (q3, .inl (cI, 8, .inl h))] H → va_D A [(h0, .inr (13, [.ref q1, .ref q2, .ref q3, .int (nI k)])), (q1, .inl (cI, 9, .inl f)), (q2, .inl (cI, 9, .inl gb)), (q3, .inl (cI, 8, .inl h))] → va_S A s.heap H locs → lv_has ls 8 [(0, .ref h0), (1, .int x1), (2, .int (nI mb)), (3, .int (nI a2)), (4, .int (nI b2))] → W p l e (headSpec wsX8_isRenamedLess ({ frames := 1, cells := 0, slots := 0, locals := 23 })).room s m ([.ref h0, .int x1, .int (nI mb)]).toArray below meth c H locs 0 0 (MQ below (va_Qi (fun (r : Int32) (u : (Nat → Int32)) => True) (fun (u : (Nat → Int32)) (t : State) => va_P (dC, dI) vwCl [(h0, .inr (13, [.ref q1, .ref q2, .ref q3, .int (nI k)])), (q1, .inl (cI, 9, .inl f)), (q2, .inl (cI, 9, .inl u)), (q3, .inl (cI, 8, .inl h))] t.heap ∧ va_K (dC, dI) vwCl [(cI, .int), (cJ, .long), (cC, .char), (cZ, .boolean), (cD, .double)] t ∧ va_D A [(h0, .inr (13, [.ref q1, .ref q2, .ref q3, .int (nI k)])), (q1, .inl (cI, 9, .inl f)), (q2, .inl (cI, 9, .inl u)), (q3, .inl (cI, 8, .inl h))]) A) ([.ref h0, .int x1, .int (nI mb)]).toArray s 0 0 A) (F0 m 13 ls []) := by
          intro n
          induction n with
          | zero =>
            intro b2 gb H locs ls h1 h2
            exact absurd h2 (by omega)
          | succ n ih =>
            intro b2 gb H locs ls hib2 hnb2  hP hD hS hl
            have ihL2 := ih
            clear ih
            refine lv_iload hx hb dX8_isRenamedLess_13 (lv_at hl 4 rfl) ?_
            refine lv_aload_n hx hb dX8_isRenamedLess_15 rfl (lv_at hl 0 rfl) ?_
            refine va_get (D := (dC, dI)) (ci := 13) (v := .int (nI k)) (C := RX8) (T := TX8) (N := 4) hx hb hts hinX8 hown hK hP 0 rfl rfl 3 (by decide) (hts (.fieldLink RX8 19 "Eggboxery$Tables" "side" "I") (by decide +kernel)) (fun _ h9 => h9) rfl dX8_isRenamedLess_16 ?_
            refine lv_icmp_ge (tgt := 105) hx hb dX8_isRenamedLess_19 (by decide) (fun hc10 => ?_) (fun hc10 => ?_)
            · try simp only [ge_iff_le, gt_iff_lt, ne_eq] at hc10
              rw [nI_leI (by omega) (by omega)] at hc10
              refine lv_iinc (v := (nI (a2 + 1))) (lv' := [(3, .int (nI (a2 + 1))), (0, .ref h0), (1, .int x1), (2, .int (nI mb)), (4, .int (nI b2))]) hx hb dX8_isRenamedLess_105 hl (k := 3) rfl (by rw [show Int32.ofInt 1 = (1 : Int32) from rfl]; exact nI_1 _) (by decide) rfl (fun ls hl => ?_)
              refine lv_goto (tgt := 2) hx hb dX8_isRenamedLess_108 (by decide) ?_
              exact ihL1 (a2 + 1) gb H locs _ (by omega) (by omega)  hP hD hS (lv_sub hl [1, 2, 3, 0] rfl)
            · try simp only [ge_iff_le, gt_iff_lt, ne_eq] at hc10
              rw [nI_leI (by omega) (by omega)] at hc10
              refine lv_iload_n hx hb dX8_isRenamedLess_22 rfl (lv_at hl 1 rfl) ?_
              refine lv_iload_n hx hb dX8_isRenamedLess_23 rfl (lv_at hl 2 rfl) ?_
              refine lv_if_eq (tgt := 32) hx hb dX8_isRenamedLess_24 (by decide) (fun hc11 => ?_) (fun hc11 => ?_)
              · have hc11 := hc11
                try rw [show (0 : Int32) = nI 0 from rfl] at hc11
                try simp only [ge_iff_le, gt_iff_lt, ne_eq] at hc11
                rw [nI_eq (by omega) (by omega)] at hc11
                refine lv_iload_n hx hb dX8_isRenamedLess_32 rfl (lv_at hl 3 rfl) ?_
                have hPc := hP.sub (ws' := []) [] rfl
                have hDc := hD.sub (ws' := []) [] (by decide) rfl
                have hFc := va_free (wc := []) hD hS hA [] rfl
                have hZc := (hNZ.kept hS.2.1).narrow hFc
                have hTc := (hNT.kept hS.2.1).narrow hFc
                refine va_calli (va_runS (As := [.int x1, .int (nI a2)]) (rest := []) ⟨hx, hb, hml, hown, hts⟩ (metX8_nameOf l dC dI cI cJ cC cZ cD nt ng H.size x1 ((nI a2))) (va_cwS 2 hts gX8_isRenamedLess_X8_nameOf rfl rfl rfl (by decide +kernel) ⟨Nat.le_of_ble_eq_true rfl, Nat.le_of_ble_eq_true rfl⟩) ⟨fun a U g mk q => by obtain ⟨q0, q1, qP, qK, qD, qZ, qT⟩ := q; exact ⟨q0, q1, qP, va_K.moved (u := U) (U := U.calling g mk a) (Vm.Alike.refl U.vm) qK, qD, va_Z.moved (u := U) (U := U.calling g mk a) (Vm.Alike.refl U.vm) qZ, va_T.moved (u := U) (U := U.calling g mk a) (Vm.Alike.refl U.vm) qT⟩, fun U hU hW => ⟨rfl, by rw [hU], by rw [hU]; exact hPc, va_K.moved hW.alike hK, hDc.weaken (fun _ _ _ _ => trivial), va_Z.moved hW.alike (by rw [hU]; exact hZc), va_T.moved hW.alike (by rw [hU]; exact hTc)⟩⟩ rfl rfl hl.1 rfl (lv_room (Nat.le_of_ble_eq_true rfl)) dX8_isRenamedLess_33 ⟨Nat.le_of_ble_eq_true rfl, Nat.le_of_ble_eq_true rfl⟩) hS (fun q _ h => hFc q h) hFc (fun r12 u t H1 locs ht hvm hw hB hz1 hk1 hS => ?_)
                obtain ⟨hP1, hK1, hD1⟩ := hB
                rw [ht] at hP1
                try dsimp only at hP1 hD1 hw
                obtain ⟨hP, hD⟩ := va_join (wr := [(h0, .inr (13, [.ref q1, .ref q2, .ref q3, .int (nI k)])), (q1, .inl (cI, 9, .inl f)), (q2, .inl (cI, 9, .inl gb)), (q3, .inl (cI, 8, .inl h))]) (w1 := []) hP hD [] [0, 1, 2, 3] rfl rfl (by decide) (by decide) hk1 hFc hP1 hD1
                generalize H1 = H at hP hS ⊢
                have hP : va_P (dC, dI) vwCl [(h0, .inr (13, [.ref q1, .ref q2, .ref q3, .int (nI k)])), (q1, .inl (cI, 9, .inl f)), (q2, .inl (cI, 9, .inl gb)), (q3, .inl (cI, 8, .inl h))] H := hP
                have hD : va_D A [(h0, .inr (13, [.ref q1, .ref q2, .ref q3, .int (nI k)])), (q1, .inl (cI, 9, .inl f)), (q2, .inl (cI, 9, .inl gb)), (q3, .inl (cI, 8, .inl h))] := hD
                refine lv_istore (lv' := [(5, .int r12), (0, .ref h0), (1, .int x1), (2, .int (nI mb)), (3, .int (nI a2)), (4, .int (nI b2))]) hx hb dX8_isRenamedLess_36 hl (by decide) rfl (fun ls hl => ?_)
                refine lv_iload_n hx hb dX8_isRenamedLess_38 rfl (lv_at hl 2 rfl) ?_
                refine lv_iload_n hx hb dX8_isRenamedLess_39 rfl (lv_at hl 3 rfl) ?_
                refine lv_if_eq (tgt := 47) hx hb dX8_isRenamedLess_40 (by decide) (fun hc13 => ?_) (fun hc13 => ?_)
                · have hc13 := hc13
                  try rw [show (0 : Int32) = nI 0 from rfl] at hc13
                  try simp only [ge_iff_le, gt_iff_lt, ne_eq] at hc13
                  rw [nI_eq (by omega) (by omega)] at hc13
                  refine lv_iload hx hb dX8_isRenamedLess_47 (lv_at hl 5 rfl) ?_
                  have hPc := hP.sub (ws' := []) [] rfl
                  have hDc := hD.sub (ws' := []) [] (by decide) rfl
                  have hFc := va_free (wc := []) hD hS hA [] rfl
                  have hZc := (hNZ.kept hS.2.1).narrow hFc
                  have hTc := (hNT.kept hS.2.1).narrow hFc
                  refine va_calli (va_runS (As := [.int x1, .int (nI b2)]) (rest := []) ⟨hx, hb, hml, hown, hts⟩ (metX8_nameOf l dC dI cI cJ cC cZ cD nt ng H.size x1 ((nI b2))) (va_cwS 2 hts gX8_isRenamedLess_X8_nameOf rfl rfl rfl (by decide +kernel) ⟨Nat.le_of_ble_eq_true rfl, Nat.le_of_ble_eq_true rfl⟩) ⟨fun a U g mk q => by obtain ⟨q0, q1, qP, qK, qD, qZ, qT⟩ := q; exact ⟨q0, q1, qP, va_K.moved (u := U) (U := U.calling g mk a) (Vm.Alike.refl U.vm) qK, qD, va_Z.moved (u := U) (U := U.calling g mk a) (Vm.Alike.refl U.vm) qZ, va_T.moved (u := U) (U := U.calling g mk a) (Vm.Alike.refl U.vm) qT⟩, fun U hU hW => ⟨rfl, by rw [hU], by rw [hU]; exact hPc, va_K.moved hW.alike hK, hDc.weaken (fun _ _ _ _ => trivial), va_Z.moved hW.alike (by rw [hU]; exact hZc), va_T.moved hW.alike (by rw [hU]; exact hTc)⟩⟩ rfl rfl hl.1 rfl (lv_room (Nat.le_of_ble_eq_true rfl)) dX8_isRenamedLess_49 ⟨Nat.le_of_ble_eq_true rfl, Nat.le_of_ble_eq_true rfl⟩) hS (fun q _ h => hFc q h) hFc (fun r14 u t H1 locs ht hvm hw hB hz1 hk1 hS => ?_)
                  obtain ⟨hP1, hK1, hD1⟩ := hB
                  rw [ht] at hP1
                  try dsimp only at hP1 hD1 hw
                  obtain ⟨hP, hD⟩ := va_join (wr := [(h0, .inr (13, [.ref q1, .ref q2, .ref q3, .int (nI k)])), (q1, .inl (cI, 9, .inl f)), (q2, .inl (cI, 9, .inl gb)), (q3, .inl (cI, 8, .inl h))]) (w1 := []) hP hD [] [0, 1, 2, 3] rfl rfl (by decide) (by decide) hk1 hFc hP1 hD1
                  generalize H1 = H at hP hS ⊢
                  have hP : va_P (dC, dI) vwCl [(h0, .inr (13, [.ref q1, .ref q2, .ref q3, .int (nI k)])), (q1, .inl (cI, 9, .inl f)), (q2, .inl (cI, 9, .inl gb)), (q3, .inl (cI, 8, .inl h))] H := hP
                  have hD : va_D A [(h0, .inr (13, [.ref q1, .ref q2, .ref q3, .int (nI k)])), (q1, .inl (cI, 9, .inl f)), (q2, .inl (cI, 9, .inl gb)), (q3, .inl (cI, 8, .inl h))] := hD
                  refine lv_istore (lv' := [(6, .int r14), (5, .int r12), (0, .ref h0), (1, .int x1), (2, .int (nI mb)), (3, .int (nI a2)), (4, .int (nI b2))]) hx hb dX8_isRenamedLess_52 hl (by decide) rfl (fun ls hl => ?_)
                  refine lv_iload hx hb dX8_isRenamedLess_54 (lv_at hl 1 rfl) ?_
                  refine lv_aload_n hx hb dX8_isRenamedLess_56 rfl (lv_at hl 2 rfl) ?_
                  refine va_get (D := (dC, dI)) (ci := 13) (v := .int (nI k)) (C := RX8) (T := TX8) (N := 4) hx hb hts hinX8 hown hK hP 0 rfl rfl 3 (by decide) (hts (.fieldLink RX8 19 "Eggboxery$Tables" "side" "I") (by decide +kernel)) (fun _ h9 => h9) rfl dX8_isRenamedLess_57 ?_
                  refine lv_imul hx hb dX8_isRenamedLess_60 ?_
                  refine lv_topi (fun z15 _ => ?_)
                  refine lv_iload hx hb dX8_isRenamedLess_61 (lv_at hl 0 rfl) ?_
                  refine lv_iadd hx hb dX8_isRenamedLess_63 ?_
                  refine lv_topi (fun z16 _ => ?_)
                  refine lv_istore (lv' := [(7, .int z16), (6, .int r14), (5, .int r12), (0, .ref h0), (1, .int x1), (2, .int (nI mb)), (3, .int (nI a2)), (4, .int (nI b2))]) hx hb dX8_isRenamedLess_64 hl (by decide) rfl (fun ls hl => ?_)
                  refine lv_iload hx hb dX8_isRenamedLess_66 (lv_at hl 0 rfl) ?_
                  refine lv_if_lt (tgt := 99) hx hb dX8_isRenamedLess_68 (by decide) (fun cneg => ?_) (fun cneg => ?_)
                  · refine lv_iinc (v := (nI (b2 + 1))) (lv' := [(4, .int (nI (b2 + 1))), (7, .int z16), (6, .int r14), (5, .int r12), (0, .ref h0), (1, .int x1), (2, .int (nI mb)), (3, .int (nI a2))]) hx hb dX8_isRenamedLess_99 hl (k := 7) rfl (by rw [show Int32.ofInt 1 = (1 : Int32) from rfl]; exact nI_1 _) (by decide) rfl (fun ls hl => ?_)
                    refine lv_goto (tgt := 13) hx hb dX8_isRenamedLess_102 (by decide) ?_
                    exact ihL2 (b2 + 1) gb H locs _ (by omega) (by omega)  hP hD hS (lv_sub hl [4, 5, 6, 7, 0] rfl)
                  · refine lv_iload hx hb dX8_isRenamedLess_71 (lv_at hl 0 rfl) ?_
                    refine lv_aload_n hx hb dX8_isRenamedLess_73 rfl (lv_at hl 3 rfl) ?_
                    refine va_get (D := (dC, dI)) (ci := 13) (v := .ref q2) (C := RX8) (T := TX8) (N := 4) hx hb hts hinX8 hown hK hP 0 rfl rfl 1 (by decide) (hts (.fieldLink RX8 13 "Eggboxery$Tables" "renamed" "[I") (by decide +kernel)) (fun _ h9 => h9) rfl dX8_isRenamedLess_74 ?_
                    refine va_alen (v := nI (9)) hx hb hK hP 2 0 rfl rfl rfl dX8_isRenamedLess_77 ?_
                    refine lv_icmp_ge (tgt := 99) hx hb dX8_isRenamedLess_78 (by decide) (fun clen => ?_) (fun clen => ?_)
                    · refine lv_iinc (v := (nI (b2 + 1))) (lv' := [(4, .int (nI (b2 + 1))), (7, .int z16), (6, .int r14), (5, .int r12), (0, .ref h0), (1, .int x1), (2, .int (nI mb)), (3, .int (nI a2))]) hx hb dX8_isRenamedLess_99 hl (k := 7) rfl (by rw [show Int32.ofInt 1 = (1 : Int32) from rfl]; exact nI_1 _) (by decide) rfl (fun ls hl => ?_)
                      refine lv_goto (tgt := 13) hx hb dX8_isRenamedLess_102 (by decide) ?_
                      exact ihL2 (b2 + 1) gb H locs _ (by omega) (by omega)  hP hD hS (lv_sub hl [4, 5, 6, 7, 0] rfl)
                    · have hin0 := in_of (n := 9) (by omega) cneg clen
                      refine lv_aload_n hx hb dX8_isRenamedLess_81 rfl (lv_at hl 3 rfl) ?_
                      refine va_get (D := (dC, dI)) (ci := 13) (v := .ref q2) (C := RX8) (T := TX8) (N := 4) hx hb hts hinX8 hown hK hP 0 rfl rfl 1 (by decide) (hts (.fieldLink RX8 13 "Eggboxery$Tables" "renamed" "[I") (by decide +kernel)) (fun _ h9 => h9) rfl dX8_isRenamedLess_82 ?_
                      refine lv_iload hx hb dX8_isRenamedLess_85 (lv_at hl 0 rfl) ?_
                      refine lv_iload_n hx hb dX8_isRenamedLess_87 rfl (lv_at hl 4 rfl) ?_
                      refine lv_aload_n hx hb dX8_isRenamedLess_88 rfl (lv_at hl 3 rfl) ?_
                      refine lv_iload_n hx hb dX8_isRenamedLess_89 rfl (lv_at hl 6 rfl) ?_
                      refine lv_iload hx hb dX8_isRenamedLess_90 (lv_at hl 7 rfl) ?_
                      have hPc := hP.sub (ws' := [(h0, .inr (13, [.ref q1, .ref q2, .ref q3, .int (nI k)])), (q1, .inl (cI, 9, .inl f)), (q2, .inl (cI, 9, .inl gb)), (q3, .inl (cI, 8, .inl h))]) [0, 1, 2, 3] rfl
                      have hDc := hD.sub (ws' := [(h0, .inr (13, [.ref q1, .ref q2, .ref q3, .int (nI k)])), (q1, .inl (cI, 9, .inl f)), (q2, .inl (cI, 9, .inl gb)), (q3, .inl (cI, 8, .inl h))]) [0, 1, 2, 3] (by decide) rfl
                      have hFc := va_free (wc := [(h0, .inr (13, [.ref q1, .ref q2, .ref q3, .int (nI k)])), (q1, .inl (cI, 9, .inl f)), (q2, .inl (cI, 9, .inl gb)), (q3, .inl (cI, 8, .inl h))]) hD hS hA [0, 1, 2, 3] rfl
                      refine va_calli (va_runV (As := [.int (nI a2), .int (nI b2)]) (rest := [.int x1, .int z16, .ref q2]) ⟨hx, hb, hml, hown, hts⟩ (metX8_cellAt l dC dI cI cJ cC cZ cD H.size h0 q1 q2 q3 f gb h (nI k) (nI a2) (nI b2)) (cwV 2 hts gX8_isRenamedLess_X8_cellAt rfl rfl rfl (by decide +kernel) ⟨Nat.le_of_ble_eq_true rfl, Nat.le_of_ble_eq_true rfl⟩) ⟨fun a U g mk q => by obtain ⟨q0, q1, qP, qK, qD⟩ := q; exact ⟨q0, q1, qP, va_K.moved (u := U) (U := U.calling g mk a) (Vm.Alike.refl U.vm) qK, qD⟩, va_recv hK hPc (ci := 13) (q0 := 0) rfl rfl, fun U hU hW => ⟨rfl, by rw [hU], by rw [hU]; exact hPc, va_K.moved hW.alike hK, hDc.weaken (fun _ _ _ _ => trivial)⟩⟩ rfl rfl hl.1 rfl (lv_room (Nat.le_of_ble_eq_true rfl)) dX8_isRenamedLess_92 ⟨Nat.le_of_ble_eq_true rfl, Nat.le_of_ble_eq_true rfl⟩) hS (fun q _ h => hFc q h) hFc (fun r17 u t H1 locs ht hvm hw hB hz1 hk1 hS => ?_)
                      obtain ⟨hP1, hK1, hD1⟩ := hB
                      rw [ht] at hP1
                      try dsimp only at hP1 hD1 hw
                      obtain ⟨hP, hD⟩ := va_join (wr := []) (w1 := [(h0, .inr (13, [.ref q1, .ref q2, .ref q3, .int (nI k)])), (q1, .inl (cI, 9, .inl f)), (q2, .inl (cI, 9, .inl gb)), (q3, .inl (cI, 8, .inl h))]) hP hD [0, 1, 2, 3] [] rfl rfl (by decide) (by decide) hk1 hFc hP1 hD1
                      generalize H1 = H at hP hS ⊢
                      have hP : va_P (dC, dI) vwCl [(h0, .inr (13, [.ref q1, .ref q2, .ref q3, .int (nI k)])), (q1, .inl (cI, 9, .inl f)), (q2, .inl (cI, 9, .inl gb)), (q3, .inl (cI, 8, .inl h))] H := hP
                      have hD : va_D A [(h0, .inr (13, [.ref q1, .ref q2, .ref q3, .int (nI k)])), (q1, .inl (cI, 9, .inl f)), (q2, .inl (cI, 9, .inl gb)), (q3, .inl (cI, 8, .inl h))] := hD
                      have hPc := hP.sub (ws' := []) [] rfl
                      have hDc := hD.sub (ws' := []) [] (by decide) rfl
                      have hFc := va_free (wc := []) hD hS hA [] rfl
                      have hZc := (hNZ.kept hS.2.1).narrow hFc
                      have hTc := (hNT.kept hS.2.1).narrow hFc
                      refine va_calli (va_runS (As := [.int x1, .int r17]) (rest := [.int z16, .ref q2]) ⟨hx, hb, hml, hown, hts⟩ (metX8_nameOf l dC dI cI cJ cC cZ cD nt ng H.size x1 r17) (va_cwS 2 hts gX8_isRenamedLess_X8_nameOf rfl rfl rfl (by decide +kernel) ⟨Nat.le_of_ble_eq_true rfl, Nat.le_of_ble_eq_true rfl⟩) ⟨fun a U g mk q => by obtain ⟨q0, q1, qP, qK, qD, qZ, qT⟩ := q; exact ⟨q0, q1, qP, va_K.moved (u := U) (U := U.calling g mk a) (Vm.Alike.refl U.vm) qK, qD, va_Z.moved (u := U) (U := U.calling g mk a) (Vm.Alike.refl U.vm) qZ, va_T.moved (u := U) (U := U.calling g mk a) (Vm.Alike.refl U.vm) qT⟩, fun U hU hW => ⟨rfl, by rw [hU], by rw [hU]; exact hPc, va_K.moved hW.alike hK, hDc.weaken (fun _ _ _ _ => trivial), va_Z.moved hW.alike (by rw [hU]; exact hZc), va_T.moved hW.alike (by rw [hU]; exact hTc)⟩⟩ rfl rfl hl.1 rfl (lv_room (Nat.le_of_ble_eq_true rfl)) dX8_isRenamedLess_95 ⟨Nat.le_of_ble_eq_true rfl, Nat.le_of_ble_eq_true rfl⟩) hS (fun q _ h => hFc q h) hFc (fun r18 u t H1 locs ht hvm hw hB hz1 hk1 hS => ?_)
                      obtain ⟨hP1, hK1, hD1⟩ := hB
                      rw [ht] at hP1
                      try dsimp only at hP1 hD1 hw
                      obtain ⟨hP, hD⟩ := va_join (wr := [(h0, .inr (13, [.ref q1, .ref q2, .ref q3, .int (nI k)])), (q1, .inl (cI, 9, .inl f)), (q2, .inl (cI, 9, .inl gb)), (q3, .inl (cI, 8, .inl h))]) (w1 := []) hP hD [] [0, 1, 2, 3] rfl rfl (by decide) (by decide) hk1 hFc hP1 hD1
                      generalize H1 = H at hP hS ⊢
                      have hP : va_P (dC, dI) vwCl [(h0, .inr (13, [.ref q1, .ref q2, .ref q3, .int (nI k)])), (q1, .inl (cI, 9, .inl f)), (q2, .inl (cI, 9, .inl gb)), (q3, .inl (cI, 8, .inl h))] H := hP
                      have hD : va_D A [(h0, .inr (13, [.ref q1, .ref q2, .ref q3, .int (nI k)])), (q1, .inl (cI, 9, .inl f)), (q2, .inl (cI, 9, .inl gb)), (q3, .inl (cI, 8, .inl h))] := hD
                      refine va_iast hx hb hK hP hD hS 2 0 rfl rfl hin0 dX8_isRenamedLess_98 (fun H locs hP hD hS => ?_)
                      obtain ⟨g19, eg19⟩ : ∃ z, z = upd gb (z16).toNatClampNeg r18 := ⟨_, rfl⟩
                      have hP : va_P (dC, dI) vwCl [(h0, .inr (13, [.ref q1, .ref q2, .ref q3, .int (nI k)])), (q1, .inl (cI, 9, .inl f)), (q2, .inl (cI, 9, .inl g19)), (q3, .inl (cI, 8, .inl h))] H := by rw [eg19]; exact hP
                      have hD : va_D A [(h0, .inr (13, [.ref q1, .ref q2, .ref q3, .int (nI k)])), (q1, .inl (cI, 9, .inl f)), (q2, .inl (cI, 9, .inl g19)), (q3, .inl (cI, 8, .inl h))] := by rw [eg19]; exact hD
                      refine lv_iinc (v := (nI (b2 + 1))) (lv' := [(4, .int (nI (b2 + 1))), (7, .int z16), (6, .int r14), (5, .int r12), (0, .ref h0), (1, .int x1), (2, .int (nI mb)), (3, .int (nI a2))]) hx hb dX8_isRenamedLess_99 hl (k := 7) rfl (by rw [show Int32.ofInt 1 = (1 : Int32) from rfl]; exact nI_1 _) (by decide) rfl (fun ls hl => ?_)
                      refine lv_goto (tgt := 13) hx hb dX8_isRenamedLess_102 (by decide) ?_
                      exact ihL2 (b2 + 1) g19 H locs _ (by omega) (by omega)  hP hD hS (lv_sub hl [4, 5, 6, 7, 0] rfl)
                · have hc13 := hc13
                  try rw [show (0 : Int32) = nI 0 from rfl] at hc13
                  try simp only [ge_iff_le, gt_iff_lt, ne_eq] at hc13
                  rw [nI_eq (by omega) (by omega)] at hc13
                  exact absurd hc13 (by omega)
              · have hc11 := hc11
                try rw [show (0 : Int32) = nI 0 from rfl] at hc11
                try simp only [ge_iff_le, gt_iff_lt, ne_eq] at hc11
                rw [nI_eq (by omega) (by omega)] at hc11
                refine lv_iload hx hb dX8_isRenamedLess_27 (lv_at hl 4 rfl) ?_
                refine lv_goto (tgt := 33) hx hb dX8_isRenamedLess_29 (by decide) ?_
                have hPc := hP.sub (ws' := []) [] rfl
                have hDc := hD.sub (ws' := []) [] (by decide) rfl
                have hFc := va_free (wc := []) hD hS hA [] rfl
                have hZc := (hNZ.kept hS.2.1).narrow hFc
                have hTc := (hNT.kept hS.2.1).narrow hFc
                refine va_calli (va_runS (As := [.int x1, .int (nI b2)]) (rest := []) ⟨hx, hb, hml, hown, hts⟩ (metX8_nameOf l dC dI cI cJ cC cZ cD nt ng H.size x1 ((nI b2))) (va_cwS 2 hts gX8_isRenamedLess_X8_nameOf rfl rfl rfl (by decide +kernel) ⟨Nat.le_of_ble_eq_true rfl, Nat.le_of_ble_eq_true rfl⟩) ⟨fun a U g mk q => by obtain ⟨q0, q1, qP, qK, qD, qZ, qT⟩ := q; exact ⟨q0, q1, qP, va_K.moved (u := U) (U := U.calling g mk a) (Vm.Alike.refl U.vm) qK, qD, va_Z.moved (u := U) (U := U.calling g mk a) (Vm.Alike.refl U.vm) qZ, va_T.moved (u := U) (U := U.calling g mk a) (Vm.Alike.refl U.vm) qT⟩, fun U hU hW => ⟨rfl, by rw [hU], by rw [hU]; exact hPc, va_K.moved hW.alike hK, hDc.weaken (fun _ _ _ _ => trivial), va_Z.moved hW.alike (by rw [hU]; exact hZc), va_T.moved hW.alike (by rw [hU]; exact hTc)⟩⟩ rfl rfl hl.1 rfl (lv_room (Nat.le_of_ble_eq_true rfl)) dX8_isRenamedLess_33 ⟨Nat.le_of_ble_eq_true rfl, Nat.le_of_ble_eq_true rfl⟩) hS (fun q _ h => hFc q h) hFc (fun r20 u t H1 locs ht hvm hw hB hz1 hk1 hS => ?_)
                obtain ⟨hP1, hK1, hD1⟩ := hB
                rw [ht] at hP1
                try dsimp only at hP1 hD1 hw
                obtain ⟨hP, hD⟩ := va_join (wr := [(h0, .inr (13, [.ref q1, .ref q2, .ref q3, .int (nI k)])), (q1, .inl (cI, 9, .inl f)), (q2, .inl (cI, 9, .inl gb)), (q3, .inl (cI, 8, .inl h))]) (w1 := []) hP hD [] [0, 1, 2, 3] rfl rfl (by decide) (by decide) hk1 hFc hP1 hD1
                generalize H1 = H at hP hS ⊢
                have hP : va_P (dC, dI) vwCl [(h0, .inr (13, [.ref q1, .ref q2, .ref q3, .int (nI k)])), (q1, .inl (cI, 9, .inl f)), (q2, .inl (cI, 9, .inl gb)), (q3, .inl (cI, 8, .inl h))] H := hP
                have hD : va_D A [(h0, .inr (13, [.ref q1, .ref q2, .ref q3, .int (nI k)])), (q1, .inl (cI, 9, .inl f)), (q2, .inl (cI, 9, .inl gb)), (q3, .inl (cI, 8, .inl h))] := hD
                refine lv_istore (lv' := [(5, .int r20), (0, .ref h0), (1, .int x1), (2, .int (nI mb)), (3, .int (nI a2)), (4, .int (nI b2))]) hx hb dX8_isRenamedLess_36 hl (by decide) rfl (fun ls hl => ?_)
                refine lv_iload_n hx hb dX8_isRenamedLess_38 rfl (lv_at hl 2 rfl) ?_
                refine lv_iload_n hx hb dX8_isRenamedLess_39 rfl (lv_at hl 3 rfl) ?_
                refine lv_if_eq (tgt := 47) hx hb dX8_isRenamedLess_40 (by decide) (fun hc21 => ?_) (fun hc21 => ?_)
                · have hc21 := hc21
                  try rw [show (0 : Int32) = nI 0 from rfl] at hc21
                  try simp only [ge_iff_le, gt_iff_lt, ne_eq] at hc21
                  rw [nI_eq (by omega) (by omega)] at hc21
                  exact absurd hc21 (by omega)
                · have hc21 := hc21
                  try rw [show (0 : Int32) = nI 0 from rfl] at hc21
                  try simp only [ge_iff_le, gt_iff_lt, ne_eq] at hc21
                  rw [nI_eq (by omega) (by omega)] at hc21
                  refine lv_iload_n hx hb dX8_isRenamedLess_43 rfl (lv_at hl 4 rfl) ?_
                  refine lv_goto (tgt := 49) hx hb dX8_isRenamedLess_44 (by decide) ?_
                  have hPc := hP.sub (ws' := []) [] rfl
                  have hDc := hD.sub (ws' := []) [] (by decide) rfl
                  have hFc := va_free (wc := []) hD hS hA [] rfl
                  have hZc := (hNZ.kept hS.2.1).narrow hFc
                  have hTc := (hNT.kept hS.2.1).narrow hFc
                  refine va_calli (va_runS (As := [.int x1, .int (nI a2)]) (rest := []) ⟨hx, hb, hml, hown, hts⟩ (metX8_nameOf l dC dI cI cJ cC cZ cD nt ng H.size x1 ((nI a2))) (va_cwS 2 hts gX8_isRenamedLess_X8_nameOf rfl rfl rfl (by decide +kernel) ⟨Nat.le_of_ble_eq_true rfl, Nat.le_of_ble_eq_true rfl⟩) ⟨fun a U g mk q => by obtain ⟨q0, q1, qP, qK, qD, qZ, qT⟩ := q; exact ⟨q0, q1, qP, va_K.moved (u := U) (U := U.calling g mk a) (Vm.Alike.refl U.vm) qK, qD, va_Z.moved (u := U) (U := U.calling g mk a) (Vm.Alike.refl U.vm) qZ, va_T.moved (u := U) (U := U.calling g mk a) (Vm.Alike.refl U.vm) qT⟩, fun U hU hW => ⟨rfl, by rw [hU], by rw [hU]; exact hPc, va_K.moved hW.alike hK, hDc.weaken (fun _ _ _ _ => trivial), va_Z.moved hW.alike (by rw [hU]; exact hZc), va_T.moved hW.alike (by rw [hU]; exact hTc)⟩⟩ rfl rfl hl.1 rfl (lv_room (Nat.le_of_ble_eq_true rfl)) dX8_isRenamedLess_49 ⟨Nat.le_of_ble_eq_true rfl, Nat.le_of_ble_eq_true rfl⟩) hS (fun q _ h => hFc q h) hFc (fun r22 u t H1 locs ht hvm hw hB hz1 hk1 hS => ?_)
                  obtain ⟨hP1, hK1, hD1⟩ := hB
                  rw [ht] at hP1
                  try dsimp only at hP1 hD1 hw
                  obtain ⟨hP, hD⟩ := va_join (wr := [(h0, .inr (13, [.ref q1, .ref q2, .ref q3, .int (nI k)])), (q1, .inl (cI, 9, .inl f)), (q2, .inl (cI, 9, .inl gb)), (q3, .inl (cI, 8, .inl h))]) (w1 := []) hP hD [] [0, 1, 2, 3] rfl rfl (by decide) (by decide) hk1 hFc hP1 hD1
                  generalize H1 = H at hP hS ⊢
                  have hP : va_P (dC, dI) vwCl [(h0, .inr (13, [.ref q1, .ref q2, .ref q3, .int (nI k)])), (q1, .inl (cI, 9, .inl f)), (q2, .inl (cI, 9, .inl gb)), (q3, .inl (cI, 8, .inl h))] H := hP
                  have hD : va_D A [(h0, .inr (13, [.ref q1, .ref q2, .ref q3, .int (nI k)])), (q1, .inl (cI, 9, .inl f)), (q2, .inl (cI, 9, .inl gb)), (q3, .inl (cI, 8, .inl h))] := hD
                  refine lv_istore (lv' := [(6, .int r22), (5, .int r20), (0, .ref h0), (1, .int x1), (2, .int (nI mb)), (3, .int (nI a2)), (4, .int (nI b2))]) hx hb dX8_isRenamedLess_52 hl (by decide) rfl (fun ls hl => ?_)
                  refine lv_iload hx hb dX8_isRenamedLess_54 (lv_at hl 1 rfl) ?_
                  refine lv_aload_n hx hb dX8_isRenamedLess_56 rfl (lv_at hl 2 rfl) ?_
                  refine va_get (D := (dC, dI)) (ci := 13) (v := .int (nI k)) (C := RX8) (T := TX8) (N := 4) hx hb hts hinX8 hown hK hP 0 rfl rfl 3 (by decide) (hts (.fieldLink RX8 19 "Eggboxery$Tables" "side" "I") (by decide +kernel)) (fun _ h9 => h9) rfl dX8_isRenamedLess_57 ?_
                  refine lv_imul hx hb dX8_isRenamedLess_60 ?_
                  refine lv_topi (fun z23 _ => ?_)
                  refine lv_iload hx hb dX8_isRenamedLess_61 (lv_at hl 0 rfl) ?_
                  refine lv_iadd hx hb dX8_isRenamedLess_63 ?_
                  refine lv_topi (fun z24 _ => ?_)
                  refine lv_istore (lv' := [(7, .int z24), (6, .int r22), (5, .int r20), (0, .ref h0), (1, .int x1), (2, .int (nI mb)), (3, .int (nI a2)), (4, .int (nI b2))]) hx hb dX8_isRenamedLess_64 hl (by decide) rfl (fun ls hl => ?_)
                  refine lv_iload hx hb dX8_isRenamedLess_66 (lv_at hl 0 rfl) ?_
                  refine lv_if_lt (tgt := 99) hx hb dX8_isRenamedLess_68 (by decide) (fun cneg => ?_) (fun cneg => ?_)
                  · refine lv_iinc (v := (nI (b2 + 1))) (lv' := [(4, .int (nI (b2 + 1))), (7, .int z24), (6, .int r22), (5, .int r20), (0, .ref h0), (1, .int x1), (2, .int (nI mb)), (3, .int (nI a2))]) hx hb dX8_isRenamedLess_99 hl (k := 7) rfl (by rw [show Int32.ofInt 1 = (1 : Int32) from rfl]; exact nI_1 _) (by decide) rfl (fun ls hl => ?_)
                    refine lv_goto (tgt := 13) hx hb dX8_isRenamedLess_102 (by decide) ?_
                    exact ihL2 (b2 + 1) gb H locs _ (by omega) (by omega)  hP hD hS (lv_sub hl [4, 5, 6, 7, 0] rfl)
                  · refine lv_iload hx hb dX8_isRenamedLess_71 (lv_at hl 0 rfl) ?_
                    refine lv_aload_n hx hb dX8_isRenamedLess_73 rfl (lv_at hl 3 rfl) ?_
                    refine va_get (D := (dC, dI)) (ci := 13) (v := .ref q2) (C := RX8) (T := TX8) (N := 4) hx hb hts hinX8 hown hK hP 0 rfl rfl 1 (by decide) (hts (.fieldLink RX8 13 "Eggboxery$Tables" "renamed" "[I") (by decide +kernel)) (fun _ h9 => h9) rfl dX8_isRenamedLess_74 ?_
                    refine va_alen (v := nI (9)) hx hb hK hP 2 0 rfl rfl rfl dX8_isRenamedLess_77 ?_
                    refine lv_icmp_ge (tgt := 99) hx hb dX8_isRenamedLess_78 (by decide) (fun clen => ?_) (fun clen => ?_)
                    · refine lv_iinc (v := (nI (b2 + 1))) (lv' := [(4, .int (nI (b2 + 1))), (7, .int z24), (6, .int r22), (5, .int r20), (0, .ref h0), (1, .int x1), (2, .int (nI mb)), (3, .int (nI a2))]) hx hb dX8_isRenamedLess_99 hl (k := 7) rfl (by rw [show Int32.ofInt 1 = (1 : Int32) from rfl]; exact nI_1 _) (by decide) rfl (fun ls hl => ?_)
                      refine lv_goto (tgt := 13) hx hb dX8_isRenamedLess_102 (by decide) ?_
                      exact ihL2 (b2 + 1) gb H locs _ (by omega) (by omega)  hP hD hS (lv_sub hl [4, 5, 6, 7, 0] rfl)
                    · have hin0 := in_of (n := 9) (by omega) cneg clen
                      refine lv_aload_n hx hb dX8_isRenamedLess_81 rfl (lv_at hl 3 rfl) ?_
                      refine va_get (D := (dC, dI)) (ci := 13) (v := .ref q2) (C := RX8) (T := TX8) (N := 4) hx hb hts hinX8 hown hK hP 0 rfl rfl 1 (by decide) (hts (.fieldLink RX8 13 "Eggboxery$Tables" "renamed" "[I") (by decide +kernel)) (fun _ h9 => h9) rfl dX8_isRenamedLess_82 ?_
                      refine lv_iload hx hb dX8_isRenamedLess_85 (lv_at hl 0 rfl) ?_
                      refine lv_iload_n hx hb dX8_isRenamedLess_87 rfl (lv_at hl 4 rfl) ?_
                      refine lv_aload_n hx hb dX8_isRenamedLess_88 rfl (lv_at hl 3 rfl) ?_
                      refine lv_iload_n hx hb dX8_isRenamedLess_89 rfl (lv_at hl 6 rfl) ?_
                      refine lv_iload hx hb dX8_isRenamedLess_90 (lv_at hl 7 rfl) ?_
                      have hPc := hP.sub (ws' := [(h0, .inr (13, [.ref q1, .ref q2, .ref q3, .int (nI k)])), (q1, .inl (cI, 9, .inl f)), (q2, .inl (cI, 9, .inl gb)), (q3, .inl (cI, 8, .inl h))]) [0, 1, 2, 3] rfl
                      have hDc := hD.sub (ws' := [(h0, .inr (13, [.ref q1, .ref q2, .ref q3, .int (nI k)])), (q1, .inl (cI, 9, .inl f)), (q2, .inl (cI, 9, .inl gb)), (q3, .inl (cI, 8, .inl h))]) [0, 1, 2, 3] (by decide) rfl
                      have hFc := va_free (wc := [(h0, .inr (13, [.ref q1, .ref q2, .ref q3, .int (nI k)])), (q1, .inl (cI, 9, .inl f)), (q2, .inl (cI, 9, .inl gb)), (q3, .inl (cI, 8, .inl h))]) hD hS hA [0, 1, 2, 3] rfl
                      refine va_calli (va_runV (As := [.int (nI a2), .int (nI b2)]) (rest := [.int x1, .int z24, .ref q2]) ⟨hx, hb, hml, hown, hts⟩ (metX8_cellAt l dC dI cI cJ cC cZ cD H.size h0 q1 q2 q3 f gb h (nI k) (nI a2) (nI b2)) (cwV 2 hts gX8_isRenamedLess_X8_cellAt rfl rfl rfl (by decide +kernel) ⟨Nat.le_of_ble_eq_true rfl, Nat.le_of_ble_eq_true rfl⟩) ⟨fun a U g mk q => by obtain ⟨q0, q1, qP, qK, qD⟩ := q; exact ⟨q0, q1, qP, va_K.moved (u := U) (U := U.calling g mk a) (Vm.Alike.refl U.vm) qK, qD⟩, va_recv hK hPc (ci := 13) (q0 := 0) rfl rfl, fun U hU hW => ⟨rfl, by rw [hU], by rw [hU]; exact hPc, va_K.moved hW.alike hK, hDc.weaken (fun _ _ _ _ => trivial)⟩⟩ rfl rfl hl.1 rfl (lv_room (Nat.le_of_ble_eq_true rfl)) dX8_isRenamedLess_92 ⟨Nat.le_of_ble_eq_true rfl, Nat.le_of_ble_eq_true rfl⟩) hS (fun q _ h => hFc q h) hFc (fun r25 u t H1 locs ht hvm hw hB hz1 hk1 hS => ?_)
                      obtain ⟨hP1, hK1, hD1⟩ := hB
                      rw [ht] at hP1
                      try dsimp only at hP1 hD1 hw
                      obtain ⟨hP, hD⟩ := va_join (wr := []) (w1 := [(h0, .inr (13, [.ref q1, .ref q2, .ref q3, .int (nI k)])), (q1, .inl (cI, 9, .inl f)), (q2, .inl (cI, 9, .inl gb)), (q3, .inl (cI, 8, .inl h))]) hP hD [0, 1, 2, 3] [] rfl rfl (by decide) (by decide) hk1 hFc hP1 hD1
                      generalize H1 = H at hP hS ⊢
                      have hP : va_P (dC, dI) vwCl [(h0, .inr (13, [.ref q1, .ref q2, .ref q3, .int (nI k)])), (q1, .inl (cI, 9, .inl f)), (q2, .inl (cI, 9, .inl gb)), (q3, .inl (cI, 8, .inl h))] H := hP
                      have hD : va_D A [(h0, .inr (13, [.ref q1, .ref q2, .ref q3, .int (nI k)])), (q1, .inl (cI, 9, .inl f)), (q2, .inl (cI, 9, .inl gb)), (q3, .inl (cI, 8, .inl h))] := hD
                      have hPc := hP.sub (ws' := []) [] rfl
                      have hDc := hD.sub (ws' := []) [] (by decide) rfl
                      have hFc := va_free (wc := []) hD hS hA [] rfl
                      have hZc := (hNZ.kept hS.2.1).narrow hFc
                      have hTc := (hNT.kept hS.2.1).narrow hFc
                      refine va_calli (va_runS (As := [.int x1, .int r25]) (rest := [.int z24, .ref q2]) ⟨hx, hb, hml, hown, hts⟩ (metX8_nameOf l dC dI cI cJ cC cZ cD nt ng H.size x1 r25) (va_cwS 2 hts gX8_isRenamedLess_X8_nameOf rfl rfl rfl (by decide +kernel) ⟨Nat.le_of_ble_eq_true rfl, Nat.le_of_ble_eq_true rfl⟩) ⟨fun a U g mk q => by obtain ⟨q0, q1, qP, qK, qD, qZ, qT⟩ := q; exact ⟨q0, q1, qP, va_K.moved (u := U) (U := U.calling g mk a) (Vm.Alike.refl U.vm) qK, qD, va_Z.moved (u := U) (U := U.calling g mk a) (Vm.Alike.refl U.vm) qZ, va_T.moved (u := U) (U := U.calling g mk a) (Vm.Alike.refl U.vm) qT⟩, fun U hU hW => ⟨rfl, by rw [hU], by rw [hU]; exact hPc, va_K.moved hW.alike hK, hDc.weaken (fun _ _ _ _ => trivial), va_Z.moved hW.alike (by rw [hU]; exact hZc), va_T.moved hW.alike (by rw [hU]; exact hTc)⟩⟩ rfl rfl hl.1 rfl (lv_room (Nat.le_of_ble_eq_true rfl)) dX8_isRenamedLess_95 ⟨Nat.le_of_ble_eq_true rfl, Nat.le_of_ble_eq_true rfl⟩) hS (fun q _ h => hFc q h) hFc (fun r26 u t H1 locs ht hvm hw hB hz1 hk1 hS => ?_)
                      obtain ⟨hP1, hK1, hD1⟩ := hB
                      rw [ht] at hP1
                      try dsimp only at hP1 hD1 hw
                      obtain ⟨hP, hD⟩ := va_join (wr := [(h0, .inr (13, [.ref q1, .ref q2, .ref q3, .int (nI k)])), (q1, .inl (cI, 9, .inl f)), (q2, .inl (cI, 9, .inl gb)), (q3, .inl (cI, 8, .inl h))]) (w1 := []) hP hD [] [0, 1, 2, 3] rfl rfl (by decide) (by decide) hk1 hFc hP1 hD1
                      generalize H1 = H at hP hS ⊢
                      have hP : va_P (dC, dI) vwCl [(h0, .inr (13, [.ref q1, .ref q2, .ref q3, .int (nI k)])), (q1, .inl (cI, 9, .inl f)), (q2, .inl (cI, 9, .inl gb)), (q3, .inl (cI, 8, .inl h))] H := hP
                      have hD : va_D A [(h0, .inr (13, [.ref q1, .ref q2, .ref q3, .int (nI k)])), (q1, .inl (cI, 9, .inl f)), (q2, .inl (cI, 9, .inl gb)), (q3, .inl (cI, 8, .inl h))] := hD
                      refine va_iast hx hb hK hP hD hS 2 0 rfl rfl hin0 dX8_isRenamedLess_98 (fun H locs hP hD hS => ?_)
                      obtain ⟨g27, eg27⟩ : ∃ z, z = upd gb (z24).toNatClampNeg r26 := ⟨_, rfl⟩
                      have hP : va_P (dC, dI) vwCl [(h0, .inr (13, [.ref q1, .ref q2, .ref q3, .int (nI k)])), (q1, .inl (cI, 9, .inl f)), (q2, .inl (cI, 9, .inl g27)), (q3, .inl (cI, 8, .inl h))] H := by rw [eg27]; exact hP
                      have hD : va_D A [(h0, .inr (13, [.ref q1, .ref q2, .ref q3, .int (nI k)])), (q1, .inl (cI, 9, .inl f)), (q2, .inl (cI, 9, .inl g27)), (q3, .inl (cI, 8, .inl h))] := by rw [eg27]; exact hD
                      refine lv_iinc (v := (nI (b2 + 1))) (lv' := [(4, .int (nI (b2 + 1))), (7, .int z24), (6, .int r22), (5, .int r20), (0, .ref h0), (1, .int x1), (2, .int (nI mb)), (3, .int (nI a2))]) hx hb dX8_isRenamedLess_99 hl (k := 7) rfl (by rw [show Int32.ofInt 1 = (1 : Int32) from rfl]; exact nI_1 _) (by decide) rfl (fun ls hl => ?_)
                      refine lv_goto (tgt := 13) hx hb dX8_isRenamedLess_102 (by decide) ?_
                      exact ihL2 (b2 + 1) g27 H locs _ (by omega) (by omega)  hP hD hS (lv_sub hl [4, 5, 6, 7, 0] rfl)
        exact L2 (k + 1) 0 ga H locs _ (by omega) (by omega)  hP hD hS (lv_sub hl [1, 2, 3, 4, 0] rfl)
  exact L1 (k + 1) 0 g s.heap [] _ (by omega) (by omega)  hP hD hS (lv_sub hl [1, 2, 3, 0] rfl)
set_option maxHeartbeats 4000000 in
set_option maxRecDepth 100000 in
theorem metX8_isFirstOfAlike (l : Launch) (dC : Nat → ClassId) (dI : Nat → Nat → Nat) (cI cJ cC cZ cD : ClassId) (nt : Nat) (ng : Nat → Int32) (sz : Nat) (h0 q1 q2 q3 : Nat) (f g h : Nat → Int32) (k : Nat) (mi : Int32) (hk : k ≤ 3) (hkk : k * k ≤ 9) : Met l yX8_isFirstOfAlike wsX8_isFirstOfAlike ({ frames := 2, cells := 0, slots := 0, locals := 50 }) (va_Pc [.ref h0, .int mi] (fun U => U.heap.size = sz ∧ va_P (dC, dI) vwCl [(h0, .inr (13, [.ref q1, .ref q2, .ref q3, .int (nI k)])), (q1, .inl (cI, 9, .inl f)), (q2, .inl (cI, 9, .inl g)), (q3, .inl (cI, 8, .inl h))] U.heap ∧ va_K (dC, dI) vwCl [(cI, .int), (cJ, .long), (cC, .char), (cZ, .boolean), (cD, .double)] U ∧ va_D (fun _ => True) [(h0, .inr (13, [.ref q1, .ref q2, .ref q3, .int (nI k)])), (q1, .inl (cI, 9, .inl f)), (q2, .inl (cI, 9, .inl g)), (q3, .inl (cI, 8, .inl h))] ∧ va_Z RX8 "NAMES" "[I" (.ref nt) (va_A [(h0, .inr (13, [.ref q1, .ref q2, .ref q3, .int (nI k)])), (q1, .inl (cI, 9, .inl f)), (q2, .inl (cI, 9, .inl g)), (q3, .inl (cI, 8, .inl h))] sz) U U.heap ∧ va_T .int nt 18 (fun j => .int (ng j)) (va_A [(h0, .inr (13, [.ref q1, .ref q2, .ref q3, .int (nI k)])), (q1, .inl (cI, 9, .inl f)), (q2, .inl (cI, 9, .inl g)), (q3, .inl (cI, 8, .inl h))] sz) U U.heap)) (va_Qi (fun (r : Int32) (u : (Nat → Int32)) => True) (fun (u : (Nat → Int32)) (t : State) => va_P (dC, dI) vwCl [(h0, .inr (13, [.ref q1, .ref q2, .ref q3, .int (nI k)])), (q1, .inl (cI, 9, .inl f)), (q2, .inl (cI, 9, .inl u)), (q3, .inl (cI, 8, .inl h))] t.heap ∧ va_K (dC, dI) vwCl [(cI, .int), (cJ, .long), (cC, .char), (cZ, .boolean), (cD, .double)] t ∧ va_D (va_A [(h0, .inr (13, [.ref q1, .ref q2, .ref q3, .int (nI k)])), (q1, .inl (cI, 9, .inl f)), (q2, .inl (cI, 9, .inl g)), (q3, .inl (cI, 8, .inl h))] sz) [(h0, .inr (13, [.ref q1, .ref q2, .ref q3, .int (nI k)])), (q1, .inl (cI, 9, .inl f)), (q2, .inl (cI, 9, .inl u)), (q3, .inl (cI, 8, .inl h))]) (va_A [(h0, .inr (13, [.ref q1, .ref q2, .ref q3, .int (nI k)])), (q1, .inl (cI, 9, .inl f)), (q2, .inl (cI, 9, .inl g)), (q3, .inl (cI, 8, .inl h))] sz)) 0 0 (va_A [(h0, .inr (13, [.ref q1, .ref q2, .ref q3, .int (nI k)])), (q1, .inl (cI, 9, .inl f)), (q2, .inl (cI, 9, .inl g)), (q3, .inl (cI, 8, .inl h))] sz) := by
  refine Met.ofW (cc := cX8_isFirstOfAlike) (maxL := 3) (ret := (some .boolean)) (by decide) rfl ?_
  intro p e s m args below meth c s₁ B hml hv
  obtain ⟨rfl, hsz, hP, hK, hD0, hNZ, hNT⟩ := hv
  have hx := B.exec
  have hb := B.bytes
  have hr := B.returns
  have hts := atoms_spec (ws := wsX8_isFirstOfAlike) B.pre
  have hown : s.vm.findClass RX8 = some m.cls := findClass_of_methodNamed B.named
  have hlocks := B.notSynchronized
  subst hsz
  have hD := hD0.self (sz := s.heap.size)
  generalize hAe : va_A [(h0, .inr (13, [.ref q1, .ref q2, .ref q3, .int (nI k)])), (q1, .inl (cI, 9, .inl f)), (q2, .inl (cI, 9, .inl g)), (q3, .inl (cI, 8, .inl h))] s.heap.size = A at hD hNZ hNT ⊢
  have hA : ∀ q : Nat, s.heap.size ≤ q → A q := fun q h => by rw [← hAe]; exact Or.inr h
  have hS : va_S A s.heap s.heap [] := va_S.rf
  have hP : va_P (dC, dI) vwCl [(h0, .inr (13, [.ref q1, .ref q2, .ref q3, .int (nI k)])), (q1, .inl (cI, 9, .inl f)), (q2, .inl (cI, 9, .inl g)), (q3, .inl (cI, 8, .inl h))] s.heap := hP
  have hl := lv_entry ([.ref h0, .int mi]) (n := 3) (Nat.le_of_ble_eq_true rfl)
  rw [lg_entry_eq]
  generalize (lg_sl ([.ref h0, .int mi]) ++ List.replicate (3 - (lg_sl ([.ref h0, .int mi])).length) Slot.unset).toArray = ls at hl ⊢
  have hinX8 : ∀ w ∈ wsX80, w ∈ wsX8_isFirstOfAlike := by decide +kernel
  have hl : lv_has ls 3 [(0, .ref h0), (1, .int mi)] := hl
  refine lv_iconst (v := (nI 0)) hx hb dX8_isFirstOfAlike_0 (by decide) ?_
  refine lv_istore_n (lv' := [(2, .int (nI 0)), (0, .ref h0), (1, .int mi)]) hx hb dX8_isFirstOfAlike_1 rfl hl (by decide) rfl (fun ls hl => ?_)
  have L1 : ∀ (n i1 : Nat) (ga : Nat → Int32) (x2 : Nat) (H : Heap) (locs : List Loc) (ls : Array Slot), i1 ≤ 6 → 6 + 1 ≤ i1 + n → x2 = 3 * i1 → va_P (dC, dI) vwCl [(h0, .inr (13, [.ref q1, .ref q2, .ref q3, .int (nI k)])), (q1, .inl (cI, 9, .inl f)), (q2, .inl (cI, 9, .inl ga)), (q3, .inl (cI, 8, .inl h))] H → va_D A [(h0, .inr (13, [.ref q1, .ref q2, .ref q3, .int (nI k)])), (q1, .inl (cI, 9, .inl f)), (q2, .inl (cI, 9, .inl ga)), (q3, .inl (cI, 8, .inl h))] → va_S A s.heap H locs → lv_has ls 3 [(0, .ref h0), (1, .int mi), (2, .int (nI x2))] → W p l e (headSpec wsX8_isFirstOfAlike ({ frames := 2, cells := 0, slots := 0, locals := 50 })).room s m ([.ref h0, .int mi]).toArray below meth c H locs 0 0 (MQ below (va_Qi (fun (r : Int32) (u : (Nat → Int32)) => True) (fun (u : (Nat → Int32)) (t : State) => va_P (dC, dI) vwCl [(h0, .inr (13, [.ref q1, .ref q2, .ref q3, .int (nI k)])), (q1, .inl (cI, 9, .inl f)), (q2, .inl (cI, 9, .inl u)), (q3, .inl (cI, 8, .inl h))] t.heap ∧ va_K (dC, dI) vwCl [(cI, .int), (cJ, .long), (cC, .char), (cZ, .boolean), (cD, .double)] t ∧ va_D A [(h0, .inr (13, [.ref q1, .ref q2, .ref q3, .int (nI k)])), (q1, .inl (cI, 9, .inl f)), (q2, .inl (cI, 9, .inl u)), (q3, .inl (cI, 8, .inl h))]) A) ([.ref h0, .int mi]).toArray s 0 0 A) (F0 m 2 ls []) := by
    intro n
    induction n with
    | zero =>
      intro i1 ga x2 H locs ls h1 h2
      exact absurd h2 (by omega)
    | succ n ih =>
      intro i1 ga x2 H locs ls hii1 hni1 ex hP hD hS hl
      have ihL1 := ih
      clear ih
      refine lv_iload_n hx hb dX8_isFirstOfAlike_2 rfl (lv_at hl 2 rfl) ?_
      refine lv_iconst (v := (nI 3)) hx hb dX8_isFirstOfAlike_3 (by decide) ?_
      refine lv_iadd hx hb dX8_isFirstOfAlike_4 ?_
      refine lv_topi (nm_r (e' := nI (x2 + 3)) (nI_add _ _) ?_)
      refine va_gets hx hb hNZ hS hown (hts (.fieldLink RX8 48 "Eggboxery$Tables" "NAMES" "[I") (by decide +kernel)) (fun _ h9 => h9) dX8_isFirstOfAlike_5 ?_
      refine va_tlen (v := nI 18) hx hb hNT hS rfl dX8_isFirstOfAlike_8 ?_
      refine lv_icmp_gt (tgt := 50) hx hb dX8_isFirstOfAlike_9 (by decide) (fun hc1 => ?_) (fun hc1 => ?_)
      · try simp only [ge_iff_le, gt_iff_lt, ne_eq] at hc1
        rw [nI_ltI (by omega) (by omega)] at hc1
        refine lv_iconst (v := (nI 1)) hx hb dX8_isFirstOfAlike_50 (by decide) ?_
        have hP9 := hP.sub (ws' := [(h0, .inr (13, [.ref q1, .ref q2, .ref q3, .int (nI k)])), (q1, .inl (cI, 9, .inl f)), (q2, .inl (cI, 9, .inl ga)), (q3, .inl (cI, 8, .inl h))]) [0, 1, 2, 3] rfl
        have hD9 := hD.sub (ws' := [(h0, .inr (13, [.ref q1, .ref q2, .ref q3, .int (nI k)])), (q1, .inl (cI, 9, .inl f)), (q2, .inl (cI, 9, .inl ga)), (q3, .inl (cI, 8, .inl h))]) [0, 1, 2, 3] (by decide) rfl
        exact W.zret (ty := .boolean) (v := (nI 1)) hx hb hr (by decide) (fun t ht hW => ⟨⟨(nI 1), ga, rfl, trivial, by rw [ht]; exact hP9, va_K.moved hW.alike hK, hD9⟩, hS.F ht⟩) hS.2.2 dX8_isFirstOfAlike_51
      · try simp only [ge_iff_le, gt_iff_lt, ne_eq] at hc1
        rw [nI_ltI (by omega) (by omega)] at hc1
        refine lv_aload_n hx hb dX8_isFirstOfAlike_12 rfl (lv_at hl 0 rfl) ?_
        refine lv_iload_n hx hb dX8_isFirstOfAlike_13 rfl (lv_at hl 2 rfl) ?_
        have hPc := hP.sub (ws' := [(h0, .inr (13, [.ref q1, .ref q2, .ref q3, .int (nI k)])), (q1, .inl (cI, 9, .inl f)), (q2, .inl (cI, 9, .inl ga)), (q3, .inl (cI, 8, .inl h))]) [0, 1, 2, 3] rfl
        have hDc := hD.sub (ws' := [(h0, .inr (13, [.ref q1, .ref q2, .ref q3, .int (nI k)])), (q1, .inl (cI, 9, .inl f)), (q2, .inl (cI, 9, .inl ga)), (q3, .inl (cI, 8, .inl h))]) [0, 1, 2, 3] (by decide) rfl
        have hFc := va_free (wc := [(h0, .inr (13, [.ref q1, .ref q2, .ref q3, .int (nI k)])), (q1, .inl (cI, 9, .inl f)), (q2, .inl (cI, 9, .inl ga)), (q3, .inl (cI, 8, .inl h))]) hD hS hA [0, 1, 2, 3] rfl
        have hZc := (hNZ.kept hS.2.1).narrow hFc
        have hTc := (hNT.kept hS.2.1).narrow hFc
        refine va_calli (va_runV (As := [.int (nI x2)]) (rest := []) ⟨hx, hb, hml, hown, hts⟩ (metX8_areNamesInside l dC dI cI cJ cC cZ cD nt ng H.size h0 q1 q2 q3 f ga h k (nI x2) hk) (cwV 1 hts gX8_isFirstOfAlike_X8_areNamesInside rfl rfl rfl (by decide +kernel) ⟨Nat.le_of_ble_eq_true rfl, Nat.le_of_ble_eq_true rfl⟩) ⟨fun a U g mk q => by obtain ⟨q0, q1, qP, qK, qD, qZ, qT⟩ := q; exact ⟨q0, q1, qP, va_K.moved (u := U) (U := U.calling g mk a) (Vm.Alike.refl U.vm) qK, qD, va_Z.moved (u := U) (U := U.calling g mk a) (Vm.Alike.refl U.vm) qZ, va_T.moved (u := U) (U := U.calling g mk a) (Vm.Alike.refl U.vm) qT⟩, va_recv hK hPc (ci := 13) (q0 := 0) rfl rfl, fun U hU hW => ⟨rfl, by rw [hU], by rw [hU]; exact hPc, va_K.moved hW.alike hK, hDc.weaken (fun _ _ _ _ => trivial), va_Z.moved hW.alike (by rw [hU]; exact hZc), va_T.moved hW.alike (by rw [hU]; exact hTc)⟩⟩ rfl rfl hl.1 rfl (lv_room (Nat.le_of_ble_eq_true rfl)) dX8_isFirstOfAlike_14 ⟨Nat.le_of_ble_eq_true rfl, Nat.le_of_ble_eq_true rfl⟩) hS (fun q _ h => hFc q h) hFc (fun r2 u t H1 locs ht hvm hw hB hz1 hk1 hS => ?_)
        obtain ⟨hP1, hK1, hD1⟩ := hB
        rw [ht] at hP1
        try dsimp only at hP1 hD1 hw
        obtain ⟨hP, hD⟩ := va_join (wr := []) (w1 := [(h0, .inr (13, [.ref q1, .ref q2, .ref q3, .int (nI k)])), (q1, .inl (cI, 9, .inl f)), (q2, .inl (cI, 9, .inl ga)), (q3, .inl (cI, 8, .inl h))]) hP hD [0, 1, 2, 3] [] rfl rfl (by decide) (by decide) hk1 hFc hP1 hD1
        generalize H1 = H at hP hS ⊢
        have hP : va_P (dC, dI) vwCl [(h0, .inr (13, [.ref q1, .ref q2, .ref q3, .int (nI k)])), (q1, .inl (cI, 9, .inl f)), (q2, .inl (cI, 9, .inl ga)), (q3, .inl (cI, 8, .inl h))] H := hP
        have hD : va_D A [(h0, .inr (13, [.ref q1, .ref q2, .ref q3, .int (nI k)])), (q1, .inl (cI, 9, .inl f)), (q2, .inl (cI, 9, .inl ga)), (q3, .inl (cI, 8, .inl h))] := hD
        refine lv_if_eq (tgt := 44) hx hb dX8_isFirstOfAlike_17 (by decide) (fun hc3 => ?_) (fun hc3 => ?_)
        · refine lv_iinc (v := (nI (x2 + 3))) (lv' := [(2, .int (nI (x2 + 3))), (0, .ref h0), (1, .int mi)]) hx hb dX8_isFirstOfAlike_44 hl (k := 2) rfl (by rw [show Int32.ofInt 3 = nI 3 from rfl]; exact nI_add _ _) (by decide) rfl (fun ls hl => ?_)
          refine lv_goto (tgt := 2) hx hb dX8_isFirstOfAlike_47 (by decide) ?_
          exact ihL1 (i1 + 1) ga (x2 + 3) H locs _ (by omega) (by omega) (by omega) hP hD hS (lv_sub hl [1, 2, 0] rfl)
        · refine lv_aload_n hx hb dX8_isFirstOfAlike_20 rfl (lv_at hl 0 rfl) ?_
          refine lv_iload_n hx hb dX8_isFirstOfAlike_21 rfl (lv_at hl 2 rfl) ?_
          refine lv_iconst (v := (nI 0)) hx hb dX8_isFirstOfAlike_22 (by decide) ?_
          have hPc := hP.sub (ws' := [(h0, .inr (13, [.ref q1, .ref q2, .ref q3, .int (nI k)])), (q1, .inl (cI, 9, .inl f)), (q2, .inl (cI, 9, .inl ga)), (q3, .inl (cI, 8, .inl h))]) [0, 1, 2, 3] rfl
          have hDc := hD.sub (ws' := [(h0, .inr (13, [.ref q1, .ref q2, .ref q3, .int (nI k)])), (q1, .inl (cI, 9, .inl f)), (q2, .inl (cI, 9, .inl ga)), (q3, .inl (cI, 8, .inl h))]) [0, 1, 2, 3] (by decide) rfl
          have hFc := va_free (wc := [(h0, .inr (13, [.ref q1, .ref q2, .ref q3, .int (nI k)])), (q1, .inl (cI, 9, .inl f)), (q2, .inl (cI, 9, .inl ga)), (q3, .inl (cI, 8, .inl h))]) hD hS hA [0, 1, 2, 3] rfl
          have hZc := (hNZ.kept hS.2.1).narrow hFc
          have hTc := (hNT.kept hS.2.1).narrow hFc
          refine va_calli (va_runV (As := [.int (nI x2), .int (nI 0)]) (rest := []) ⟨hx, hb, hml, hown, hts⟩ (metX8_isRenamedLess l dC dI cI cJ cC cZ cD nt ng H.size h0 q1 q2 q3 f ga h k 0 (nI x2) hk hkk (by omega)) (cwV 2 hts gX8_isFirstOfAlike_X8_isRenamedLess rfl rfl rfl (by decide +kernel) ⟨Nat.le_of_ble_eq_true rfl, Nat.le_of_ble_eq_true rfl⟩) ⟨fun a U g mk q => by obtain ⟨q0, q1, qP, qK, qD, qZ, qT⟩ := q; exact ⟨q0, q1, qP, va_K.moved (u := U) (U := U.calling g mk a) (Vm.Alike.refl U.vm) qK, qD, va_Z.moved (u := U) (U := U.calling g mk a) (Vm.Alike.refl U.vm) qZ, va_T.moved (u := U) (U := U.calling g mk a) (Vm.Alike.refl U.vm) qT⟩, va_recv hK hPc (ci := 13) (q0 := 0) rfl rfl, fun U hU hW => ⟨rfl, by rw [hU], by rw [hU]; exact hPc, va_K.moved hW.alike hK, hDc.weaken (fun _ _ _ _ => trivial), va_Z.moved hW.alike (by rw [hU]; exact hZc), va_T.moved hW.alike (by rw [hU]; exact hTc)⟩⟩ rfl rfl hl.1 rfl (lv_room (Nat.le_of_ble_eq_true rfl)) dX8_isFirstOfAlike_23 ⟨Nat.le_of_ble_eq_true rfl, Nat.le_of_ble_eq_true rfl⟩) hS (fun q _ h => hFc q h) hFc (fun r4 u t H1 locs ht hvm hw hB hz1 hk1 hS => ?_)
          obtain ⟨g5, rfl⟩ : ∃ z, z = u := ⟨_, rfl⟩
          obtain ⟨hP1, hK1, hD1⟩ := hB
          rw [ht] at hP1
          try dsimp only at hP1 hD1 hw
          obtain ⟨hP, hD⟩ := va_join (wr := []) (w1 := [(h0, .inr (13, [.ref q1, .ref q2, .ref q3, .int (nI k)])), (q1, .inl (cI, 9, .inl f)), (q2, .inl (cI, 9, .inl g5)), (q3, .inl (cI, 8, .inl h))]) hP hD [0, 1, 2, 3] [] rfl rfl (by decide) (by decide) hk1 hFc hP1 hD1
          generalize H1 = H at hP hS ⊢
          have hP : va_P (dC, dI) vwCl [(h0, .inr (13, [.ref q1, .ref q2, .ref q3, .int (nI k)])), (q1, .inl (cI, 9, .inl f)), (q2, .inl (cI, 9, .inl g5)), (q3, .inl (cI, 8, .inl h))] H := hP
          have hD : va_D A [(h0, .inr (13, [.ref q1, .ref q2, .ref q3, .int (nI k)])), (q1, .inl (cI, 9, .inl f)), (q2, .inl (cI, 9, .inl g5)), (q3, .inl (cI, 8, .inl h))] := hD
          refine lv_if_ne (tgt := 42) hx hb dX8_isFirstOfAlike_26 (by decide) (fun hc6 => ?_) (fun hc6 => ?_)
          · refine lv_iconst (v := (nI 0)) hx hb dX8_isFirstOfAlike_42 (by decide) ?_
            have hP9 := hP.sub (ws' := [(h0, .inr (13, [.ref q1, .ref q2, .ref q3, .int (nI k)])), (q1, .inl (cI, 9, .inl f)), (q2, .inl (cI, 9, .inl g5)), (q3, .inl (cI, 8, .inl h))]) [0, 1, 2, 3] rfl
            have hD9 := hD.sub (ws' := [(h0, .inr (13, [.ref q1, .ref q2, .ref q3, .int (nI k)])), (q1, .inl (cI, 9, .inl f)), (q2, .inl (cI, 9, .inl g5)), (q3, .inl (cI, 8, .inl h))]) [0, 1, 2, 3] (by decide) rfl
            exact W.zret (ty := .boolean) (v := (nI 0)) hx hb hr (by decide) (fun t ht hW => ⟨⟨(nI 0), g5, rfl, trivial, by rw [ht]; exact hP9, va_K.moved hW.alike hK, hD9⟩, hS.F ht⟩) hS.2.2 dX8_isFirstOfAlike_43
          · refine lv_iload_n hx hb dX8_isFirstOfAlike_29 rfl (lv_at hl 1 rfl) ?_
            refine lv_if_eq (tgt := 44) hx hb dX8_isFirstOfAlike_30 (by decide) (fun hc7 => ?_) (fun hc7 => ?_)
            · refine lv_iinc (v := (nI (x2 + 3))) (lv' := [(2, .int (nI (x2 + 3))), (0, .ref h0), (1, .int mi)]) hx hb dX8_isFirstOfAlike_44 hl (k := 2) rfl (by rw [show Int32.ofInt 3 = nI 3 from rfl]; exact nI_add _ _) (by decide) rfl (fun ls hl => ?_)
              refine lv_goto (tgt := 2) hx hb dX8_isFirstOfAlike_47 (by decide) ?_
              exact ihL1 (i1 + 1) g5 (x2 + 3) H locs _ (by omega) (by omega) (by omega) hP hD hS (lv_sub hl [1, 2, 0] rfl)
            · refine lv_aload_n hx hb dX8_isFirstOfAlike_33 rfl (lv_at hl 0 rfl) ?_
              refine lv_iload_n hx hb dX8_isFirstOfAlike_34 rfl (lv_at hl 2 rfl) ?_
              refine lv_iconst (v := (nI 1)) hx hb dX8_isFirstOfAlike_35 (by decide) ?_
              have hPc := hP.sub (ws' := [(h0, .inr (13, [.ref q1, .ref q2, .ref q3, .int (nI k)])), (q1, .inl (cI, 9, .inl f)), (q2, .inl (cI, 9, .inl g5)), (q3, .inl (cI, 8, .inl h))]) [0, 1, 2, 3] rfl
              have hDc := hD.sub (ws' := [(h0, .inr (13, [.ref q1, .ref q2, .ref q3, .int (nI k)])), (q1, .inl (cI, 9, .inl f)), (q2, .inl (cI, 9, .inl g5)), (q3, .inl (cI, 8, .inl h))]) [0, 1, 2, 3] (by decide) rfl
              have hFc := va_free (wc := [(h0, .inr (13, [.ref q1, .ref q2, .ref q3, .int (nI k)])), (q1, .inl (cI, 9, .inl f)), (q2, .inl (cI, 9, .inl g5)), (q3, .inl (cI, 8, .inl h))]) hD hS hA [0, 1, 2, 3] rfl
              have hZc := (hNZ.kept hS.2.1).narrow hFc
              have hTc := (hNT.kept hS.2.1).narrow hFc
              refine va_calli (va_runV (As := [.int (nI x2), .int (nI 1)]) (rest := []) ⟨hx, hb, hml, hown, hts⟩ (metX8_isRenamedLess l dC dI cI cJ cC cZ cD nt ng H.size h0 q1 q2 q3 f g5 h k 1 (nI x2) hk hkk (by omega)) (cwV 2 hts gX8_isFirstOfAlike_X8_isRenamedLess rfl rfl rfl (by decide +kernel) ⟨Nat.le_of_ble_eq_true rfl, Nat.le_of_ble_eq_true rfl⟩) ⟨fun a U g mk q => by obtain ⟨q0, q1, qP, qK, qD, qZ, qT⟩ := q; exact ⟨q0, q1, qP, va_K.moved (u := U) (U := U.calling g mk a) (Vm.Alike.refl U.vm) qK, qD, va_Z.moved (u := U) (U := U.calling g mk a) (Vm.Alike.refl U.vm) qZ, va_T.moved (u := U) (U := U.calling g mk a) (Vm.Alike.refl U.vm) qT⟩, va_recv hK hPc (ci := 13) (q0 := 0) rfl rfl, fun U hU hW => ⟨rfl, by rw [hU], by rw [hU]; exact hPc, va_K.moved hW.alike hK, hDc.weaken (fun _ _ _ _ => trivial), va_Z.moved hW.alike (by rw [hU]; exact hZc), va_T.moved hW.alike (by rw [hU]; exact hTc)⟩⟩ rfl rfl hl.1 rfl (lv_room (Nat.le_of_ble_eq_true rfl)) dX8_isFirstOfAlike_36 ⟨Nat.le_of_ble_eq_true rfl, Nat.le_of_ble_eq_true rfl⟩) hS (fun q _ h => hFc q h) hFc (fun r8 u t H1 locs ht hvm hw hB hz1 hk1 hS => ?_)
              obtain ⟨g9, rfl⟩ : ∃ z, z = u := ⟨_, rfl⟩
              obtain ⟨hP1, hK1, hD1⟩ := hB
              rw [ht] at hP1
              try dsimp only at hP1 hD1 hw
              obtain ⟨hP, hD⟩ := va_join (wr := []) (w1 := [(h0, .inr (13, [.ref q1, .ref q2, .ref q3, .int (nI k)])), (q1, .inl (cI, 9, .inl f)), (q2, .inl (cI, 9, .inl g9)), (q3, .inl (cI, 8, .inl h))]) hP hD [0, 1, 2, 3] [] rfl rfl (by decide) (by decide) hk1 hFc hP1 hD1
              generalize H1 = H at hP hS ⊢
              have hP : va_P (dC, dI) vwCl [(h0, .inr (13, [.ref q1, .ref q2, .ref q3, .int (nI k)])), (q1, .inl (cI, 9, .inl f)), (q2, .inl (cI, 9, .inl g9)), (q3, .inl (cI, 8, .inl h))] H := hP
              have hD : va_D A [(h0, .inr (13, [.ref q1, .ref q2, .ref q3, .int (nI k)])), (q1, .inl (cI, 9, .inl f)), (q2, .inl (cI, 9, .inl g9)), (q3, .inl (cI, 8, .inl h))] := hD
              refine lv_if_eq (tgt := 44) hx hb dX8_isFirstOfAlike_39 (by decide) (fun hc10 => ?_) (fun hc10 => ?_)
              · refine lv_iinc (v := (nI (x2 + 3))) (lv' := [(2, .int (nI (x2 + 3))), (0, .ref h0), (1, .int mi)]) hx hb dX8_isFirstOfAlike_44 hl (k := 2) rfl (by rw [show Int32.ofInt 3 = nI 3 from rfl]; exact nI_add _ _) (by decide) rfl (fun ls hl => ?_)
                refine lv_goto (tgt := 2) hx hb dX8_isFirstOfAlike_47 (by decide) ?_
                exact ihL1 (i1 + 1) g9 (x2 + 3) H locs _ (by omega) (by omega) (by omega) hP hD hS (lv_sub hl [1, 2, 0] rfl)
              · refine lv_iconst (v := (nI 0)) hx hb dX8_isFirstOfAlike_42 (by decide) ?_
                have hP9 := hP.sub (ws' := [(h0, .inr (13, [.ref q1, .ref q2, .ref q3, .int (nI k)])), (q1, .inl (cI, 9, .inl f)), (q2, .inl (cI, 9, .inl g9)), (q3, .inl (cI, 8, .inl h))]) [0, 1, 2, 3] rfl
                have hD9 := hD.sub (ws' := [(h0, .inr (13, [.ref q1, .ref q2, .ref q3, .int (nI k)])), (q1, .inl (cI, 9, .inl f)), (q2, .inl (cI, 9, .inl g9)), (q3, .inl (cI, 8, .inl h))]) [0, 1, 2, 3] (by decide) rfl
                exact W.zret (ty := .boolean) (v := (nI 0)) hx hb hr (by decide) (fun t ht hW => ⟨⟨(nI 0), g9, rfl, trivial, by rw [ht]; exact hP9, va_K.moved hW.alike hK, hD9⟩, hS.F ht⟩) hS.2.2 dX8_isFirstOfAlike_43
  exact L1 (6 + 1) 0 g 0 s.heap [] _ (by omega) (by omega) (by omega) hP hD hS (lv_sub hl [1, 2, 0] rfl)
set_option maxHeartbeats 4000000 in
set_option maxRecDepth 100000 in
theorem metX8_isNextTable (l : Launch) (dC : Nat → ClassId) (dI : Nat → Nat → Nat) (cI cJ cC cZ cD : ClassId) (sz : Nat) (h0 q1 q2 q3 : Nat) (f g h : Nat → Int32) (k : Nat) (hk : k ≤ 3) (hkk : k * k ≤ 9) (hkp : 1 ≤ k * k) : Met l yX8_isNextTable wsX8_isNextTable ({ frames := 0, cells := 0, slots := 0, locals := 0 }) (va_Pc [.ref h0] (fun U => U.heap.size = sz ∧ va_P (dC, dI) vwCl [(h0, .inr (13, [.ref q1, .ref q2, .ref q3, .int (nI k)])), (q1, .inl (cI, 9, .inl f)), (q2, .inl (cI, 9, .inl g)), (q3, .inl (cI, 8, .inl h))] U.heap ∧ va_K (dC, dI) vwCl [(cI, .int), (cJ, .long), (cC, .char), (cZ, .boolean), (cD, .double)] U ∧ va_D (fun _ => True) [(h0, .inr (13, [.ref q1, .ref q2, .ref q3, .int (nI k)])), (q1, .inl (cI, 9, .inl f)), (q2, .inl (cI, 9, .inl g)), (q3, .inl (cI, 8, .inl h))])) (va_Qi (fun (r : Int32) (u : (Nat → Int32)) => True) (fun (u : (Nat → Int32)) (t : State) => va_P (dC, dI) vwCl [(h0, .inr (13, [.ref q1, .ref q2, .ref q3, .int (nI k)])), (q1, .inl (cI, 9, .inl u)), (q2, .inl (cI, 9, .inl g)), (q3, .inl (cI, 8, .inl h))] t.heap ∧ va_K (dC, dI) vwCl [(cI, .int), (cJ, .long), (cC, .char), (cZ, .boolean), (cD, .double)] t ∧ va_D (va_A [(h0, .inr (13, [.ref q1, .ref q2, .ref q3, .int (nI k)])), (q1, .inl (cI, 9, .inl f)), (q2, .inl (cI, 9, .inl g)), (q3, .inl (cI, 8, .inl h))] sz) [(h0, .inr (13, [.ref q1, .ref q2, .ref q3, .int (nI k)])), (q1, .inl (cI, 9, .inl u)), (q2, .inl (cI, 9, .inl g)), (q3, .inl (cI, 8, .inl h))]) (va_A [(h0, .inr (13, [.ref q1, .ref q2, .ref q3, .int (nI k)])), (q1, .inl (cI, 9, .inl f)), (q2, .inl (cI, 9, .inl g)), (q3, .inl (cI, 8, .inl h))] sz)) 0 0 (va_A [(h0, .inr (13, [.ref q1, .ref q2, .ref q3, .int (nI k)])), (q1, .inl (cI, 9, .inl f)), (q2, .inl (cI, 9, .inl g)), (q3, .inl (cI, 8, .inl h))] sz) := by
  refine Met.ofW (cc := cX8_isNextTable) (maxL := 2) (ret := (some .boolean)) (by decide) rfl ?_
  intro p e s m args below meth c s₁ B hml hv
  obtain ⟨rfl, hsz, hP, hK, hD0⟩ := hv
  have hx := B.exec
  have hb := B.bytes
  have hr := B.returns
  have hts := atoms_spec (ws := wsX8_isNextTable) B.pre
  have hown : s.vm.findClass RX8 = some m.cls := findClass_of_methodNamed B.named
  have hlocks := B.notSynchronized
  subst hsz
  have hD := hD0.self (sz := s.heap.size)
  generalize hAe : va_A [(h0, .inr (13, [.ref q1, .ref q2, .ref q3, .int (nI k)])), (q1, .inl (cI, 9, .inl f)), (q2, .inl (cI, 9, .inl g)), (q3, .inl (cI, 8, .inl h))] s.heap.size = A at hD ⊢
  have hA : ∀ q : Nat, s.heap.size ≤ q → A q := fun q h => by rw [← hAe]; exact Or.inr h
  have hS : va_S A s.heap s.heap [] := va_S.rf
  have hP : va_P (dC, dI) vwCl [(h0, .inr (13, [.ref q1, .ref q2, .ref q3, .int (nI k)])), (q1, .inl (cI, 9, .inl f)), (q2, .inl (cI, 9, .inl g)), (q3, .inl (cI, 8, .inl h))] s.heap := hP
  have hl := lv_entry ([.ref h0]) (n := 2) (Nat.le_of_ble_eq_true rfl)
  rw [lg_entry_eq]
  generalize (lg_sl ([.ref h0]) ++ List.replicate (2 - (lg_sl ([.ref h0])).length) Slot.unset).toArray = ls at hl ⊢
  have hinX8 : ∀ w ∈ wsX80, w ∈ wsX8_isNextTable := by decide +kernel
  have hl : lv_has ls 2 [(0, .ref h0)] := hl
  refine lv_aload_n hx hb dX8_isNextTable_0 rfl (lv_at hl 0 rfl) ?_
  refine va_get (D := (dC, dI)) (ci := 13) (v := .int (nI k)) (C := RX8) (T := TX8) (N := 4) hx hb hts hinX8 hown hK hP 0 rfl rfl 3 (by decide) (hts (.fieldLink RX8 19 "Eggboxery$Tables" "side" "I") (by decide +kernel)) (fun _ h9 => h9) rfl dX8_isNextTable_1 ?_
  refine lv_aload_n hx hb dX8_isNextTable_4 rfl (lv_at hl 0 rfl) ?_
  refine va_get (D := (dC, dI)) (ci := 13) (v := .int (nI k)) (C := RX8) (T := TX8) (N := 4) hx hb hts hinX8 hown hK hP 0 rfl rfl 3 (by decide) (hts (.fieldLink RX8 19 "Eggboxery$Tables" "side" "I") (by decide +kernel)) (fun _ h9 => h9) rfl dX8_isNextTable_5 ?_
  refine lv_imul hx hb dX8_isNextTable_8 ?_
  refine lv_topi (nm_r (e' := nI (k * k)) (pk_mul _ _) ?_)
  refine lv_iconst (v := (nI 1)) hx hb dX8_isNextTable_9 (by decide) ?_
  refine lv_isub hx hb dX8_isNextTable_10 ?_
  refine lv_topi (nm_r (e' := nI ((k * k) - 1)) (pk_sub (by omega)) ?_)
  refine lv_istore_n (lv' := [(1, .int (nI ((k * k) - 1))), (0, .ref h0)]) hx hb dX8_isNextTable_11 rfl hl (by decide) rfl (fun ls hl => ?_)
  have L1 : ∀ (x1 : Nat) (fa : Nat → Int32) (H : Heap) (locs : List Loc) (ls : Array Slot), x1 ≤ 9 → va_P (dC, dI) vwCl [(h0, .inr (13, [.ref q1, .ref q2, .ref q3, .int (nI k)])), (q1, .inl (cI, 9, .inl fa)), (q2, .inl (cI, 9, .inl g)), (q3, .inl (cI, 8, .inl h))] H → va_D A [(h0, .inr (13, [.ref q1, .ref q2, .ref q3, .int (nI k)])), (q1, .inl (cI, 9, .inl fa)), (q2, .inl (cI, 9, .inl g)), (q3, .inl (cI, 8, .inl h))] → va_S A s.heap H locs → lv_has ls 2 [(0, .ref h0), (1, .int (nI (x1) + (-1)))] → W p l e (headSpec wsX8_isNextTable ({ frames := 0, cells := 0, slots := 0, locals := 0 })).room s m ([.ref h0]).toArray below meth c H locs 0 0 (MQ below (va_Qi (fun (r : Int32) (u : (Nat → Int32)) => True) (fun (u : (Nat → Int32)) (t : State) => va_P (dC, dI) vwCl [(h0, .inr (13, [.ref q1, .ref q2, .ref q3, .int (nI k)])), (q1, .inl (cI, 9, .inl u)), (q2, .inl (cI, 9, .inl g)), (q3, .inl (cI, 8, .inl h))] t.heap ∧ va_K (dC, dI) vwCl [(cI, .int), (cJ, .long), (cC, .char), (cZ, .boolean), (cD, .double)] t ∧ va_D A [(h0, .inr (13, [.ref q1, .ref q2, .ref q3, .int (nI k)])), (q1, .inl (cI, 9, .inl u)), (q2, .inl (cI, 9, .inl g)), (q3, .inl (cI, 8, .inl h))]) A) ([.ref h0]).toArray s 0 0 A) (F0 m 12 ls []) := by
    intro x1
    induction x1 with
    | zero =>
      intro fa H locs ls hx1 hP hD hS hl
      refine lv_iload_n hx hb dX8_isNextTable_12 rfl (lv_at hl 1 rfl) ?_
      refine lv_if_lt (tgt := 54) hx hb dX8_isNextTable_13 (by decide) (fun hc1 => ?_) (fun hc1 => ?_)
      · refine lv_iconst (v := (nI 0)) hx hb dX8_isNextTable_54 (by decide) ?_
        have hP9 := hP.sub (ws' := [(h0, .inr (13, [.ref q1, .ref q2, .ref q3, .int (nI k)])), (q1, .inl (cI, 9, .inl fa)), (q2, .inl (cI, 9, .inl g)), (q3, .inl (cI, 8, .inl h))]) [0, 1, 2, 3] rfl
        have hD9 := hD.sub (ws' := [(h0, .inr (13, [.ref q1, .ref q2, .ref q3, .int (nI k)])), (q1, .inl (cI, 9, .inl fa)), (q2, .inl (cI, 9, .inl g)), (q3, .inl (cI, 8, .inl h))]) [0, 1, 2, 3] (by decide) rfl
        exact W.zret (ty := .boolean) (v := (nI 0)) hx hb hr (by decide) (fun t ht hW => ⟨⟨(nI 0), fa, rfl, trivial, by rw [ht]; exact hP9, va_K.moved hW.alike hK, hD9⟩, hS.F ht⟩) hS.2.2 dX8_isNextTable_55
      · exact absurd (show nI 0 + (-1) < 0 by decide) hc1
    | succ y1 ih =>
      intro fa H locs ls hx1 hP hD hS hl
      rw [pk_m1] at hl
      refine lv_iload_n hx hb dX8_isNextTable_12 rfl (lv_at hl 1 rfl) ?_
      refine lv_if_lt (tgt := 54) hx hb dX8_isNextTable_13 (by decide) (fun hc2 => ?_) (fun hc2 => ?_)
      · have hc2 := hc2
        try rw [show (0 : Int32) = nI 0 from rfl] at hc2
        try simp only [ge_iff_le, gt_iff_lt, ne_eq] at hc2
        rw [nI_ltI (by omega) (by omega)] at hc2
        exact absurd hc2 (by omega)
      · have hc2 := hc2
        try rw [show (0 : Int32) = nI 0 from rfl] at hc2
        try simp only [ge_iff_le, gt_iff_lt, ne_eq] at hc2
        rw [nI_ltI (by omega) (by omega)] at hc2
        refine lv_aload_n hx hb dX8_isNextTable_16 rfl (lv_at hl 0 rfl) ?_
        refine va_get (D := (dC, dI)) (ci := 13) (v := .ref q1) (C := RX8) (T := TX8) (N := 4) hx hb hts hinX8 hown hK hP 0 rfl rfl 0 (by decide) (hts (.fieldLink RX8 9 "Eggboxery$Tables" "cells" "[I") (by decide +kernel)) (fun _ h9 => h9) rfl dX8_isNextTable_17 ?_
        refine lv_iload_n hx hb dX8_isNextTable_20 rfl (lv_at hl 1 rfl) ?_
        refine lv_dup2_11 hx hb dX8_isNextTable_21 rfl rfl ?_
        refine va_iald hx hb hK hP 1 0 rfl rfl (vp_in_nI (n := y1) (by omega) (by omega)) dX8_isNextTable_22 ?_
        refine lv_topi (fun z3 ez3 => ?_)
        refine lv_iconst (v := (nI 1)) hx hb dX8_isNextTable_23 (by decide) ?_
        refine lv_iadd hx hb dX8_isNextTable_24 ?_
        refine lv_topi (fun z4 _ => ?_)
        refine va_iast hx hb hK hP hD hS 1 0 rfl rfl (vp_in_nI (n := y1) (by omega) (by omega)) dX8_isNextTable_25 (fun H locs hP hD hS => ?_)
        obtain ⟨g5, eg5⟩ : ∃ z, z = upd fa ((nI y1)).toNatClampNeg z4 := ⟨_, rfl⟩
        have hP : va_P (dC, dI) vwCl [(h0, .inr (13, [.ref q1, .ref q2, .ref q3, .int (nI k)])), (q1, .inl (cI, 9, .inl g5)), (q2, .inl (cI, 9, .inl g)), (q3, .inl (cI, 8, .inl h))] H := by rw [eg5]; exact hP
        have hD : va_D A [(h0, .inr (13, [.ref q1, .ref q2, .ref q3, .int (nI k)])), (q1, .inl (cI, 9, .inl g5)), (q2, .inl (cI, 9, .inl g)), (q3, .inl (cI, 8, .inl h))] := by rw [eg5]; exact hD
        refine lv_aload_n hx hb dX8_isNextTable_26 rfl (lv_at hl 0 rfl) ?_
        refine va_get (D := (dC, dI)) (ci := 13) (v := .ref q1) (C := RX8) (T := TX8) (N := 4) hx hb hts hinX8 hown hK hP 0 rfl rfl 0 (by decide) (hts (.fieldLink RX8 9 "Eggboxery$Tables" "cells" "[I") (by decide +kernel)) (fun _ h9 => h9) rfl dX8_isNextTable_27 ?_
        refine lv_iload_n hx hb dX8_isNextTable_30 rfl (lv_at hl 1 rfl) ?_
        refine va_iald hx hb hK hP 1 0 rfl rfl (vp_in_nI (n := y1) (by omega) (by omega)) dX8_isNextTable_31 ?_
        refine lv_topi (fun z6 ez6 => ?_)
        refine lv_aload_n hx hb dX8_isNextTable_32 rfl (lv_at hl 0 rfl) ?_
        refine va_get (D := (dC, dI)) (ci := 13) (v := .int (nI k)) (C := RX8) (T := TX8) (N := 4) hx hb hts hinX8 hown hK hP 0 rfl rfl 3 (by decide) (hts (.fieldLink RX8 19 "Eggboxery$Tables" "side" "I") (by decide +kernel)) (fun _ h9 => h9) rfl dX8_isNextTable_33 ?_
        refine lv_icmp_ge (tgt := 41) hx hb dX8_isNextTable_36 (by decide) (fun hc7 => ?_) (fun hc7 => ?_)
        · refine lv_aload_n hx hb dX8_isNextTable_41 rfl (lv_at hl 0 rfl) ?_
          refine va_get (D := (dC, dI)) (ci := 13) (v := .ref q1) (C := RX8) (T := TX8) (N := 4) hx hb hts hinX8 hown hK hP 0 rfl rfl 0 (by decide) (hts (.fieldLink RX8 9 "Eggboxery$Tables" "cells" "[I") (by decide +kernel)) (fun _ h9 => h9) rfl dX8_isNextTable_42 ?_
          refine lv_iload_n hx hb dX8_isNextTable_45 rfl (lv_at hl 1 rfl) ?_
          refine lv_iconst (v := (nI 0)) hx hb dX8_isNextTable_46 (by decide) ?_
          refine va_iast hx hb hK hP hD hS 1 0 rfl rfl (vp_in_nI (n := y1) (by omega) (by omega)) dX8_isNextTable_47 (fun H locs hP hD hS => ?_)
          obtain ⟨g8, eg8⟩ : ∃ z, z = upd g5 ((nI y1)).toNatClampNeg (nI 0) := ⟨_, rfl⟩
          have hP : va_P (dC, dI) vwCl [(h0, .inr (13, [.ref q1, .ref q2, .ref q3, .int (nI k)])), (q1, .inl (cI, 9, .inl g8)), (q2, .inl (cI, 9, .inl g)), (q3, .inl (cI, 8, .inl h))] H := by rw [eg8]; exact hP
          have hD : va_D A [(h0, .inr (13, [.ref q1, .ref q2, .ref q3, .int (nI k)])), (q1, .inl (cI, 9, .inl g8)), (q2, .inl (cI, 9, .inl g)), (q3, .inl (cI, 8, .inl h))] := by rw [eg8]; exact hD
          refine lv_iinc (v := nI y1 + (-1)) (lv' := [(1, .int (nI y1 + (-1))), (0, .ref h0)]) hx hb dX8_isNextTable_48 hl (k := 1) rfl rfl (by decide) rfl (fun ls hl => ?_)
          refine lv_goto (tgt := 12) hx hb dX8_isNextTable_51 (by decide) ?_
          exact ih g8 H locs _ (by omega) hP hD hS (lv_sub hl [1, 0] rfl)
        · refine lv_iconst (v := (nI 1)) hx hb dX8_isNextTable_39 (by decide) ?_
          have hP9 := hP.sub (ws' := [(h0, .inr (13, [.ref q1, .ref q2, .ref q3, .int (nI k)])), (q1, .inl (cI, 9, .inl g5)), (q2, .inl (cI, 9, .inl g)), (q3, .inl (cI, 8, .inl h))]) [0, 1, 2, 3] rfl
          have hD9 := hD.sub (ws' := [(h0, .inr (13, [.ref q1, .ref q2, .ref q3, .int (nI k)])), (q1, .inl (cI, 9, .inl g5)), (q2, .inl (cI, 9, .inl g)), (q3, .inl (cI, 8, .inl h))]) [0, 1, 2, 3] (by decide) rfl
          exact W.zret (ty := .boolean) (v := (nI 1)) hx hb hr (by decide) (fun t ht hW => ⟨⟨(nI 1), g5, rfl, trivial, by rw [ht]; exact hP9, va_K.moved hW.alike hK, hD9⟩, hS.F ht⟩) hS.2.2 dX8_isNextTable_40
  have hl : lv_has ls 2 [(0, .ref h0), (1, .int (nI (k * k) + (-1)))] := by
    have e1 : nI (k * k - 1) = nI (k * k) + (-1) := by
      obtain ⟨y, hy⟩ : ∃ y, k * k = y + 1 := ⟨k * k - 1, by omega⟩
      rw [hy, pk_m1]; rfl
    rw [← e1]; exact lv_sub hl [1, 0] rfl
  exact L1 (k * k) f s.heap [] _ hkk hP hD hS hl
set_option maxHeartbeats 4000000 in
set_option maxRecDepth 100000 in
theorem metJ7_fill_53178 (l : Launch) (dC : Nat → ClassId) (dI : Nat → Nat → Nat) (cI cJ cC cZ cD : ClassId) (sz : Nat) (a0 n0 : Nat) (f : Nat → Int32) (x1 : Int32) (hn0 : n0 ≤ 100000) : Met l yJ7_fill_53178 wsJ7_fill_53178 ({ frames := 0, cells := 0, slots := 0, locals := 0 }) (va_Pc [.ref a0, .int x1] (fun U => U.heap.size = sz ∧ va_P (dC, dI) vwCl [(a0, .inl (cI, n0, .inl f))] U.heap ∧ va_K (dC, dI) vwCl [(cI, .int), (cJ, .long), (cC, .char), (cZ, .boolean), (cD, .double)] U ∧ va_D (fun _ => True) [(a0, .inl (cI, n0, .inl f))])) (va_Qv (fun (u : (Nat → Int32)) => True) (fun (u : (Nat → Int32)) (t : State) => va_P (dC, dI) vwCl [(a0, .inl (cI, n0, .inl u))] t.heap ∧ va_K (dC, dI) vwCl [(cI, .int), (cJ, .long), (cC, .char), (cZ, .boolean), (cD, .double)] t ∧ va_D (va_A [(a0, .inl (cI, n0, .inl f))] sz) [(a0, .inl (cI, n0, .inl u))]) (va_A [(a0, .inl (cI, n0, .inl f))] sz)) 0 0 (va_A [(a0, .inl (cI, n0, .inl f))] sz) := by
  refine Met.ofW (cc := cJ7_fill_53178) (maxL := 4) (ret := none) (by decide) rfl ?_
  intro p e s m args below meth c s₁ B hml hv
  obtain ⟨rfl, hsz, hP, hK, hD0⟩ := hv
  have hx := B.exec
  have hb := B.bytes
  have hr := B.returns
  have hts := atoms_spec (ws := wsJ7_fill_53178) B.pre
  have hown : s.vm.findClass RJ7 = some m.cls := findClass_of_methodNamed B.named
  have hlocks := B.notSynchronized
  subst hsz
  have hD := hD0.self (sz := s.heap.size)
  generalize hAe : va_A [(a0, .inl (cI, n0, .inl f))] s.heap.size = A at hD ⊢
  have hA : ∀ q : Nat, s.heap.size ≤ q → A q := fun q h => by rw [← hAe]; exact Or.inr h
  have hS : va_S A s.heap s.heap [] := va_S.rf
  have hP : va_P (dC, dI) vwCl [(a0, .inl (cI, n0, .inl f))] s.heap := hP
  have hl := lv_entry ([.ref a0, .int x1]) (n := 4) (Nat.le_of_ble_eq_true rfl)
  rw [lg_entry_eq]
  generalize (lg_sl ([.ref a0, .int x1]) ++ List.replicate (4 - (lg_sl ([.ref a0, .int x1])).length) Slot.unset).toArray = ls at hl ⊢
  have hl : lv_has ls 4 [(0, .ref a0), (1, .int x1)] := hl
  refine lv_iconst (v := (nI 0)) hx hb dJ7_fill_53178_0 (by decide) ?_
  refine lv_istore_n (lv' := [(2, .int (nI 0)), (0, .ref a0), (1, .int x1)]) hx hb dJ7_fill_53178_1 rfl hl (by decide) rfl (fun ls hl => ?_)
  refine lv_aload_n hx hb dJ7_fill_53178_2 rfl (lv_at hl 1 rfl) ?_
  refine va_alen (v := nI (n0)) hx hb hK hP 0 0 rfl rfl rfl dJ7_fill_53178_3 ?_
  refine lv_istore_n (lv' := [(3, .int (nI n0)), (2, .int (nI 0)), (0, .ref a0), (1, .int x1)]) hx hb dJ7_fill_53178_4 rfl hl (by decide) rfl (fun ls hl => ?_)
  have L1 : ∀ (n i1 : Nat) (fa : Nat → Int32) (H : Heap) (locs : List Loc) (ls : Array Slot), i1 ≤ n0 → n0 + 1 ≤ i1 + n → va_P (dC, dI) vwCl [(a0, .inl (cI, n0, .inl fa))] H → va_D A [(a0, .inl (cI, n0, .inl fa))] → va_S A s.heap H locs → lv_has ls 4 [(0, .ref a0), (1, .int x1), (3, .int (nI n0)), (2, .int (nI i1))] → W p l e (headSpec wsJ7_fill_53178 ({ frames := 0, cells := 0, slots := 0, locals := 0 })).room s m ([.ref a0, .int x1]).toArray below meth c H locs 0 0 (MQ below (va_Qv (fun (u : (Nat → Int32)) => True) (fun (u : (Nat → Int32)) (t : State) => va_P (dC, dI) vwCl [(a0, .inl (cI, n0, .inl u))] t.heap ∧ va_K (dC, dI) vwCl [(cI, .int), (cJ, .long), (cC, .char), (cZ, .boolean), (cD, .double)] t ∧ va_D A [(a0, .inl (cI, n0, .inl u))]) A) ([.ref a0, .int x1]).toArray s 0 0 A) (F0 m 5 ls []) := by
    intro n
    induction n with
    | zero =>
      intro i1 fa H locs ls h1 h2
      exact absurd h2 (by omega)
    | succ n ih =>
      intro i1 fa H locs ls hii1 hni1  hP hD hS hl
      have ihL1 := ih
      clear ih
      refine lv_iload_n hx hb dJ7_fill_53178_5 rfl (lv_at hl 3 rfl) ?_
      refine lv_iload_n hx hb dJ7_fill_53178_6 rfl (lv_at hl 2 rfl) ?_
      refine lv_icmp_ge (tgt := 20) hx hb dJ7_fill_53178_7 (by decide) (fun hc1 => ?_) (fun hc1 => ?_)
      · try simp only [ge_iff_le, gt_iff_lt, ne_eq] at hc1
        rw [nI_leI (by omega) (by omega)] at hc1
        have hP9 := hP.sub (ws' := [(a0, .inl (cI, n0, .inl fa))]) [0] rfl
        have hD9 := hD.sub (ws' := [(a0, .inl (cI, n0, .inl fa))]) [0] (by decide) rfl
        exact W.vret hx hb hr (fun t ht hW => ⟨⟨fa, rfl, trivial, by rw [ht]; exact hP9, va_K.moved hW.alike hK, hD9⟩, hS.F ht⟩) hS.2.2 dJ7_fill_53178_20
      · try simp only [ge_iff_le, gt_iff_lt, ne_eq] at hc1
        rw [nI_leI (by omega) (by omega)] at hc1
        refine lv_aload_n hx hb dJ7_fill_53178_10 rfl (lv_at hl 0 rfl) ?_
        refine lv_iload_n hx hb dJ7_fill_53178_11 rfl (lv_at hl 3 rfl) ?_
        refine lv_iload_n hx hb dJ7_fill_53178_12 rfl (lv_at hl 1 rfl) ?_
        refine va_iast hx hb hK hP hD hS 0 0 rfl rfl (vp_in_nI (n := i1) (by omega) (by omega)) dJ7_fill_53178_13 (fun H locs hP hD hS => ?_)
        obtain ⟨g2, eg2⟩ : ∃ z, z = upd fa ((nI i1)).toNatClampNeg x1 := ⟨_, rfl⟩
        have hP : va_P (dC, dI) vwCl [(a0, .inl (cI, n0, .inl g2))] H := by rw [eg2]; exact hP
        have hD : va_D A [(a0, .inl (cI, n0, .inl g2))] := by rw [eg2]; exact hD
        refine lv_iinc (v := (nI (i1 + 1))) (lv' := [(2, .int (nI (i1 + 1))), (0, .ref a0), (1, .int x1), (3, .int (nI n0))]) hx hb dJ7_fill_53178_14 hl (k := 3) rfl (by rw [show Int32.ofInt 1 = (1 : Int32) from rfl]; exact nI_1 _) (by decide) rfl (fun ls hl => ?_)
        refine lv_goto (tgt := 5) hx hb dJ7_fill_53178_17 (by decide) ?_
        exact ihL1 (i1 + 1) g2 H locs _ (by omega) (by omega)  hP hD hS (lv_sub hl [1, 2, 3, 0] rfl)
  exact L1 (n0 + 1) 0 f s.heap [] _ (by omega) (by omega)  hP hD hS (lv_sub hl [2, 3, 0, 1] rfl)
set_option maxHeartbeats 4000000 in
set_option maxRecDepth 100000 in
theorem metX8_counted (l : Launch) (dC : Nat → ClassId) (dI : Nat → Nat → Nat) (cI cJ cC cZ cD : ClassId) (nt : Nat) (ng : Nat → Int32) (sz : Nat) (h0 q1 q2 q3 : Nat) (f g h : Nat → Int32) (k : Nat) (mi : Int32) (hk : k ≤ 3) (hkk : k * k ≤ 9) (hkp : 1 ≤ k * k) : Met l yX8_counted wsX8_counted ({ frames := 3, cells := 0, slots := 0, locals := 72 }) (va_Pc [.ref h0, .int mi] (fun U => U.heap.size = sz ∧ va_P (dC, dI) vwCl [(h0, .inr (13, [.ref q1, .ref q2, .ref q3, .int (nI k)])), (q1, .inl (cI, 9, .inl f)), (q2, .inl (cI, 9, .inl g)), (q3, .inl (cI, 8, .inl h))] U.heap ∧ va_K (dC, dI) vwCl [(cI, .int), (cJ, .long), (cC, .char), (cZ, .boolean), (cD, .double)] U ∧ va_D (fun _ => True) [(h0, .inr (13, [.ref q1, .ref q2, .ref q3, .int (nI k)])), (q1, .inl (cI, 9, .inl f)), (q2, .inl (cI, 9, .inl g)), (q3, .inl (cI, 8, .inl h))] ∧ va_Z RX8 "NAMES" "[I" (.ref nt) (va_A [(h0, .inr (13, [.ref q1, .ref q2, .ref q3, .int (nI k)])), (q1, .inl (cI, 9, .inl f)), (q2, .inl (cI, 9, .inl g)), (q3, .inl (cI, 8, .inl h))] sz) U U.heap ∧ va_T .int nt 18 (fun j => .int (ng j)) (va_A [(h0, .inr (13, [.ref q1, .ref q2, .ref q3, .int (nI k)])), (q1, .inl (cI, 9, .inl f)), (q2, .inl (cI, 9, .inl g)), (q3, .inl (cI, 8, .inl h))] sz) U U.heap)) (va_Qi (fun (r : Int32) (u : (Nat → Int32) × (Nat → Int32)) => True) (fun (u : (Nat → Int32) × (Nat → Int32)) (t : State) => va_P (dC, dI) vwCl [(h0, .inr (13, [.ref q1, .ref q2, .ref q3, .int (nI k)])), (q1, .inl (cI, 9, .inl u.1)), (q2, .inl (cI, 9, .inl u.2)), (q3, .inl (cI, 8, .inl h))] t.heap ∧ va_K (dC, dI) vwCl [(cI, .int), (cJ, .long), (cC, .char), (cZ, .boolean), (cD, .double)] t ∧ va_D (va_A [(h0, .inr (13, [.ref q1, .ref q2, .ref q3, .int (nI k)])), (q1, .inl (cI, 9, .inl f)), (q2, .inl (cI, 9, .inl g)), (q3, .inl (cI, 8, .inl h))] sz) [(h0, .inr (13, [.ref q1, .ref q2, .ref q3, .int (nI k)])), (q1, .inl (cI, 9, .inl u.1)), (q2, .inl (cI, 9, .inl u.2)), (q3, .inl (cI, 8, .inl h))]) (va_A [(h0, .inr (13, [.ref q1, .ref q2, .ref q3, .int (nI k)])), (q1, .inl (cI, 9, .inl f)), (q2, .inl (cI, 9, .inl g)), (q3, .inl (cI, 8, .inl h))] sz)) 0 0 (va_A [(h0, .inr (13, [.ref q1, .ref q2, .ref q3, .int (nI k)])), (q1, .inl (cI, 9, .inl f)), (q2, .inl (cI, 9, .inl g)), (q3, .inl (cI, 8, .inl h))] sz) := by
  refine Met.ofW (cc := cX8_counted) (maxL := 5) (ret := (some .int)) (by decide) rfl ?_
  intro p e s m args below meth c s₁ B hml hv
  obtain ⟨rfl, hsz, hP, hK, hD0, hNZ, hNT⟩ := hv
  have hx := B.exec
  have hb := B.bytes
  have hr := B.returns
  have hts := atoms_spec (ws := wsX8_counted) B.pre
  have hown : s.vm.findClass RX8 = some m.cls := findClass_of_methodNamed B.named
  have hlocks := B.notSynchronized
  subst hsz
  have hD := hD0.self (sz := s.heap.size)
  generalize hAe : va_A [(h0, .inr (13, [.ref q1, .ref q2, .ref q3, .int (nI k)])), (q1, .inl (cI, 9, .inl f)), (q2, .inl (cI, 9, .inl g)), (q3, .inl (cI, 8, .inl h))] s.heap.size = A at hD hNZ hNT ⊢
  have hA : ∀ q : Nat, s.heap.size ≤ q → A q := fun q h => by rw [← hAe]; exact Or.inr h
  have hS : va_S A s.heap s.heap [] := va_S.rf
  have hP : va_P (dC, dI) vwCl [(h0, .inr (13, [.ref q1, .ref q2, .ref q3, .int (nI k)])), (q1, .inl (cI, 9, .inl f)), (q2, .inl (cI, 9, .inl g)), (q3, .inl (cI, 8, .inl h))] s.heap := hP
  have hl := lv_entry ([.ref h0, .int mi]) (n := 5) (Nat.le_of_ble_eq_true rfl)
  rw [lg_entry_eq]
  generalize (lg_sl ([.ref h0, .int mi]) ++ List.replicate (5 - (lg_sl ([.ref h0, .int mi])).length) Slot.unset).toArray = ls at hl ⊢
  have hinX8 : ∀ w ∈ wsX80, w ∈ wsX8_counted := by decide +kernel
  have hl : lv_has ls 5 [(0, .ref h0), (1, .int mi)] := hl
  refine lv_aload_n hx hb dX8_counted_0 rfl (lv_at hl 0 rfl) ?_
  refine va_get (D := (dC, dI)) (ci := 13) (v := .ref q1) (C := RX8) (T := TX8) (N := 4) hx hb hts hinX8 hown hK hP 0 rfl rfl 0 (by decide) (hts (.fieldLink RX8 9 "Eggboxery$Tables" "cells" "[I") (by decide +kernel)) (fun _ h9 => h9) rfl dX8_counted_1 ?_
  refine lv_iconst (v := (nI 0)) hx hb dX8_counted_4 (by decide) ?_
  have hPc := hP.sub (ws' := [(q1, .inl (cI, 9, .inl f))]) [1] rfl
  have hDc := hD.sub (ws' := [(q1, .inl (cI, 9, .inl f))]) [1] (by decide) rfl
  have hFc := va_free (wc := [(q1, .inl (cI, 9, .inl f))]) hD hS hA [1] rfl
  refine va_callv (va_runS (As := [.ref q1, .int (nI 0)]) (rest := []) ⟨hx, hb, hml, hown, hts⟩ (metJ7_fill_53178 l dC dI cI cJ cC cZ cD s.heap.size q1 9 f (nI 0) (by omega)) (va_cwS 2 hts gX8_counted_J7_fill_53178 rfl rfl rfl (by decide +kernel) ⟨Nat.le_of_ble_eq_true rfl, Nat.le_of_ble_eq_true rfl⟩) ⟨fun a U g mk q => by obtain ⟨q0, q1, qP, qK, qD⟩ := q; exact ⟨q0, q1, qP, va_K.moved (u := U) (U := U.calling g mk a) (Vm.Alike.refl U.vm) qK, qD⟩, fun U hU hW => ⟨rfl, by rw [hU], by rw [hU]; exact hPc, va_K.moved hW.alike hK, hDc.weaken (fun _ _ _ _ => trivial)⟩⟩ rfl rfl hl.1 rfl (lv_room (Nat.le_of_ble_eq_true rfl)) dX8_counted_5 ⟨Nat.le_of_ble_eq_true rfl, Nat.le_of_ble_eq_true rfl⟩) hS (fun q _ h => hFc q h) hFc (fun u t H1 locs ht hvm hw hB hz1 hk1 hS => ?_)
  obtain ⟨f2, rfl⟩ : ∃ z, z = u := ⟨_, rfl⟩
  obtain ⟨hP1, hK1, hD1⟩ := hB
  rw [ht] at hP1
  try dsimp only at hP1 hD1 hw
  obtain ⟨hP, hD⟩ := va_join (wr := [(h0, .inr (13, [.ref q1, .ref q2, .ref q3, .int (nI k)])), (q2, .inl (cI, 9, .inl g)), (q3, .inl (cI, 8, .inl h))]) (w1 := [(q1, .inl (cI, 9, .inl f2))]) hP hD [1] [0, 2, 3] rfl rfl (by decide) (by decide) hk1 hFc hP1 hD1
  generalize H1 = H at hP hS ⊢
  have hP : va_P (dC, dI) vwCl [(h0, .inr (13, [.ref q1, .ref q2, .ref q3, .int (nI k)])), (q2, .inl (cI, 9, .inl g)), (q3, .inl (cI, 8, .inl h)), (q1, .inl (cI, 9, .inl f2))] H := hP
  have hD : va_D A [(h0, .inr (13, [.ref q1, .ref q2, .ref q3, .int (nI k)])), (q2, .inl (cI, 9, .inl g)), (q3, .inl (cI, 8, .inl h)), (q1, .inl (cI, 9, .inl f2))] := hD
  refine lv_iconst (v := (nI 0)) hx hb dX8_counted_8 (by decide) ?_
  refine lv_istore_n (lv' := [(2, .int (nI 0)), (0, .ref h0), (1, .int mi)]) hx hb dX8_counted_9 rfl hl (by decide) rfl (fun ls hl => ?_)
  refine lv_iconst (v := (nI 1)) hx hb dX8_counted_10 (by decide) ?_
  refine lv_istore_n (lv' := [(3, .int (nI 1)), (2, .int (nI 0)), (0, .ref h0), (1, .int mi)]) hx hb dX8_counted_11 rfl hl (by decide) rfl (fun ls hl => ?_)
  refine lv_iconst (v := (nI 0)) hx hb dX8_counted_12 (by decide) ?_
  refine lv_istore (lv' := [(4, .int (nI 0)), (3, .int (nI 1)), (2, .int (nI 0)), (0, .ref h0), (1, .int mi)]) hx hb dX8_counted_13 hl (by decide) rfl (fun ls hl => ?_)
  have L1 : ∀ (n i1 : Nat) (fa : Nat → Int32) (ga : Nat → Int32) (fd : Int32) (mo : Int32) (H : Heap) (locs : List Loc) (ls : Array Slot), i1 ≤ 20000 → 20000 + 1 ≤ i1 + n → va_P (dC, dI) vwCl [(h0, .inr (13, [.ref q1, .ref q2, .ref q3, .int (nI k)])), (q1, .inl (cI, 9, .inl fa)), (q2, .inl (cI, 9, .inl ga)), (q3, .inl (cI, 8, .inl h))] H → va_D A [(h0, .inr (13, [.ref q1, .ref q2, .ref q3, .int (nI k)])), (q1, .inl (cI, 9, .inl fa)), (q2, .inl (cI, 9, .inl ga)), (q3, .inl (cI, 8, .inl h))] → va_S A s.heap H locs → lv_has ls 5 [(0, .ref h0), (1, .int mi), (2, .int fd), (3, .int mo), (4, .int (nI i1))] → W p l e (headSpec wsX8_counted ({ frames := 3, cells := 0, slots := 0, locals := 72 })).room s m ([.ref h0, .int mi]).toArray below meth c H locs 0 0 (MQ below (va_Qi (fun (r : Int32) (u : (Nat → Int32) × (Nat → Int32)) => True) (fun (u : (Nat → Int32) × (Nat → Int32)) (t : State) => va_P (dC, dI) vwCl [(h0, .inr (13, [.ref q1, .ref q2, .ref q3, .int (nI k)])), (q1, .inl (cI, 9, .inl u.1)), (q2, .inl (cI, 9, .inl u.2)), (q3, .inl (cI, 8, .inl h))] t.heap ∧ va_K (dC, dI) vwCl [(cI, .int), (cJ, .long), (cC, .char), (cZ, .boolean), (cD, .double)] t ∧ va_D A [(h0, .inr (13, [.ref q1, .ref q2, .ref q3, .int (nI k)])), (q1, .inl (cI, 9, .inl u.1)), (q2, .inl (cI, 9, .inl u.2)), (q3, .inl (cI, 8, .inl h))]) A) ([.ref h0, .int mi]).toArray s 0 0 A) (F0 m 15 ls []) := by
    intro n
    induction n with
    | zero =>
      intro i1 fa ga fd mo H locs ls h1 h2
      exact absurd h2 (by omega)
    | succ n ih =>
      intro i1 fa ga fd mo H locs ls hii1 hni1  hP hD hS hl
      have ihL1 := ih
      clear ih
      refine lv_iload hx hb dX8_counted_15 (lv_at hl 4 rfl) ?_
      refine lv_sipush (v := (nI 20000)) hx hb dX8_counted_17 (by decide) ?_
      refine lv_icmp_ge (tgt := 56) hx hb dX8_counted_20 (by decide) (fun hc3 => ?_) (fun hc3 => ?_)
      · try simp only [ge_iff_le, gt_iff_lt, ne_eq] at hc3
        rw [nI_leI (by omega) (by omega)] at hc3
        refine lv_iload_n hx hb dX8_counted_56 rfl (lv_at hl 2 rfl) ?_
        have hP9 := hP.sub (ws' := [(h0, .inr (13, [.ref q1, .ref q2, .ref q3, .int (nI k)])), (q1, .inl (cI, 9, .inl fa)), (q2, .inl (cI, 9, .inl ga)), (q3, .inl (cI, 8, .inl h))]) [0, 1, 2, 3] rfl
        have hD9 := hD.sub (ws' := [(h0, .inr (13, [.ref q1, .ref q2, .ref q3, .int (nI k)])), (q1, .inl (cI, 9, .inl fa)), (q2, .inl (cI, 9, .inl ga)), (q3, .inl (cI, 8, .inl h))]) [0, 1, 2, 3] (by decide) rfl
        exact W.iret (v := fd) hx hb hr (fun t ht hW => ⟨⟨fd, (fa, ga), rfl, trivial, by rw [ht]; exact hP9, va_K.moved hW.alike hK, hD9⟩, hS.F ht⟩) hS.2.2 dX8_counted_57
      · try simp only [ge_iff_le, gt_iff_lt, ne_eq] at hc3
        rw [nI_leI (by omega) (by omega)] at hc3
        refine lv_iload_n hx hb dX8_counted_23 rfl (lv_at hl 3 rfl) ?_
        refine lv_if_eq (tgt := 56) hx hb dX8_counted_24 (by decide) (fun hc4 => ?_) (fun hc4 => ?_)
        · refine lv_iload_n hx hb dX8_counted_56 rfl (lv_at hl 2 rfl) ?_
          have hP9 := hP.sub (ws' := [(h0, .inr (13, [.ref q1, .ref q2, .ref q3, .int (nI k)])), (q1, .inl (cI, 9, .inl fa)), (q2, .inl (cI, 9, .inl ga)), (q3, .inl (cI, 8, .inl h))]) [0, 1, 2, 3] rfl
          have hD9 := hD.sub (ws' := [(h0, .inr (13, [.ref q1, .ref q2, .ref q3, .int (nI k)])), (q1, .inl (cI, 9, .inl fa)), (q2, .inl (cI, 9, .inl ga)), (q3, .inl (cI, 8, .inl h))]) [0, 1, 2, 3] (by decide) rfl
          exact W.iret (v := fd) hx hb hr (fun t ht hW => ⟨⟨fd, (fa, ga), rfl, trivial, by rw [ht]; exact hP9, va_K.moved hW.alike hK, hD9⟩, hS.F ht⟩) hS.2.2 dX8_counted_57
        · refine lv_aload_n hx hb dX8_counted_27 rfl (lv_at hl 0 rfl) ?_
          have hPc := hP.sub (ws' := [(h0, .inr (13, [.ref q1, .ref q2, .ref q3, .int (nI k)])), (q1, .inl (cI, 9, .inl fa)), (q2, .inl (cI, 9, .inl ga)), (q3, .inl (cI, 8, .inl h))]) [0, 1, 2, 3] rfl
          have hDc := hD.sub (ws' := [(h0, .inr (13, [.ref q1, .ref q2, .ref q3, .int (nI k)])), (q1, .inl (cI, 9, .inl fa)), (q2, .inl (cI, 9, .inl ga)), (q3, .inl (cI, 8, .inl h))]) [0, 1, 2, 3] (by decide) rfl
          have hFc := va_free (wc := [(h0, .inr (13, [.ref q1, .ref q2, .ref q3, .int (nI k)])), (q1, .inl (cI, 9, .inl fa)), (q2, .inl (cI, 9, .inl ga)), (q3, .inl (cI, 8, .inl h))]) hD hS hA [0, 1, 2, 3] rfl
          refine va_calli (va_runV (As := []) (rest := []) ⟨hx, hb, hml, hown, hts⟩ (metX8_isAssociative l dC dI cI cJ cC cZ cD H.size h0 q1 q2 q3 fa ga h k hk) (cwV 0 hts gX8_counted_X8_isAssociative rfl rfl rfl (by decide +kernel) ⟨Nat.le_of_ble_eq_true rfl, Nat.le_of_ble_eq_true rfl⟩) ⟨fun a U g mk q => by obtain ⟨q0, q1, qP, qK, qD⟩ := q; exact ⟨q0, q1, qP, va_K.moved (u := U) (U := U.calling g mk a) (Vm.Alike.refl U.vm) qK, qD⟩, va_recv hK hPc (ci := 13) (q0 := 0) rfl rfl, fun U hU hW => ⟨rfl, by rw [hU], by rw [hU]; exact hPc, va_K.moved hW.alike hK, hDc.weaken (fun _ _ _ _ => trivial)⟩⟩ rfl rfl hl.1 rfl (lv_room (Nat.le_of_ble_eq_true rfl)) dX8_counted_28 ⟨Nat.le_of_ble_eq_true rfl, Nat.le_of_ble_eq_true rfl⟩) hS (fun q _ h => hFc q h) hFc (fun r5 u t H1 locs ht hvm hw hB hz1 hk1 hS => ?_)
          obtain ⟨hP1, hK1, hD1⟩ := hB
          rw [ht] at hP1
          try dsimp only at hP1 hD1 hw
          obtain ⟨hP, hD⟩ := va_join (wr := []) (w1 := [(h0, .inr (13, [.ref q1, .ref q2, .ref q3, .int (nI k)])), (q1, .inl (cI, 9, .inl fa)), (q2, .inl (cI, 9, .inl ga)), (q3, .inl (cI, 8, .inl h))]) hP hD [0, 1, 2, 3] [] rfl rfl (by decide) (by decide) hk1 hFc hP1 hD1
          generalize H1 = H at hP hS ⊢
          have hP : va_P (dC, dI) vwCl [(h0, .inr (13, [.ref q1, .ref q2, .ref q3, .int (nI k)])), (q1, .inl (cI, 9, .inl fa)), (q2, .inl (cI, 9, .inl ga)), (q3, .inl (cI, 8, .inl h))] H := hP
          have hD : va_D A [(h0, .inr (13, [.ref q1, .ref q2, .ref q3, .int (nI k)])), (q1, .inl (cI, 9, .inl fa)), (q2, .inl (cI, 9, .inl ga)), (q3, .inl (cI, 8, .inl h))] := hD
          refine lv_if_eq (tgt := 45) hx hb dX8_counted_31 (by decide) (fun hc6 => ?_) (fun hc6 => ?_)
          · refine lv_aload_n hx hb dX8_counted_45 rfl (lv_at hl 0 rfl) ?_
            have hPc := hP.sub (ws' := [(h0, .inr (13, [.ref q1, .ref q2, .ref q3, .int (nI k)])), (q1, .inl (cI, 9, .inl fa)), (q2, .inl (cI, 9, .inl ga)), (q3, .inl (cI, 8, .inl h))]) [0, 1, 2, 3] rfl
            have hDc := hD.sub (ws' := [(h0, .inr (13, [.ref q1, .ref q2, .ref q3, .int (nI k)])), (q1, .inl (cI, 9, .inl fa)), (q2, .inl (cI, 9, .inl ga)), (q3, .inl (cI, 8, .inl h))]) [0, 1, 2, 3] (by decide) rfl
            have hFc := va_free (wc := [(h0, .inr (13, [.ref q1, .ref q2, .ref q3, .int (nI k)])), (q1, .inl (cI, 9, .inl fa)), (q2, .inl (cI, 9, .inl ga)), (q3, .inl (cI, 8, .inl h))]) hD hS hA [0, 1, 2, 3] rfl
            refine va_calli (va_runV (As := []) (rest := []) ⟨hx, hb, hml, hown, hts⟩ (metX8_isNextTable l dC dI cI cJ cC cZ cD H.size h0 q1 q2 q3 fa ga h k hk hkk hkp) (cwV 0 hts gX8_counted_X8_isNextTable rfl rfl rfl (by decide +kernel) ⟨Nat.le_of_ble_eq_true rfl, Nat.le_of_ble_eq_true rfl⟩) ⟨fun a U g mk q => by obtain ⟨q0, q1, qP, qK, qD⟩ := q; exact ⟨q0, q1, qP, va_K.moved (u := U) (U := U.calling g mk a) (Vm.Alike.refl U.vm) qK, qD⟩, va_recv hK hPc (ci := 13) (q0 := 0) rfl rfl, fun U hU hW => ⟨rfl, by rw [hU], by rw [hU]; exact hPc, va_K.moved hW.alike hK, hDc.weaken (fun _ _ _ _ => trivial)⟩⟩ rfl rfl hl.1 rfl (lv_room (Nat.le_of_ble_eq_true rfl)) dX8_counted_46 ⟨Nat.le_of_ble_eq_true rfl, Nat.le_of_ble_eq_true rfl⟩) hS (fun q _ h => hFc q h) hFc (fun r7 u t H1 locs ht hvm hw hB hz1 hk1 hS => ?_)
            obtain ⟨f8, rfl⟩ : ∃ z, z = u := ⟨_, rfl⟩
            obtain ⟨hP1, hK1, hD1⟩ := hB
            rw [ht] at hP1
            try dsimp only at hP1 hD1 hw
            obtain ⟨hP, hD⟩ := va_join (wr := []) (w1 := [(h0, .inr (13, [.ref q1, .ref q2, .ref q3, .int (nI k)])), (q1, .inl (cI, 9, .inl f8)), (q2, .inl (cI, 9, .inl ga)), (q3, .inl (cI, 8, .inl h))]) hP hD [0, 1, 2, 3] [] rfl rfl (by decide) (by decide) hk1 hFc hP1 hD1
            generalize H1 = H at hP hS ⊢
            have hP : va_P (dC, dI) vwCl [(h0, .inr (13, [.ref q1, .ref q2, .ref q3, .int (nI k)])), (q1, .inl (cI, 9, .inl f8)), (q2, .inl (cI, 9, .inl ga)), (q3, .inl (cI, 8, .inl h))] H := hP
            have hD : va_D A [(h0, .inr (13, [.ref q1, .ref q2, .ref q3, .int (nI k)])), (q1, .inl (cI, 9, .inl f8)), (q2, .inl (cI, 9, .inl ga)), (q3, .inl (cI, 8, .inl h))] := hD
            refine lv_istore_n (lv' := [(3, .int r7), (0, .ref h0), (1, .int mi), (2, .int fd), (4, .int (nI i1))]) hx hb dX8_counted_49 rfl hl (by decide) rfl (fun ls hl => ?_)
            refine lv_iinc (v := (nI (i1 + 1))) (lv' := [(4, .int (nI (i1 + 1))), (3, .int r7), (0, .ref h0), (1, .int mi), (2, .int fd)]) hx hb dX8_counted_50 hl (k := 4) rfl (by rw [show Int32.ofInt 1 = (1 : Int32) from rfl]; exact nI_1 _) (by decide) rfl (fun ls hl => ?_)
            refine lv_goto (tgt := 15) hx hb dX8_counted_53 (by decide) ?_
            exact ihL1 (i1 + 1) f8 ga (fd) r7 H locs _ (by omega) (by omega)  hP hD hS (lv_sub hl [2, 3, 4, 1, 0] rfl)
          · refine lv_aload_n hx hb dX8_counted_34 rfl (lv_at hl 0 rfl) ?_
            refine lv_iload_n hx hb dX8_counted_35 rfl (lv_at hl 1 rfl) ?_
            have hPc := hP.sub (ws' := [(h0, .inr (13, [.ref q1, .ref q2, .ref q3, .int (nI k)])), (q1, .inl (cI, 9, .inl fa)), (q2, .inl (cI, 9, .inl ga)), (q3, .inl (cI, 8, .inl h))]) [0, 1, 2, 3] rfl
            have hDc := hD.sub (ws' := [(h0, .inr (13, [.ref q1, .ref q2, .ref q3, .int (nI k)])), (q1, .inl (cI, 9, .inl fa)), (q2, .inl (cI, 9, .inl ga)), (q3, .inl (cI, 8, .inl h))]) [0, 1, 2, 3] (by decide) rfl
            have hFc := va_free (wc := [(h0, .inr (13, [.ref q1, .ref q2, .ref q3, .int (nI k)])), (q1, .inl (cI, 9, .inl fa)), (q2, .inl (cI, 9, .inl ga)), (q3, .inl (cI, 8, .inl h))]) hD hS hA [0, 1, 2, 3] rfl
            have hZc := (hNZ.kept hS.2.1).narrow hFc
            have hTc := (hNT.kept hS.2.1).narrow hFc
            refine va_calli (va_runV (As := [.int mi]) (rest := []) ⟨hx, hb, hml, hown, hts⟩ (metX8_isFirstOfAlike l dC dI cI cJ cC cZ cD nt ng H.size h0 q1 q2 q3 fa ga h k mi hk hkk) (cwV 1 hts gX8_counted_X8_isFirstOfAlike rfl rfl rfl (by decide +kernel) ⟨Nat.le_of_ble_eq_true rfl, Nat.le_of_ble_eq_true rfl⟩) ⟨fun a U g mk q => by obtain ⟨q0, q1, qP, qK, qD, qZ, qT⟩ := q; exact ⟨q0, q1, qP, va_K.moved (u := U) (U := U.calling g mk a) (Vm.Alike.refl U.vm) qK, qD, va_Z.moved (u := U) (U := U.calling g mk a) (Vm.Alike.refl U.vm) qZ, va_T.moved (u := U) (U := U.calling g mk a) (Vm.Alike.refl U.vm) qT⟩, va_recv hK hPc (ci := 13) (q0 := 0) rfl rfl, fun U hU hW => ⟨rfl, by rw [hU], by rw [hU]; exact hPc, va_K.moved hW.alike hK, hDc.weaken (fun _ _ _ _ => trivial), va_Z.moved hW.alike (by rw [hU]; exact hZc), va_T.moved hW.alike (by rw [hU]; exact hTc)⟩⟩ rfl rfl hl.1 rfl (lv_room (Nat.le_of_ble_eq_true rfl)) dX8_counted_36 ⟨Nat.le_of_ble_eq_true rfl, Nat.le_of_ble_eq_true rfl⟩) hS (fun q _ h => hFc q h) hFc (fun r9 u t H1 locs ht hvm hw hB hz1 hk1 hS => ?_)
            obtain ⟨g10, rfl⟩ : ∃ z, z = u := ⟨_, rfl⟩
            obtain ⟨hP1, hK1, hD1⟩ := hB
            rw [ht] at hP1
            try dsimp only at hP1 hD1 hw
            obtain ⟨hP, hD⟩ := va_join (wr := []) (w1 := [(h0, .inr (13, [.ref q1, .ref q2, .ref q3, .int (nI k)])), (q1, .inl (cI, 9, .inl fa)), (q2, .inl (cI, 9, .inl g10)), (q3, .inl (cI, 8, .inl h))]) hP hD [0, 1, 2, 3] [] rfl rfl (by decide) (by decide) hk1 hFc hP1 hD1
            generalize H1 = H at hP hS ⊢
            have hP : va_P (dC, dI) vwCl [(h0, .inr (13, [.ref q1, .ref q2, .ref q3, .int (nI k)])), (q1, .inl (cI, 9, .inl fa)), (q2, .inl (cI, 9, .inl g10)), (q3, .inl (cI, 8, .inl h))] H := hP
            have hD : va_D A [(h0, .inr (13, [.ref q1, .ref q2, .ref q3, .int (nI k)])), (q1, .inl (cI, 9, .inl fa)), (q2, .inl (cI, 9, .inl g10)), (q3, .inl (cI, 8, .inl h))] := hD
            refine lv_if_eq (tgt := 45) hx hb dX8_counted_39 (by decide) (fun hc11 => ?_) (fun hc11 => ?_)
            · refine lv_aload_n hx hb dX8_counted_45 rfl (lv_at hl 0 rfl) ?_
              have hPc := hP.sub (ws' := [(h0, .inr (13, [.ref q1, .ref q2, .ref q3, .int (nI k)])), (q1, .inl (cI, 9, .inl fa)), (q2, .inl (cI, 9, .inl g10)), (q3, .inl (cI, 8, .inl h))]) [0, 1, 2, 3] rfl
              have hDc := hD.sub (ws' := [(h0, .inr (13, [.ref q1, .ref q2, .ref q3, .int (nI k)])), (q1, .inl (cI, 9, .inl fa)), (q2, .inl (cI, 9, .inl g10)), (q3, .inl (cI, 8, .inl h))]) [0, 1, 2, 3] (by decide) rfl
              have hFc := va_free (wc := [(h0, .inr (13, [.ref q1, .ref q2, .ref q3, .int (nI k)])), (q1, .inl (cI, 9, .inl fa)), (q2, .inl (cI, 9, .inl g10)), (q3, .inl (cI, 8, .inl h))]) hD hS hA [0, 1, 2, 3] rfl
              refine va_calli (va_runV (As := []) (rest := []) ⟨hx, hb, hml, hown, hts⟩ (metX8_isNextTable l dC dI cI cJ cC cZ cD H.size h0 q1 q2 q3 fa g10 h k hk hkk hkp) (cwV 0 hts gX8_counted_X8_isNextTable rfl rfl rfl (by decide +kernel) ⟨Nat.le_of_ble_eq_true rfl, Nat.le_of_ble_eq_true rfl⟩) ⟨fun a U g mk q => by obtain ⟨q0, q1, qP, qK, qD⟩ := q; exact ⟨q0, q1, qP, va_K.moved (u := U) (U := U.calling g mk a) (Vm.Alike.refl U.vm) qK, qD⟩, va_recv hK hPc (ci := 13) (q0 := 0) rfl rfl, fun U hU hW => ⟨rfl, by rw [hU], by rw [hU]; exact hPc, va_K.moved hW.alike hK, hDc.weaken (fun _ _ _ _ => trivial)⟩⟩ rfl rfl hl.1 rfl (lv_room (Nat.le_of_ble_eq_true rfl)) dX8_counted_46 ⟨Nat.le_of_ble_eq_true rfl, Nat.le_of_ble_eq_true rfl⟩) hS (fun q _ h => hFc q h) hFc (fun r12 u t H1 locs ht hvm hw hB hz1 hk1 hS => ?_)
              obtain ⟨f13, rfl⟩ : ∃ z, z = u := ⟨_, rfl⟩
              obtain ⟨hP1, hK1, hD1⟩ := hB
              rw [ht] at hP1
              try dsimp only at hP1 hD1 hw
              obtain ⟨hP, hD⟩ := va_join (wr := []) (w1 := [(h0, .inr (13, [.ref q1, .ref q2, .ref q3, .int (nI k)])), (q1, .inl (cI, 9, .inl f13)), (q2, .inl (cI, 9, .inl g10)), (q3, .inl (cI, 8, .inl h))]) hP hD [0, 1, 2, 3] [] rfl rfl (by decide) (by decide) hk1 hFc hP1 hD1
              generalize H1 = H at hP hS ⊢
              have hP : va_P (dC, dI) vwCl [(h0, .inr (13, [.ref q1, .ref q2, .ref q3, .int (nI k)])), (q1, .inl (cI, 9, .inl f13)), (q2, .inl (cI, 9, .inl g10)), (q3, .inl (cI, 8, .inl h))] H := hP
              have hD : va_D A [(h0, .inr (13, [.ref q1, .ref q2, .ref q3, .int (nI k)])), (q1, .inl (cI, 9, .inl f13)), (q2, .inl (cI, 9, .inl g10)), (q3, .inl (cI, 8, .inl h))] := hD
              refine lv_istore_n (lv' := [(3, .int r12), (0, .ref h0), (1, .int mi), (2, .int fd), (4, .int (nI i1))]) hx hb dX8_counted_49 rfl hl (by decide) rfl (fun ls hl => ?_)
              refine lv_iinc (v := (nI (i1 + 1))) (lv' := [(4, .int (nI (i1 + 1))), (3, .int r12), (0, .ref h0), (1, .int mi), (2, .int fd)]) hx hb dX8_counted_50 hl (k := 4) rfl (by rw [show Int32.ofInt 1 = (1 : Int32) from rfl]; exact nI_1 _) (by decide) rfl (fun ls hl => ?_)
              refine lv_goto (tgt := 15) hx hb dX8_counted_53 (by decide) ?_
              exact ihL1 (i1 + 1) f13 g10 (fd) r12 H locs _ (by omega) (by omega)  hP hD hS (lv_sub hl [2, 3, 4, 1, 0] rfl)
            · refine lv_iinc (v := (fd + Int32.ofInt (1))) (lv' := [(2, .int (fd + Int32.ofInt (1))), (0, .ref h0), (1, .int mi), (3, .int mo), (4, .int (nI i1))]) hx hb dX8_counted_42 hl (k := 2) rfl rfl (by decide) rfl (fun ls hl => ?_)
              refine lv_aload_n hx hb dX8_counted_45 rfl (lv_at hl 1 rfl) ?_
              have hPc := hP.sub (ws' := [(h0, .inr (13, [.ref q1, .ref q2, .ref q3, .int (nI k)])), (q1, .inl (cI, 9, .inl fa)), (q2, .inl (cI, 9, .inl g10)), (q3, .inl (cI, 8, .inl h))]) [0, 1, 2, 3] rfl
              have hDc := hD.sub (ws' := [(h0, .inr (13, [.ref q1, .ref q2, .ref q3, .int (nI k)])), (q1, .inl (cI, 9, .inl fa)), (q2, .inl (cI, 9, .inl g10)), (q3, .inl (cI, 8, .inl h))]) [0, 1, 2, 3] (by decide) rfl
              have hFc := va_free (wc := [(h0, .inr (13, [.ref q1, .ref q2, .ref q3, .int (nI k)])), (q1, .inl (cI, 9, .inl fa)), (q2, .inl (cI, 9, .inl g10)), (q3, .inl (cI, 8, .inl h))]) hD hS hA [0, 1, 2, 3] rfl
              refine va_calli (va_runV (As := []) (rest := []) ⟨hx, hb, hml, hown, hts⟩ (metX8_isNextTable l dC dI cI cJ cC cZ cD H.size h0 q1 q2 q3 fa g10 h k hk hkk hkp) (cwV 0 hts gX8_counted_X8_isNextTable rfl rfl rfl (by decide +kernel) ⟨Nat.le_of_ble_eq_true rfl, Nat.le_of_ble_eq_true rfl⟩) ⟨fun a U g mk q => by obtain ⟨q0, q1, qP, qK, qD⟩ := q; exact ⟨q0, q1, qP, va_K.moved (u := U) (U := U.calling g mk a) (Vm.Alike.refl U.vm) qK, qD⟩, va_recv hK hPc (ci := 13) (q0 := 0) rfl rfl, fun U hU hW => ⟨rfl, by rw [hU], by rw [hU]; exact hPc, va_K.moved hW.alike hK, hDc.weaken (fun _ _ _ _ => trivial)⟩⟩ rfl rfl hl.1 rfl (lv_room (Nat.le_of_ble_eq_true rfl)) dX8_counted_46 ⟨Nat.le_of_ble_eq_true rfl, Nat.le_of_ble_eq_true rfl⟩) hS (fun q _ h => hFc q h) hFc (fun r14 u t H1 locs ht hvm hw hB hz1 hk1 hS => ?_)
              obtain ⟨f15, rfl⟩ : ∃ z, z = u := ⟨_, rfl⟩
              obtain ⟨hP1, hK1, hD1⟩ := hB
              rw [ht] at hP1
              try dsimp only at hP1 hD1 hw
              obtain ⟨hP, hD⟩ := va_join (wr := []) (w1 := [(h0, .inr (13, [.ref q1, .ref q2, .ref q3, .int (nI k)])), (q1, .inl (cI, 9, .inl f15)), (q2, .inl (cI, 9, .inl g10)), (q3, .inl (cI, 8, .inl h))]) hP hD [0, 1, 2, 3] [] rfl rfl (by decide) (by decide) hk1 hFc hP1 hD1
              generalize H1 = H at hP hS ⊢
              have hP : va_P (dC, dI) vwCl [(h0, .inr (13, [.ref q1, .ref q2, .ref q3, .int (nI k)])), (q1, .inl (cI, 9, .inl f15)), (q2, .inl (cI, 9, .inl g10)), (q3, .inl (cI, 8, .inl h))] H := hP
              have hD : va_D A [(h0, .inr (13, [.ref q1, .ref q2, .ref q3, .int (nI k)])), (q1, .inl (cI, 9, .inl f15)), (q2, .inl (cI, 9, .inl g10)), (q3, .inl (cI, 8, .inl h))] := hD
              refine lv_istore_n (lv' := [(3, .int r14), (2, .int (fd + Int32.ofInt (1))), (0, .ref h0), (1, .int mi), (4, .int (nI i1))]) hx hb dX8_counted_49 rfl hl (by decide) rfl (fun ls hl => ?_)
              refine lv_iinc (v := (nI (i1 + 1))) (lv' := [(4, .int (nI (i1 + 1))), (3, .int r14), (2, .int (fd + Int32.ofInt (1))), (0, .ref h0), (1, .int mi)]) hx hb dX8_counted_50 hl (k := 4) rfl (by rw [show Int32.ofInt 1 = (1 : Int32) from rfl]; exact nI_1 _) (by decide) rfl (fun ls hl => ?_)
              refine lv_goto (tgt := 15) hx hb dX8_counted_53 (by decide) ?_
              exact ihL1 (i1 + 1) f15 g10 (fd + Int32.ofInt (1)) r14 H locs _ (by omega) (by omega)  hP hD hS (lv_sub hl [3, 4, 2, 1, 0] rfl)
  have hP := hP.sub (ws' := [(h0, .inr (13, [.ref q1, .ref q2, .ref q3, .int (nI k)])), (q1, .inl (cI, 9, .inl f2)), (q2, .inl (cI, 9, .inl g)), (q3, .inl (cI, 8, .inl h))]) [0, 3, 1, 2] rfl
  have hD := hD.sub (ws' := [(h0, .inr (13, [.ref q1, .ref q2, .ref q3, .int (nI k)])), (q1, .inl (cI, 9, .inl f2)), (q2, .inl (cI, 9, .inl g)), (q3, .inl (cI, 8, .inl h))]) [0, 3, 1, 2] (by decide) rfl
  exact L1 (20000 + 1) 0 f2 g (nI 0) (nI 1) H locs _ (by omega) (by omega)  hP hD hS (lv_sub hl [3, 4, 2, 1, 0] rfl)
set_option maxHeartbeats 4000000 in
set_option maxRecDepth 100000 in
theorem metX8_countUpToLikeness (l : Launch) (dC : Nat → ClassId) (dI : Nat → Nat → Nat) (cI cJ cC cZ cD : ClassId) (nt : Nat) (ng : Nat → Int32) (sz : Nat) (h0 q1 q2 q3 : Nat) (f g h : Nat → Int32) (sd : Int32) (k mb : Nat) (hk : k ≤ 3) (hk0 : 1 ≤ k) (hkk : k * k ≤ 9) (hkp : 1 ≤ k * k) (hmb : mb ≤ 1) : Met l yX8_countUpToLikeness wsX8_countUpToLikeness ({ frames := 4, cells := 0, slots := 0, locals := 96 }) (va_Pc [.ref h0, .int (nI k), .int (nI mb)] (fun U => U.heap.size = sz ∧ va_P (dC, dI) vwCl [(h0, .inr (13, [.ref q1, .ref q2, .ref q3, .int sd])), (q1, .inl (cI, 9, .inl f)), (q2, .inl (cI, 9, .inl g)), (q3, .inl (cI, 8, .inl h))] U.heap ∧ va_K (dC, dI) vwCl [(cI, .int), (cJ, .long), (cC, .char), (cZ, .boolean), (cD, .double)] U ∧ va_D (fun _ => True) [(h0, .inr (13, [.ref q1, .ref q2, .ref q3, .int sd])), (q1, .inl (cI, 9, .inl f)), (q2, .inl (cI, 9, .inl g)), (q3, .inl (cI, 8, .inl h))] ∧ va_Z RX8 "NAMES" "[I" (.ref nt) (va_A [(h0, .inr (13, [.ref q1, .ref q2, .ref q3, .int sd])), (q1, .inl (cI, 9, .inl f)), (q2, .inl (cI, 9, .inl g)), (q3, .inl (cI, 8, .inl h))] sz) U U.heap ∧ va_T .int nt 18 (fun j => .int (ng j)) (va_A [(h0, .inr (13, [.ref q1, .ref q2, .ref q3, .int sd])), (q1, .inl (cI, 9, .inl f)), (q2, .inl (cI, 9, .inl g)), (q3, .inl (cI, 8, .inl h))] sz) U U.heap)) (va_Qi (fun (r : Int32) (u : (Nat → Int32) × (Nat → Int32) × (Nat → Int32) × (Int32)) => True) (fun (u : (Nat → Int32) × (Nat → Int32) × (Nat → Int32) × (Int32)) (t : State) => va_P (dC, dI) vwCl [(h0, .inr (13, [.ref q1, .ref q2, .ref q3, .int (u.2.2.2)])), (q1, .inl (cI, 9, .inl u.1)), (q2, .inl (cI, 9, .inl u.2.1)), (q3, .inl (cI, 8, .inl u.2.2.1))] t.heap ∧ va_K (dC, dI) vwCl [(cI, .int), (cJ, .long), (cC, .char), (cZ, .boolean), (cD, .double)] t ∧ va_D (va_A [(h0, .inr (13, [.ref q1, .ref q2, .ref q3, .int sd])), (q1, .inl (cI, 9, .inl f)), (q2, .inl (cI, 9, .inl g)), (q3, .inl (cI, 8, .inl h))] sz) [(h0, .inr (13, [.ref q1, .ref q2, .ref q3, .int (u.2.2.2)])), (q1, .inl (cI, 9, .inl u.1)), (q2, .inl (cI, 9, .inl u.2.1)), (q3, .inl (cI, 8, .inl u.2.2.1))]) (va_A [(h0, .inr (13, [.ref q1, .ref q2, .ref q3, .int sd])), (q1, .inl (cI, 9, .inl f)), (q2, .inl (cI, 9, .inl g)), (q3, .inl (cI, 8, .inl h))] sz)) 0 0 (va_A [(h0, .inr (13, [.ref q1, .ref q2, .ref q3, .int sd])), (q1, .inl (cI, 9, .inl f)), (q2, .inl (cI, 9, .inl g)), (q3, .inl (cI, 8, .inl h))] sz) := by
  refine Met.ofW (cc := cX8_countUpToLikeness) (maxL := 4) (ret := (some .int)) (by decide) rfl ?_
  intro p e s m args below meth c s₁ B hml hv
  obtain ⟨rfl, hsz, hP, hK, hD0, hNZ, hNT⟩ := hv
  have hx := B.exec
  have hb := B.bytes
  have hr := B.returns
  have hts := atoms_spec (ws := wsX8_countUpToLikeness) B.pre
  have hown : s.vm.findClass RX8 = some m.cls := findClass_of_methodNamed B.named
  have hlocks := B.notSynchronized
  subst hsz
  have hD := hD0.self (sz := s.heap.size)
  generalize hAe : va_A [(h0, .inr (13, [.ref q1, .ref q2, .ref q3, .int sd])), (q1, .inl (cI, 9, .inl f)), (q2, .inl (cI, 9, .inl g)), (q3, .inl (cI, 8, .inl h))] s.heap.size = A at hD hNZ hNT ⊢
  have hA : ∀ q : Nat, s.heap.size ≤ q → A q := fun q h => by rw [← hAe]; exact Or.inr h
  have hS : va_S A s.heap s.heap [] := va_S.rf
  have hP : va_P (dC, dI) vwCl [(h0, .inr (13, [.ref q1, .ref q2, .ref q3, .int sd])), (q1, .inl (cI, 9, .inl f)), (q2, .inl (cI, 9, .inl g)), (q3, .inl (cI, 8, .inl h))] s.heap := hP
  have hl := lv_entry ([.ref h0, .int (nI k), .int (nI mb)]) (n := 4) (Nat.le_of_ble_eq_true rfl)
  rw [lg_entry_eq]
  generalize (lg_sl ([.ref h0, .int (nI k), .int (nI mb)]) ++ List.replicate (4 - (lg_sl ([.ref h0, .int (nI k), .int (nI mb)])).length) Slot.unset).toArray = ls at hl ⊢
  have hinX8 : ∀ w ∈ wsX80, w ∈ wsX8_countUpToLikeness := by decide +kernel
  have hl : lv_has ls 4 [(0, .ref h0), (1, .int (nI k)), (2, .int (nI mb))] := hl
  refine lv_iconst (v := (nI 2)) hx hb dX8_countUpToLikeness_0 (by decide) ?_
  refine lv_iload_n hx hb dX8_countUpToLikeness_1 rfl (lv_at hl 1 rfl) ?_
  refine lv_imul hx hb dX8_countUpToLikeness_2 ?_
  refine lv_topi (nm_r (e' := nI (2 * k)) (pk_mul _ _) ?_)
  refine lv_iload_n hx hb dX8_countUpToLikeness_3 rfl (lv_at hl 2 rfl) ?_
  refine lv_if_eq (tgt := 11) hx hb dX8_countUpToLikeness_4 (by decide) (fun hc1 => ?_) (fun hc1 => ?_)
  · have hc1 := hc1
    try rw [show (0 : Int32) = nI 0 from rfl] at hc1
    try simp only [ge_iff_le, gt_iff_lt, ne_eq] at hc1
    rw [nI_eq (by omega) (by omega)] at hc1
    have hm0 := hc1
    refine lv_iconst (v := (nI 0)) hx hb dX8_countUpToLikeness_11 (by decide) ?_
    refine lv_iadd hx hb dX8_countUpToLikeness_12 ?_
    refine lv_topi (nm_r (e' := nI ((2 * k) + 0)) (nI_add _ _) ?_)
    refine lv_istore_n (lv' := [(3, .int (nI ((2 * k) + 0))), (0, .ref h0), (1, .int (nI k)), (2, .int (nI mb))]) hx hb dX8_countUpToLikeness_13 rfl hl (by decide) rfl (fun ls hl => ?_)
    refine lv_iload_n hx hb dX8_countUpToLikeness_14 rfl (lv_at hl 2 rfl) ?_
    refine lv_iconst (v := (nI 1)) hx hb dX8_countUpToLikeness_15 (by decide) ?_
    refine lv_icmp_lt (tgt := 33) hx hb dX8_countUpToLikeness_16 (by decide) (fun hc2 => ?_) (fun hc2 => ?_)
    · try simp only [ge_iff_le, gt_iff_lt, ne_eq] at hc2
      rw [nI_ltI (by omega) (by omega)] at hc2
      exact absurd hc2 (by omega)
    · try simp only [ge_iff_le, gt_iff_lt, ne_eq] at hc2
      rw [nI_ltI (by omega) (by omega)] at hc2
      refine lv_iload_n hx hb dX8_countUpToLikeness_19 rfl (lv_at hl 2 rfl) ?_
      refine lv_iconst (v := (nI 3)) hx hb dX8_countUpToLikeness_20 (by decide) ?_
      refine lv_icmp_gt (tgt := 33) hx hb dX8_countUpToLikeness_21 (by decide) (fun hc3 => ?_) (fun hc3 => ?_)
      · try simp only [ge_iff_le, gt_iff_lt, ne_eq] at hc3
        rw [nI_ltI (by omega) (by omega)] at hc3
        exact absurd hc3 (by omega)
      · try simp only [ge_iff_le, gt_iff_lt, ne_eq] at hc3
        rw [nI_ltI (by omega) (by omega)] at hc3
        refine lv_iload_n hx hb dX8_countUpToLikeness_24 rfl (lv_at hl 0 rfl) ?_
        refine lv_aload_n hx hb dX8_countUpToLikeness_25 rfl (lv_at hl 1 rfl) ?_
        refine va_get (D := (dC, dI)) (ci := 13) (v := .ref q3) (C := RX8) (T := TX8) (N := 4) hx hb hts hinX8 hown hK hP 0 rfl rfl 2 (by decide) (hts (.fieldLink RX8 16 "Eggboxery$Tables" "answers" "[I") (by decide +kernel)) (fun _ h9 => h9) rfl dX8_countUpToLikeness_26 ?_
        refine va_alen (v := nI (8)) hx hb hK hP 3 0 rfl rfl rfl dX8_countUpToLikeness_29 ?_
        refine lv_icmp_lt (tgt := 35) hx hb dX8_countUpToLikeness_30 (by decide) (fun hc4 => ?_) (fun hc4 => ?_)
        · try simp only [ge_iff_le, gt_iff_lt, ne_eq] at hc4
          rw [nI_ltI (by omega) (by omega)] at hc4
          refine lv_aload_n hx hb dX8_countUpToLikeness_35 rfl (lv_at hl 1 rfl) ?_
          refine va_get (D := (dC, dI)) (ci := 13) (v := .ref q3) (C := RX8) (T := TX8) (N := 4) hx hb hts hinX8 hown hK hP 0 rfl rfl 2 (by decide) (hts (.fieldLink RX8 16 "Eggboxery$Tables" "answers" "[I") (by decide +kernel)) (fun _ h9 => h9) rfl dX8_countUpToLikeness_36 ?_
          refine lv_iload_n hx hb dX8_countUpToLikeness_39 rfl (lv_at hl 0 rfl) ?_
          refine va_iald hx hb hK hP 3 0 rfl rfl (vp_in_nI (n := (2 * k) + 0) (by omega) (by omega)) dX8_countUpToLikeness_40 ?_
          refine lv_topi (fun z5 ez5 => ?_)
          refine lv_if_ne (tgt := 60) hx hb dX8_countUpToLikeness_41 (by decide) (fun hc6 => ?_) (fun hc6 => ?_)
          · refine lv_aload_n hx hb dX8_countUpToLikeness_60 rfl (lv_at hl 1 rfl) ?_
            refine va_get (D := (dC, dI)) (ci := 13) (v := .ref q3) (C := RX8) (T := TX8) (N := 4) hx hb hts hinX8 hown hK hP 0 rfl rfl 2 (by decide) (hts (.fieldLink RX8 16 "Eggboxery$Tables" "answers" "[I") (by decide +kernel)) (fun _ h9 => h9) rfl dX8_countUpToLikeness_61 ?_
            refine lv_iload_n hx hb dX8_countUpToLikeness_64 rfl (lv_at hl 0 rfl) ?_
            refine va_iald hx hb hK hP 3 0 rfl rfl (vp_in_nI (n := (2 * k) + 0) (by omega) (by omega)) dX8_countUpToLikeness_65 ?_
            refine lv_topi (fun z7 ez7 => ?_)
            have hP9 := hP.sub (ws' := [(h0, .inr (13, [.ref q1, .ref q2, .ref q3, .int sd])), (q1, .inl (cI, 9, .inl f)), (q2, .inl (cI, 9, .inl g)), (q3, .inl (cI, 8, .inl h))]) [0, 1, 2, 3] rfl
            have hD9 := hD.sub (ws' := [(h0, .inr (13, [.ref q1, .ref q2, .ref q3, .int sd])), (q1, .inl (cI, 9, .inl f)), (q2, .inl (cI, 9, .inl g)), (q3, .inl (cI, 8, .inl h))]) [0, 1, 2, 3] (by decide) rfl
            exact W.iret (v := z7) hx hb hr (fun t ht hW => ⟨⟨z7, (f, g, h, sd), rfl, trivial, by rw [ht]; exact hP9, va_K.moved hW.alike hK, hD9⟩, hS.F ht⟩) hS.2.2 dX8_countUpToLikeness_66
          · refine lv_aload_n hx hb dX8_countUpToLikeness_44 rfl (lv_at hl 1 rfl) ?_
            refine lv_iload_n hx hb dX8_countUpToLikeness_45 rfl (lv_at hl 2 rfl) ?_
            refine va_put (D := (dC, dI)) (ci := 13) (v := .int (nI k)) (ty := .int) (C := RX8) (T := TX8) (N := 4) hx hb hts hinX8 tyX8 tyX8_ok nmX8 hown hK hP hD hS 0 rfl rfl 3 (by decide) (hts (.fieldLink RX8 19 "Eggboxery$Tables" "side" "I") (by decide +kernel)) (fun _ h9 => h9) rfl (by decide +kernel) rfl rfl (Nat.le_of_ble_eq_true rfl) dX8_countUpToLikeness_46 (fun H locs hP hD hS => ?_)
            have hP : va_P (dC, dI) vwCl [(h0, .inr (13, [.ref q1, .ref q2, .ref q3, .int (nI k)])), (q1, .inl (cI, 9, .inl f)), (q2, .inl (cI, 9, .inl g)), (q3, .inl (cI, 8, .inl h))] H := hP
            have hD : va_D A [(h0, .inr (13, [.ref q1, .ref q2, .ref q3, .int (nI k)])), (q1, .inl (cI, 9, .inl f)), (q2, .inl (cI, 9, .inl g)), (q3, .inl (cI, 8, .inl h))] := hD
            refine lv_aload_n hx hb dX8_countUpToLikeness_49 rfl (lv_at hl 1 rfl) ?_
            refine va_get (D := (dC, dI)) (ci := 13) (v := .ref q3) (C := RX8) (T := TX8) (N := 4) hx hb hts hinX8 hown hK hP 0 rfl rfl 2 (by decide) (hts (.fieldLink RX8 16 "Eggboxery$Tables" "answers" "[I") (by decide +kernel)) (fun _ h9 => h9) rfl dX8_countUpToLikeness_50 ?_
            refine lv_iload_n hx hb dX8_countUpToLikeness_53 rfl (lv_at hl 0 rfl) ?_
            refine lv_aload_n hx hb dX8_countUpToLikeness_54 rfl (lv_at hl 1 rfl) ?_
            refine lv_iload_n hx hb dX8_countUpToLikeness_55 rfl (lv_at hl 3 rfl) ?_
            have hPc := hP.sub (ws' := [(h0, .inr (13, [.ref q1, .ref q2, .ref q3, .int (nI k)])), (q1, .inl (cI, 9, .inl f)), (q2, .inl (cI, 9, .inl g)), (q3, .inl (cI, 8, .inl h))]) [0, 1, 2, 3] rfl
            have hDc := hD.sub (ws' := [(h0, .inr (13, [.ref q1, .ref q2, .ref q3, .int (nI k)])), (q1, .inl (cI, 9, .inl f)), (q2, .inl (cI, 9, .inl g)), (q3, .inl (cI, 8, .inl h))]) [0, 1, 2, 3] (by decide) rfl
            have hFc := va_free (wc := [(h0, .inr (13, [.ref q1, .ref q2, .ref q3, .int (nI k)])), (q1, .inl (cI, 9, .inl f)), (q2, .inl (cI, 9, .inl g)), (q3, .inl (cI, 8, .inl h))]) hD hS hA [0, 1, 2, 3] rfl
            have hZc := (hNZ.kept hS.2.1).narrow hFc
            have hTc := (hNT.kept hS.2.1).narrow hFc
            refine va_calli (va_runV (As := [.int (nI mb)]) (rest := [.int (nI ((2 * k) + 0)), .ref q3]) ⟨hx, hb, hml, hown, hts⟩ (metX8_counted l dC dI cI cJ cC cZ cD nt ng H.size h0 q1 q2 q3 f g h k (nI mb) hk hkk hkp) (cwV 1 hts gX8_countUpToLikeness_X8_counted rfl rfl rfl (by decide +kernel) ⟨Nat.le_of_ble_eq_true rfl, Nat.le_of_ble_eq_true rfl⟩) ⟨fun a U g mk q => by obtain ⟨q0, q1, qP, qK, qD, qZ, qT⟩ := q; exact ⟨q0, q1, qP, va_K.moved (u := U) (U := U.calling g mk a) (Vm.Alike.refl U.vm) qK, qD, va_Z.moved (u := U) (U := U.calling g mk a) (Vm.Alike.refl U.vm) qZ, va_T.moved (u := U) (U := U.calling g mk a) (Vm.Alike.refl U.vm) qT⟩, va_recv hK hPc (ci := 13) (q0 := 0) rfl rfl, fun U hU hW => ⟨rfl, by rw [hU], by rw [hU]; exact hPc, va_K.moved hW.alike hK, hDc.weaken (fun _ _ _ _ => trivial), va_Z.moved hW.alike (by rw [hU]; exact hZc), va_T.moved hW.alike (by rw [hU]; exact hTc)⟩⟩ rfl rfl hl.1 rfl (lv_room (Nat.le_of_ble_eq_true rfl)) dX8_countUpToLikeness_56 ⟨Nat.le_of_ble_eq_true rfl, Nat.le_of_ble_eq_true rfl⟩) hS (fun q _ h => hFc q h) hFc (fun r8 u t H1 locs ht hvm hw hB hz1 hk1 hS => ?_)
            obtain ⟨f9, g10⟩ := u
            obtain ⟨hP1, hK1, hD1⟩ := hB
            rw [ht] at hP1
            try dsimp only at hP1 hD1 hw
            obtain ⟨hP, hD⟩ := va_join (wr := []) (w1 := [(h0, .inr (13, [.ref q1, .ref q2, .ref q3, .int (nI k)])), (q1, .inl (cI, 9, .inl f9)), (q2, .inl (cI, 9, .inl g10)), (q3, .inl (cI, 8, .inl h))]) hP hD [0, 1, 2, 3] [] rfl rfl (by decide) (by decide) hk1 hFc hP1 hD1
            generalize H1 = H at hP hS ⊢
            have hP : va_P (dC, dI) vwCl [(h0, .inr (13, [.ref q1, .ref q2, .ref q3, .int (nI k)])), (q1, .inl (cI, 9, .inl f9)), (q2, .inl (cI, 9, .inl g10)), (q3, .inl (cI, 8, .inl h))] H := hP
            have hD : va_D A [(h0, .inr (13, [.ref q1, .ref q2, .ref q3, .int (nI k)])), (q1, .inl (cI, 9, .inl f9)), (q2, .inl (cI, 9, .inl g10)), (q3, .inl (cI, 8, .inl h))] := hD
            refine va_iast hx hb hK hP hD hS 3 0 rfl rfl (vp_in_nI (n := (2 * k) + 0) (by omega) (by omega)) dX8_countUpToLikeness_59 (fun H locs hP hD hS => ?_)
            obtain ⟨g11, eg11⟩ : ∃ z, z = upd h ((nI ((2 * k) + 0))).toNatClampNeg r8 := ⟨_, rfl⟩
            have hP : va_P (dC, dI) vwCl [(h0, .inr (13, [.ref q1, .ref q2, .ref q3, .int (nI k)])), (q1, .inl (cI, 9, .inl f9)), (q2, .inl (cI, 9, .inl g10)), (q3, .inl (cI, 8, .inl g11))] H := by rw [eg11]; exact hP
            have hD : va_D A [(h0, .inr (13, [.ref q1, .ref q2, .ref q3, .int (nI k)])), (q1, .inl (cI, 9, .inl f9)), (q2, .inl (cI, 9, .inl g10)), (q3, .inl (cI, 8, .inl g11))] := by rw [eg11]; exact hD
            refine lv_aload_n hx hb dX8_countUpToLikeness_60 rfl (lv_at hl 1 rfl) ?_
            refine va_get (D := (dC, dI)) (ci := 13) (v := .ref q3) (C := RX8) (T := TX8) (N := 4) hx hb hts hinX8 hown hK hP 0 rfl rfl 2 (by decide) (hts (.fieldLink RX8 16 "Eggboxery$Tables" "answers" "[I") (by decide +kernel)) (fun _ h9 => h9) rfl dX8_countUpToLikeness_61 ?_
            refine lv_iload_n hx hb dX8_countUpToLikeness_64 rfl (lv_at hl 0 rfl) ?_
            refine va_iald hx hb hK hP 3 0 rfl rfl (vp_in_nI (n := (2 * k) + 0) (by omega) (by omega)) dX8_countUpToLikeness_65 ?_
            refine lv_topi (fun z12 ez12 => ?_)
            have hP9 := hP.sub (ws' := [(h0, .inr (13, [.ref q1, .ref q2, .ref q3, .int (nI k)])), (q1, .inl (cI, 9, .inl f9)), (q2, .inl (cI, 9, .inl g10)), (q3, .inl (cI, 8, .inl g11))]) [0, 1, 2, 3] rfl
            have hD9 := hD.sub (ws' := [(h0, .inr (13, [.ref q1, .ref q2, .ref q3, .int (nI k)])), (q1, .inl (cI, 9, .inl f9)), (q2, .inl (cI, 9, .inl g10)), (q3, .inl (cI, 8, .inl g11))]) [0, 1, 2, 3] (by decide) rfl
            exact W.iret (v := z12) hx hb hr (fun t ht hW => ⟨⟨z12, (f9, g10, g11, (nI k)), rfl, trivial, by rw [ht]; exact hP9, va_K.moved hW.alike hK, hD9⟩, hS.F ht⟩) hS.2.2 dX8_countUpToLikeness_66
        · try simp only [ge_iff_le, gt_iff_lt, ne_eq] at hc4
          rw [nI_ltI (by omega) (by omega)] at hc4
          exact absurd hc4 (by omega)
  · have hc1 := hc1
    try rw [show (0 : Int32) = nI 0 from rfl] at hc1
    try simp only [ge_iff_le, gt_iff_lt, ne_eq] at hc1
    rw [nI_eq (by omega) (by omega)] at hc1
    have hm0 := hc1
    refine lv_iconst (v := (nI 1)) hx hb dX8_countUpToLikeness_7 (by decide) ?_
    refine lv_goto (tgt := 12) hx hb dX8_countUpToLikeness_8 (by decide) ?_
    refine lv_iadd hx hb dX8_countUpToLikeness_12 ?_
    refine lv_topi (nm_r (e' := nI ((2 * k) + 1)) (nI_add _ _) ?_)
    refine lv_istore_n (lv' := [(3, .int (nI ((2 * k) + 1))), (0, .ref h0), (1, .int (nI k)), (2, .int (nI mb))]) hx hb dX8_countUpToLikeness_13 rfl hl (by decide) rfl (fun ls hl => ?_)
    refine lv_iload_n hx hb dX8_countUpToLikeness_14 rfl (lv_at hl 2 rfl) ?_
    refine lv_iconst (v := (nI 1)) hx hb dX8_countUpToLikeness_15 (by decide) ?_
    refine lv_icmp_lt (tgt := 33) hx hb dX8_countUpToLikeness_16 (by decide) (fun hc13 => ?_) (fun hc13 => ?_)
    · try simp only [ge_iff_le, gt_iff_lt, ne_eq] at hc13
      rw [nI_ltI (by omega) (by omega)] at hc13
      exact absurd hc13 (by omega)
    · try simp only [ge_iff_le, gt_iff_lt, ne_eq] at hc13
      rw [nI_ltI (by omega) (by omega)] at hc13
      refine lv_iload_n hx hb dX8_countUpToLikeness_19 rfl (lv_at hl 2 rfl) ?_
      refine lv_iconst (v := (nI 3)) hx hb dX8_countUpToLikeness_20 (by decide) ?_
      refine lv_icmp_gt (tgt := 33) hx hb dX8_countUpToLikeness_21 (by decide) (fun hc14 => ?_) (fun hc14 => ?_)
      · try simp only [ge_iff_le, gt_iff_lt, ne_eq] at hc14
        rw [nI_ltI (by omega) (by omega)] at hc14
        exact absurd hc14 (by omega)
      · try simp only [ge_iff_le, gt_iff_lt, ne_eq] at hc14
        rw [nI_ltI (by omega) (by omega)] at hc14
        refine lv_iload_n hx hb dX8_countUpToLikeness_24 rfl (lv_at hl 0 rfl) ?_
        refine lv_aload_n hx hb dX8_countUpToLikeness_25 rfl (lv_at hl 1 rfl) ?_
        refine va_get (D := (dC, dI)) (ci := 13) (v := .ref q3) (C := RX8) (T := TX8) (N := 4) hx hb hts hinX8 hown hK hP 0 rfl rfl 2 (by decide) (hts (.fieldLink RX8 16 "Eggboxery$Tables" "answers" "[I") (by decide +kernel)) (fun _ h9 => h9) rfl dX8_countUpToLikeness_26 ?_
        refine va_alen (v := nI (8)) hx hb hK hP 3 0 rfl rfl rfl dX8_countUpToLikeness_29 ?_
        refine lv_icmp_lt (tgt := 35) hx hb dX8_countUpToLikeness_30 (by decide) (fun hc15 => ?_) (fun hc15 => ?_)
        · try simp only [ge_iff_le, gt_iff_lt, ne_eq] at hc15
          rw [nI_ltI (by omega) (by omega)] at hc15
          refine lv_aload_n hx hb dX8_countUpToLikeness_35 rfl (lv_at hl 1 rfl) ?_
          refine va_get (D := (dC, dI)) (ci := 13) (v := .ref q3) (C := RX8) (T := TX8) (N := 4) hx hb hts hinX8 hown hK hP 0 rfl rfl 2 (by decide) (hts (.fieldLink RX8 16 "Eggboxery$Tables" "answers" "[I") (by decide +kernel)) (fun _ h9 => h9) rfl dX8_countUpToLikeness_36 ?_
          refine lv_iload_n hx hb dX8_countUpToLikeness_39 rfl (lv_at hl 0 rfl) ?_
          refine va_iald hx hb hK hP 3 0 rfl rfl (vp_in_nI (n := (2 * k) + 1) (by omega) (by omega)) dX8_countUpToLikeness_40 ?_
          refine lv_topi (fun z16 ez16 => ?_)
          refine lv_if_ne (tgt := 60) hx hb dX8_countUpToLikeness_41 (by decide) (fun hc17 => ?_) (fun hc17 => ?_)
          · refine lv_aload_n hx hb dX8_countUpToLikeness_60 rfl (lv_at hl 1 rfl) ?_
            refine va_get (D := (dC, dI)) (ci := 13) (v := .ref q3) (C := RX8) (T := TX8) (N := 4) hx hb hts hinX8 hown hK hP 0 rfl rfl 2 (by decide) (hts (.fieldLink RX8 16 "Eggboxery$Tables" "answers" "[I") (by decide +kernel)) (fun _ h9 => h9) rfl dX8_countUpToLikeness_61 ?_
            refine lv_iload_n hx hb dX8_countUpToLikeness_64 rfl (lv_at hl 0 rfl) ?_
            refine va_iald hx hb hK hP 3 0 rfl rfl (vp_in_nI (n := (2 * k) + 1) (by omega) (by omega)) dX8_countUpToLikeness_65 ?_
            refine lv_topi (fun z18 ez18 => ?_)
            have hP9 := hP.sub (ws' := [(h0, .inr (13, [.ref q1, .ref q2, .ref q3, .int sd])), (q1, .inl (cI, 9, .inl f)), (q2, .inl (cI, 9, .inl g)), (q3, .inl (cI, 8, .inl h))]) [0, 1, 2, 3] rfl
            have hD9 := hD.sub (ws' := [(h0, .inr (13, [.ref q1, .ref q2, .ref q3, .int sd])), (q1, .inl (cI, 9, .inl f)), (q2, .inl (cI, 9, .inl g)), (q3, .inl (cI, 8, .inl h))]) [0, 1, 2, 3] (by decide) rfl
            exact W.iret (v := z18) hx hb hr (fun t ht hW => ⟨⟨z18, (f, g, h, sd), rfl, trivial, by rw [ht]; exact hP9, va_K.moved hW.alike hK, hD9⟩, hS.F ht⟩) hS.2.2 dX8_countUpToLikeness_66
          · refine lv_aload_n hx hb dX8_countUpToLikeness_44 rfl (lv_at hl 1 rfl) ?_
            refine lv_iload_n hx hb dX8_countUpToLikeness_45 rfl (lv_at hl 2 rfl) ?_
            refine va_put (D := (dC, dI)) (ci := 13) (v := .int (nI k)) (ty := .int) (C := RX8) (T := TX8) (N := 4) hx hb hts hinX8 tyX8 tyX8_ok nmX8 hown hK hP hD hS 0 rfl rfl 3 (by decide) (hts (.fieldLink RX8 19 "Eggboxery$Tables" "side" "I") (by decide +kernel)) (fun _ h9 => h9) rfl (by decide +kernel) rfl rfl (Nat.le_of_ble_eq_true rfl) dX8_countUpToLikeness_46 (fun H locs hP hD hS => ?_)
            have hP : va_P (dC, dI) vwCl [(h0, .inr (13, [.ref q1, .ref q2, .ref q3, .int (nI k)])), (q1, .inl (cI, 9, .inl f)), (q2, .inl (cI, 9, .inl g)), (q3, .inl (cI, 8, .inl h))] H := hP
            have hD : va_D A [(h0, .inr (13, [.ref q1, .ref q2, .ref q3, .int (nI k)])), (q1, .inl (cI, 9, .inl f)), (q2, .inl (cI, 9, .inl g)), (q3, .inl (cI, 8, .inl h))] := hD
            refine lv_aload_n hx hb dX8_countUpToLikeness_49 rfl (lv_at hl 1 rfl) ?_
            refine va_get (D := (dC, dI)) (ci := 13) (v := .ref q3) (C := RX8) (T := TX8) (N := 4) hx hb hts hinX8 hown hK hP 0 rfl rfl 2 (by decide) (hts (.fieldLink RX8 16 "Eggboxery$Tables" "answers" "[I") (by decide +kernel)) (fun _ h9 => h9) rfl dX8_countUpToLikeness_50 ?_
            refine lv_iload_n hx hb dX8_countUpToLikeness_53 rfl (lv_at hl 0 rfl) ?_
            refine lv_aload_n hx hb dX8_countUpToLikeness_54 rfl (lv_at hl 1 rfl) ?_
            refine lv_iload_n hx hb dX8_countUpToLikeness_55 rfl (lv_at hl 3 rfl) ?_
            have hPc := hP.sub (ws' := [(h0, .inr (13, [.ref q1, .ref q2, .ref q3, .int (nI k)])), (q1, .inl (cI, 9, .inl f)), (q2, .inl (cI, 9, .inl g)), (q3, .inl (cI, 8, .inl h))]) [0, 1, 2, 3] rfl
            have hDc := hD.sub (ws' := [(h0, .inr (13, [.ref q1, .ref q2, .ref q3, .int (nI k)])), (q1, .inl (cI, 9, .inl f)), (q2, .inl (cI, 9, .inl g)), (q3, .inl (cI, 8, .inl h))]) [0, 1, 2, 3] (by decide) rfl
            have hFc := va_free (wc := [(h0, .inr (13, [.ref q1, .ref q2, .ref q3, .int (nI k)])), (q1, .inl (cI, 9, .inl f)), (q2, .inl (cI, 9, .inl g)), (q3, .inl (cI, 8, .inl h))]) hD hS hA [0, 1, 2, 3] rfl
            have hZc := (hNZ.kept hS.2.1).narrow hFc
            have hTc := (hNT.kept hS.2.1).narrow hFc
            refine va_calli (va_runV (As := [.int (nI mb)]) (rest := [.int (nI ((2 * k) + 1)), .ref q3]) ⟨hx, hb, hml, hown, hts⟩ (metX8_counted l dC dI cI cJ cC cZ cD nt ng H.size h0 q1 q2 q3 f g h k (nI mb) hk hkk hkp) (cwV 1 hts gX8_countUpToLikeness_X8_counted rfl rfl rfl (by decide +kernel) ⟨Nat.le_of_ble_eq_true rfl, Nat.le_of_ble_eq_true rfl⟩) ⟨fun a U g mk q => by obtain ⟨q0, q1, qP, qK, qD, qZ, qT⟩ := q; exact ⟨q0, q1, qP, va_K.moved (u := U) (U := U.calling g mk a) (Vm.Alike.refl U.vm) qK, qD, va_Z.moved (u := U) (U := U.calling g mk a) (Vm.Alike.refl U.vm) qZ, va_T.moved (u := U) (U := U.calling g mk a) (Vm.Alike.refl U.vm) qT⟩, va_recv hK hPc (ci := 13) (q0 := 0) rfl rfl, fun U hU hW => ⟨rfl, by rw [hU], by rw [hU]; exact hPc, va_K.moved hW.alike hK, hDc.weaken (fun _ _ _ _ => trivial), va_Z.moved hW.alike (by rw [hU]; exact hZc), va_T.moved hW.alike (by rw [hU]; exact hTc)⟩⟩ rfl rfl hl.1 rfl (lv_room (Nat.le_of_ble_eq_true rfl)) dX8_countUpToLikeness_56 ⟨Nat.le_of_ble_eq_true rfl, Nat.le_of_ble_eq_true rfl⟩) hS (fun q _ h => hFc q h) hFc (fun r19 u t H1 locs ht hvm hw hB hz1 hk1 hS => ?_)
            obtain ⟨f20, g21⟩ := u
            obtain ⟨hP1, hK1, hD1⟩ := hB
            rw [ht] at hP1
            try dsimp only at hP1 hD1 hw
            obtain ⟨hP, hD⟩ := va_join (wr := []) (w1 := [(h0, .inr (13, [.ref q1, .ref q2, .ref q3, .int (nI k)])), (q1, .inl (cI, 9, .inl f20)), (q2, .inl (cI, 9, .inl g21)), (q3, .inl (cI, 8, .inl h))]) hP hD [0, 1, 2, 3] [] rfl rfl (by decide) (by decide) hk1 hFc hP1 hD1
            generalize H1 = H at hP hS ⊢
            have hP : va_P (dC, dI) vwCl [(h0, .inr (13, [.ref q1, .ref q2, .ref q3, .int (nI k)])), (q1, .inl (cI, 9, .inl f20)), (q2, .inl (cI, 9, .inl g21)), (q3, .inl (cI, 8, .inl h))] H := hP
            have hD : va_D A [(h0, .inr (13, [.ref q1, .ref q2, .ref q3, .int (nI k)])), (q1, .inl (cI, 9, .inl f20)), (q2, .inl (cI, 9, .inl g21)), (q3, .inl (cI, 8, .inl h))] := hD
            refine va_iast hx hb hK hP hD hS 3 0 rfl rfl (vp_in_nI (n := (2 * k) + 1) (by omega) (by omega)) dX8_countUpToLikeness_59 (fun H locs hP hD hS => ?_)
            obtain ⟨g22, eg22⟩ : ∃ z, z = upd h ((nI ((2 * k) + 1))).toNatClampNeg r19 := ⟨_, rfl⟩
            have hP : va_P (dC, dI) vwCl [(h0, .inr (13, [.ref q1, .ref q2, .ref q3, .int (nI k)])), (q1, .inl (cI, 9, .inl f20)), (q2, .inl (cI, 9, .inl g21)), (q3, .inl (cI, 8, .inl g22))] H := by rw [eg22]; exact hP
            have hD : va_D A [(h0, .inr (13, [.ref q1, .ref q2, .ref q3, .int (nI k)])), (q1, .inl (cI, 9, .inl f20)), (q2, .inl (cI, 9, .inl g21)), (q3, .inl (cI, 8, .inl g22))] := by rw [eg22]; exact hD
            refine lv_aload_n hx hb dX8_countUpToLikeness_60 rfl (lv_at hl 1 rfl) ?_
            refine va_get (D := (dC, dI)) (ci := 13) (v := .ref q3) (C := RX8) (T := TX8) (N := 4) hx hb hts hinX8 hown hK hP 0 rfl rfl 2 (by decide) (hts (.fieldLink RX8 16 "Eggboxery$Tables" "answers" "[I") (by decide +kernel)) (fun _ h9 => h9) rfl dX8_countUpToLikeness_61 ?_
            refine lv_iload_n hx hb dX8_countUpToLikeness_64 rfl (lv_at hl 0 rfl) ?_
            refine va_iald hx hb hK hP 3 0 rfl rfl (vp_in_nI (n := (2 * k) + 1) (by omega) (by omega)) dX8_countUpToLikeness_65 ?_
            refine lv_topi (fun z23 ez23 => ?_)
            have hP9 := hP.sub (ws' := [(h0, .inr (13, [.ref q1, .ref q2, .ref q3, .int (nI k)])), (q1, .inl (cI, 9, .inl f20)), (q2, .inl (cI, 9, .inl g21)), (q3, .inl (cI, 8, .inl g22))]) [0, 1, 2, 3] rfl
            have hD9 := hD.sub (ws' := [(h0, .inr (13, [.ref q1, .ref q2, .ref q3, .int (nI k)])), (q1, .inl (cI, 9, .inl f20)), (q2, .inl (cI, 9, .inl g21)), (q3, .inl (cI, 8, .inl g22))]) [0, 1, 2, 3] (by decide) rfl
            exact W.iret (v := z23) hx hb hr (fun t ht hW => ⟨⟨z23, (f20, g21, g22, (nI k)), rfl, trivial, by rw [ht]; exact hP9, va_K.moved hW.alike hK, hD9⟩, hS.F ht⟩) hS.2.2 dX8_countUpToLikeness_66
        · try simp only [ge_iff_le, gt_iff_lt, ne_eq] at hc15
          rw [nI_ltI (by omega) (by omega)] at hc15
          exact absurd hc15 (by omega)
set_option maxHeartbeats 4000000 in
set_option maxRecDepth 100000 in
theorem metX11_tables (l : Launch) (dC : Nat → ClassId) (dI : Nat → Nat → Nat) (cI cJ cC cZ cD : ClassId) (nt : Nat) (ng : Nat → Int32) (sz : Nat) (x0 o0 o1 o2 o3 o4 o5 o6 o7 o8 o9 : Nat) (h0 q1 q2 q3 : Nat) (f g h : Nat → Int32) (sd : Int32) (k mb : Nat) (hk : k ≤ 3) (hk0 : 1 ≤ k) (hkk : k * k ≤ 9) (hkp : 1 ≤ k * k) (hmb : mb ≤ 1) : Met l yX11_tables wsX11_tables ({ frames := 5, cells := 0, slots := 0, locals := 119 }) (va_Pc [.ref x0, .int (nI k), .int (nI mb)] (fun U => U.heap.size = sz ∧ va_P (dC, dI) vwCl [(x0, .inr (16, [.ref o0, .ref o1, .ref o2, .ref o3, .ref o4, .ref o5, .ref o6, .ref o7, .ref o8, .ref o9, .ref h0])), (h0, .inr (13, [.ref q1, .ref q2, .ref q3, .int sd])), (q1, .inl (cI, 9, .inl f)), (q2, .inl (cI, 9, .inl g)), (q3, .inl (cI, 8, .inl h))] U.heap ∧ va_K (dC, dI) vwCl [(cI, .int), (cJ, .long), (cC, .char), (cZ, .boolean), (cD, .double)] U ∧ va_D (fun _ => True) [(x0, .inr (16, [.ref o0, .ref o1, .ref o2, .ref o3, .ref o4, .ref o5, .ref o6, .ref o7, .ref o8, .ref o9, .ref h0])), (h0, .inr (13, [.ref q1, .ref q2, .ref q3, .int sd])), (q1, .inl (cI, 9, .inl f)), (q2, .inl (cI, 9, .inl g)), (q3, .inl (cI, 8, .inl h))] ∧ va_Z RX8 "NAMES" "[I" (.ref nt) (va_A [(x0, .inr (16, [.ref o0, .ref o1, .ref o2, .ref o3, .ref o4, .ref o5, .ref o6, .ref o7, .ref o8, .ref o9, .ref h0])), (h0, .inr (13, [.ref q1, .ref q2, .ref q3, .int sd])), (q1, .inl (cI, 9, .inl f)), (q2, .inl (cI, 9, .inl g)), (q3, .inl (cI, 8, .inl h))] sz) U U.heap ∧ va_T .int nt 18 (fun j => .int (ng j)) (va_A [(x0, .inr (16, [.ref o0, .ref o1, .ref o2, .ref o3, .ref o4, .ref o5, .ref o6, .ref o7, .ref o8, .ref o9, .ref h0])), (h0, .inr (13, [.ref q1, .ref q2, .ref q3, .int sd])), (q1, .inl (cI, 9, .inl f)), (q2, .inl (cI, 9, .inl g)), (q3, .inl (cI, 8, .inl h))] sz) U U.heap)) (va_Qi (fun (r : Int32) (u : (Nat → Int32) × (Nat → Int32) × (Nat → Int32) × (Int32)) => True) (fun (u : (Nat → Int32) × (Nat → Int32) × (Nat → Int32) × (Int32)) (t : State) => va_P (dC, dI) vwCl [(x0, .inr (16, [.ref o0, .ref o1, .ref o2, .ref o3, .ref o4, .ref o5, .ref o6, .ref o7, .ref o8, .ref o9, .ref h0])), (h0, .inr (13, [.ref q1, .ref q2, .ref q3, .int (u.2.2.2)])), (q1, .inl (cI, 9, .inl u.1)), (q2, .inl (cI, 9, .inl u.2.1)), (q3, .inl (cI, 8, .inl u.2.2.1))] t.heap ∧ va_K (dC, dI) vwCl [(cI, .int), (cJ, .long), (cC, .char), (cZ, .boolean), (cD, .double)] t ∧ va_D (va_A [(x0, .inr (16, [.ref o0, .ref o1, .ref o2, .ref o3, .ref o4, .ref o5, .ref o6, .ref o7, .ref o8, .ref o9, .ref h0])), (h0, .inr (13, [.ref q1, .ref q2, .ref q3, .int sd])), (q1, .inl (cI, 9, .inl f)), (q2, .inl (cI, 9, .inl g)), (q3, .inl (cI, 8, .inl h))] sz) [(x0, .inr (16, [.ref o0, .ref o1, .ref o2, .ref o3, .ref o4, .ref o5, .ref o6, .ref o7, .ref o8, .ref o9, .ref h0])), (h0, .inr (13, [.ref q1, .ref q2, .ref q3, .int (u.2.2.2)])), (q1, .inl (cI, 9, .inl u.1)), (q2, .inl (cI, 9, .inl u.2.1)), (q3, .inl (cI, 8, .inl u.2.2.1))]) (va_A [(x0, .inr (16, [.ref o0, .ref o1, .ref o2, .ref o3, .ref o4, .ref o5, .ref o6, .ref o7, .ref o8, .ref o9, .ref h0])), (h0, .inr (13, [.ref q1, .ref q2, .ref q3, .int sd])), (q1, .inl (cI, 9, .inl f)), (q2, .inl (cI, 9, .inl g)), (q3, .inl (cI, 8, .inl h))] sz)) 0 0 (va_A [(x0, .inr (16, [.ref o0, .ref o1, .ref o2, .ref o3, .ref o4, .ref o5, .ref o6, .ref o7, .ref o8, .ref o9, .ref h0])), (h0, .inr (13, [.ref q1, .ref q2, .ref q3, .int sd])), (q1, .inl (cI, 9, .inl f)), (q2, .inl (cI, 9, .inl g)), (q3, .inl (cI, 8, .inl h))] sz) := by
  refine Met.ofW (cc := cX11_tables) (maxL := 3) (ret := (some .int)) (by decide) rfl ?_
  intro p e s m args below meth c s₁ B hml hv
  obtain ⟨rfl, hsz, hP, hK, hD0, hNZ, hNT⟩ := hv
  have hx := B.exec
  have hb := B.bytes
  have hr := B.returns
  have hts := atoms_spec (ws := wsX11_tables) B.pre
  have hown : s.vm.findClass RX11 = some m.cls := findClass_of_methodNamed B.named
  have hlocks := B.notSynchronized
  subst hsz
  have hD := hD0.self (sz := s.heap.size)
  generalize hAe : va_A [(x0, .inr (16, [.ref o0, .ref o1, .ref o2, .ref o3, .ref o4, .ref o5, .ref o6, .ref o7, .ref o8, .ref o9, .ref h0])), (h0, .inr (13, [.ref q1, .ref q2, .ref q3, .int sd])), (q1, .inl (cI, 9, .inl f)), (q2, .inl (cI, 9, .inl g)), (q3, .inl (cI, 8, .inl h))] s.heap.size = A at hD hNZ hNT ⊢
  have hA : ∀ q : Nat, s.heap.size ≤ q → A q := fun q h => by rw [← hAe]; exact Or.inr h
  have hS : va_S A s.heap s.heap [] := va_S.rf
  have hP : va_P (dC, dI) vwCl [(x0, .inr (16, [.ref o0, .ref o1, .ref o2, .ref o3, .ref o4, .ref o5, .ref o6, .ref o7, .ref o8, .ref o9, .ref h0])), (h0, .inr (13, [.ref q1, .ref q2, .ref q3, .int sd])), (q1, .inl (cI, 9, .inl f)), (q2, .inl (cI, 9, .inl g)), (q3, .inl (cI, 8, .inl h))] s.heap := hP
  have hl := lv_entry ([.ref x0, .int (nI k), .int (nI mb)]) (n := 3) (Nat.le_of_ble_eq_true rfl)
  rw [lg_entry_eq]
  generalize (lg_sl ([.ref x0, .int (nI k), .int (nI mb)]) ++ List.replicate (3 - (lg_sl ([.ref x0, .int (nI k), .int (nI mb)])).length) Slot.unset).toArray = ls at hl ⊢
  have hinX11 : ∀ w ∈ wsX110, w ∈ wsX11_tables := by decide +kernel
  have hinX8 : ∀ w ∈ wsX80, w ∈ wsX11_tables := by decide +kernel
  have hl : lv_has ls 3 [(0, .ref x0), (1, .int (nI k)), (2, .int (nI mb))] := hl
  refine lv_iload_n hx hb dX11_tables_0 rfl (lv_at hl 1 rfl) ?_
  refine lv_iconst (v := (nI 1)) hx hb dX11_tables_1 (by decide) ?_
  refine lv_icmp_lt (tgt := 10) hx hb dX11_tables_2 (by decide) (fun hc1 => ?_) (fun hc1 => ?_)
  · try simp only [ge_iff_le, gt_iff_lt, ne_eq] at hc1
    rw [nI_ltI (by omega) (by omega)] at hc1
    exact absurd hc1 (by omega)
  · try simp only [ge_iff_le, gt_iff_lt, ne_eq] at hc1
    rw [nI_ltI (by omega) (by omega)] at hc1
    refine lv_iload_n hx hb dX11_tables_5 rfl (lv_at hl 1 rfl) ?_
    refine lv_iconst (v := (nI 3)) hx hb dX11_tables_6 (by decide) ?_
    refine lv_icmp_le (tgt := 21) hx hb dX11_tables_7 (by decide) (fun hc2 => ?_) (fun hc2 => ?_)
    · try simp only [ge_iff_le, gt_iff_lt, ne_eq] at hc2
      rw [nI_leI (by omega) (by omega)] at hc2
      refine lv_aload_n hx hb dX11_tables_21 rfl (lv_at hl 0 rfl) ?_
      refine va_get (D := (dC, dI)) (ci := 16) (v := .ref h0) (C := RX11) (T := TX11) (N := 11) hx hb hts hinX11 hown hK hP 0 rfl rfl 10 (by decide) (hts (.fieldLink RX11 94 "Eggboxery" "smallTables" "LEggboxery$Tables;") (by decide +kernel)) (fun _ h9 => h9) rfl dX11_tables_22 ?_
      refine lv_iload_n hx hb dX11_tables_25 rfl (lv_at hl 1 rfl) ?_
      refine lv_iload_n hx hb dX11_tables_26 rfl (lv_at hl 2 rfl) ?_
      have hPc := hP.sub (ws' := [(h0, .inr (13, [.ref q1, .ref q2, .ref q3, .int sd])), (q1, .inl (cI, 9, .inl f)), (q2, .inl (cI, 9, .inl g)), (q3, .inl (cI, 8, .inl h))]) [1, 2, 3, 4] rfl
      have hDc := hD.sub (ws' := [(h0, .inr (13, [.ref q1, .ref q2, .ref q3, .int sd])), (q1, .inl (cI, 9, .inl f)), (q2, .inl (cI, 9, .inl g)), (q3, .inl (cI, 8, .inl h))]) [1, 2, 3, 4] (by decide) rfl
      have hFc := va_free (wc := [(h0, .inr (13, [.ref q1, .ref q2, .ref q3, .int sd])), (q1, .inl (cI, 9, .inl f)), (q2, .inl (cI, 9, .inl g)), (q3, .inl (cI, 8, .inl h))]) hD hS hA [1, 2, 3, 4] rfl
      have hZc := (hNZ.kept hS.2.1).narrow hFc
      have hTc := (hNT.kept hS.2.1).narrow hFc
      refine va_calli (va_runV (As := [.int (nI k), .int (nI mb)]) (rest := []) ⟨hx, hb, hml, hown, hts⟩ (metX8_countUpToLikeness l dC dI cI cJ cC cZ cD nt ng s.heap.size h0 q1 q2 q3 f g h sd k mb hk hk0 hkk hkp hmb) (cwV 2 hts gX11_tables_X8_countUpToLikeness rfl rfl rfl (by decide +kernel) ⟨Nat.le_of_ble_eq_true rfl, Nat.le_of_ble_eq_true rfl⟩) ⟨fun a U g mk q => by obtain ⟨q0, q1, qP, qK, qD, qZ, qT⟩ := q; exact ⟨q0, q1, qP, va_K.moved (u := U) (U := U.calling g mk a) (Vm.Alike.refl U.vm) qK, qD, va_Z.moved (u := U) (U := U.calling g mk a) (Vm.Alike.refl U.vm) qZ, va_T.moved (u := U) (U := U.calling g mk a) (Vm.Alike.refl U.vm) qT⟩, va_recv hK hPc (ci := 13) (q0 := 0) rfl rfl, fun U hU hW => ⟨rfl, by rw [hU], by rw [hU]; exact hPc, va_K.moved hW.alike hK, hDc.weaken (fun _ _ _ _ => trivial), va_Z.moved hW.alike (by rw [hU]; exact hZc), va_T.moved hW.alike (by rw [hU]; exact hTc)⟩⟩ rfl rfl hl.1 rfl (lv_room (Nat.le_of_ble_eq_true rfl)) dX11_tables_27 ⟨Nat.le_of_ble_eq_true rfl, Nat.le_of_ble_eq_true rfl⟩) hS (fun q _ h => hFc q h) hFc (fun r3 u t H1 locs ht hvm hw hB hz1 hk1 hS => ?_)
      obtain ⟨f4, g5, h6, sd7⟩ := u
      obtain ⟨hP1, hK1, hD1⟩ := hB
      rw [ht] at hP1
      try dsimp only at hP1 hD1 hw
      obtain ⟨hP, hD⟩ := va_join (wr := [(x0, .inr (16, [.ref o0, .ref o1, .ref o2, .ref o3, .ref o4, .ref o5, .ref o6, .ref o7, .ref o8, .ref o9, .ref h0]))]) (w1 := [(h0, .inr (13, [.ref q1, .ref q2, .ref q3, .int sd7])), (q1, .inl (cI, 9, .inl f4)), (q2, .inl (cI, 9, .inl g5)), (q3, .inl (cI, 8, .inl h6))]) hP hD [1, 2, 3, 4] [0] rfl rfl (by decide) (by decide) hk1 hFc hP1 hD1
      generalize H1 = H at hP hS ⊢
      have hP : va_P (dC, dI) vwCl [(x0, .inr (16, [.ref o0, .ref o1, .ref o2, .ref o3, .ref o4, .ref o5, .ref o6, .ref o7, .ref o8, .ref o9, .ref h0])), (h0, .inr (13, [.ref q1, .ref q2, .ref q3, .int sd7])), (q1, .inl (cI, 9, .inl f4)), (q2, .inl (cI, 9, .inl g5)), (q3, .inl (cI, 8, .inl h6))] H := hP
      have hD : va_D A [(x0, .inr (16, [.ref o0, .ref o1, .ref o2, .ref o3, .ref o4, .ref o5, .ref o6, .ref o7, .ref o8, .ref o9, .ref h0])), (h0, .inr (13, [.ref q1, .ref q2, .ref q3, .int sd7])), (q1, .inl (cI, 9, .inl f4)), (q2, .inl (cI, 9, .inl g5)), (q3, .inl (cI, 8, .inl h6))] := hD
      have hP9 := hP.sub (ws' := [(x0, .inr (16, [.ref o0, .ref o1, .ref o2, .ref o3, .ref o4, .ref o5, .ref o6, .ref o7, .ref o8, .ref o9, .ref h0])), (h0, .inr (13, [.ref q1, .ref q2, .ref q3, .int sd7])), (q1, .inl (cI, 9, .inl f4)), (q2, .inl (cI, 9, .inl g5)), (q3, .inl (cI, 8, .inl h6))]) [0, 1, 2, 3, 4] rfl
      have hD9 := hD.sub (ws' := [(x0, .inr (16, [.ref o0, .ref o1, .ref o2, .ref o3, .ref o4, .ref o5, .ref o6, .ref o7, .ref o8, .ref o9, .ref h0])), (h0, .inr (13, [.ref q1, .ref q2, .ref q3, .int sd7])), (q1, .inl (cI, 9, .inl f4)), (q2, .inl (cI, 9, .inl g5)), (q3, .inl (cI, 8, .inl h6))]) [0, 1, 2, 3, 4] (by decide) rfl
      exact W.iret (v := r3) hx hb hr (fun t ht hW => ⟨⟨r3, (f4, g5, h6, sd7), rfl, trivial, by rw [ht]; exact hP9, va_K.moved hW.alike hK, hD9⟩, hS.F ht⟩) hS.2.2 dX11_tables_30
    · try simp only [ge_iff_le, gt_iff_lt, ne_eq] at hc2
      rw [nI_leI (by omega) (by omega)] at hc2
      exact absurd hc2 (by omega)
