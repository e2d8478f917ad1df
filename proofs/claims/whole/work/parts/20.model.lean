set_option maxHeartbeats 4000000 in
set_option maxRecDepth 100000 in
theorem metX12_in (l : Launch) (dC : Nat → ClassId) (dI : Nat → Nat → Nat) (cI cJ cC cZ cD : ClassId) (sz : Nat) (a0 b0 c0 : Nat) (h1 : b0 ≤ a0) (h2 : a0 ≤ c0) (h3 : c0 < 1000) : Met l yX12_in wsX12_in ({ frames := 0, cells := 0, slots := 0, locals := 0 }) (va_Pc [.long (lN (a0)), .long (lN (b0)), .long (lN (c0))] (fun U => U.heap.size = sz ∧ va_P (dC, dI) vwCl [] U.heap ∧ va_K (dC, dI) vwCl [(cI, .int), (cJ, .long), (cC, .char), (cZ, .boolean), (cD, .double)] U ∧ va_D (fun _ => True) [])) (va_Qi (fun (r : Int32) (u : Unit) => r = nI 1) (fun (u : Unit) (t : State) => va_P (dC, dI) vwCl [] t.heap ∧ va_K (dC, dI) vwCl [(cI, .int), (cJ, .long), (cC, .char), (cZ, .boolean), (cD, .double)] t ∧ va_D (va_A [] sz) []) (va_A [] sz)) 0 0 (va_A [] sz) := by
  refine Met.ofW (cc := cX12_in) (maxL := 6) (ret := (some .boolean)) (by decide) rfl ?_
  intro p e s m args below meth c s₁ B hml hv
  obtain ⟨rfl, hsz, hP, hK, hD0⟩ := hv
  have hx := B.exec
  have hb := B.bytes
  have hr := B.returns
  have hts := atoms_spec (ws := wsX12_in) B.pre
  have hown : s.vm.findClass RX12 = some m.cls := findClass_of_methodNamed B.named
  have hlocks := B.notSynchronized
  subst hsz
  have hD := hD0.self (sz := s.heap.size)
  generalize hAe : va_A [] s.heap.size = A at hD ⊢
  have hA : ∀ q : Nat, s.heap.size ≤ q → A q := fun q h => by rw [← hAe]; exact Or.inr h
  have hS : va_S A s.heap s.heap [] := va_S.rf
  have hP : va_P (dC, dI) vwCl [] s.heap := hP
  have hl := lv_entry ([.long (lN (a0)), .long (lN (b0)), .long (lN (c0))]) (n := 6) (Nat.le_of_ble_eq_true rfl)
  rw [lg_entry_eq]
  generalize (lg_sl ([.long (lN (a0)), .long (lN (b0)), .long (lN (c0))]) ++ List.replicate (6 - (lg_sl ([.long (lN (a0)), .long (lN (b0)), .long (lN (c0))])).length) Slot.unset).toArray = ls at hl ⊢
  have hl : lv_has ls 6 [(0, .long (lN (a0))), (2, .long (lN (b0))), (4, .long (lN (c0)))] := hl
  refine lv_lload_n hx hb dX12_in_0 rfl (lv_at hl 0 rfl) ?_
  refine lv_lload_n hx hb dX12_in_1 rfl (lv_at hl 1 rfl) ?_
  refine W.lcmp hx hb dX12_in_2 ?_
  refine lv_if_lt (tgt := 17) hx hb dX12_in_3 (by decide) (fun hc1 => ?_) (fun hc1 => ?_)
  · exact absurd ((lN_lt (by omega) (by omega)).mp ((lg_cmp_lt _ _).mp hc1)) (by omega)
  · refine lv_lload_n hx hb dX12_in_6 rfl (lv_at hl 0 rfl) ?_
    refine lv_lload hx hb dX12_in_7 (lv_at hl 2 rfl) ?_
    refine W.lcmp hx hb dX12_in_9 ?_
    refine lv_if_gt (tgt := 17) hx hb dX12_in_10 (by decide) (fun hc2 => ?_) (fun hc2 => ?_)
    · exact absurd ((lN_lt (by omega) (by omega)).mp ((lg_cmp_gt _ _).mp hc2)) (by omega)
    · refine lv_iconst (v := (nI 1)) hx hb dX12_in_13 (by decide) ?_
      refine lv_goto (tgt := 18) hx hb dX12_in_14 (by decide) ?_
      have hP9 := hP.sub (ws' := []) [] rfl
      have hD9 := hD.sub (ws' := []) [] (by decide) rfl
      exact W.zret (ty := .boolean) (v := (nI 1)) hx hb hr (by decide) (fun t ht hW => ⟨⟨(nI 1), (), rfl, rfl, by rw [ht]; exact hP9, va_K.moved hW.alike hK, hD9⟩, hS.F ht⟩) hS.2.2 dX12_in_18
set_option maxHeartbeats 4000000 in
set_option maxRecDepth 100000 in
theorem metX12_isAssociative (l : Launch) (dC : Nat → ClassId) (dI : Nat → Nat → Nat) (cI cJ cC cZ cD : ClassId) (sz : Nat) (t0 : Nat) (φ : Nat → Nat) (hφ : ∀ j, φ j < 3) : Met l yX12_isAssociative wsX12_isAssociative ({ frames := 0, cells := 0, slots := 0, locals := 0 }) (va_Pc [.ref t0, .int (nI 3)] (fun U => U.heap.size = sz ∧ va_P (dC, dI) vwCl [(t0, .inl (cI, 9, .inl (ta_f φ)))] U.heap ∧ va_K (dC, dI) vwCl [(cI, .int), (cJ, .long), (cC, .char), (cZ, .boolean), (cD, .double)] U ∧ va_D (fun _ => True) [(t0, .inl (cI, 9, .inl (ta_f φ)))])) (va_Qi (fun (r : Int32) (u : Unit) => True) (fun (u : Unit) (t : State) => va_P (dC, dI) vwCl [(t0, .inl (cI, 9, .inl (ta_f φ)))] t.heap ∧ va_K (dC, dI) vwCl [(cI, .int), (cJ, .long), (cC, .char), (cZ, .boolean), (cD, .double)] t ∧ va_D (va_A [(t0, .inl (cI, 9, .inl (ta_f φ)))] sz) [(t0, .inl (cI, 9, .inl (ta_f φ)))]) (va_A [(t0, .inl (cI, 9, .inl (ta_f φ)))] sz)) 0 0 (va_A [(t0, .inl (cI, 9, .inl (ta_f φ)))] sz) := by
  refine Met.ofW (cc := cX12_isAssociative) (maxL := 7) (ret := (some .boolean)) (by decide) rfl ?_
  intro p e s m args below meth c s₁ B hml hv
  obtain ⟨rfl, hsz, hP, hK, hD0⟩ := hv
  have hx := B.exec
  have hb := B.bytes
  have hr := B.returns
  have hts := atoms_spec (ws := wsX12_isAssociative) B.pre
  have hown : s.vm.findClass RX12 = some m.cls := findClass_of_methodNamed B.named
  have hlocks := B.notSynchronized
  subst hsz
  have hD := hD0.self (sz := s.heap.size)
  generalize hAe : va_A [(t0, .inl (cI, 9, .inl (ta_f φ)))] s.heap.size = A at hD ⊢
  have hA : ∀ q : Nat, s.heap.size ≤ q → A q := fun q h => by rw [← hAe]; exact Or.inr h
  have hS : va_S A s.heap s.heap [] := va_S.rf
  have hP : va_P (dC, dI) vwCl [(t0, .inl (cI, 9, .inl (ta_f φ)))] s.heap := hP
  have hl := lv_entry ([.ref t0, .int (nI 3)]) (n := 7) (Nat.le_of_ble_eq_true rfl)
  rw [lg_entry_eq]
  generalize (lg_sl ([.ref t0, .int (nI 3)]) ++ List.replicate (7 - (lg_sl ([.ref t0, .int (nI 3)])).length) Slot.unset).toArray = ls at hl ⊢
  have hl : lv_has ls 7 [(0, .ref t0), (1, .int (nI 3))] := hl
  refine lv_iconst (v := (nI 1)) hx hb dX12_isAssociative_0 (by decide) ?_
  refine lv_istore_n (lv' := [(2, .int (nI 1)), (0, .ref t0), (1, .int (nI 3))]) hx hb dX12_isAssociative_1 rfl hl (by decide) rfl (fun ls hl => ?_)
  refine lv_iconst (v := (nI 0)) hx hb dX12_isAssociative_2 (by decide) ?_
  refine lv_istore_n (lv' := [(3, .int (nI 0)), (2, .int (nI 1)), (0, .ref t0), (1, .int (nI 3))]) hx hb dX12_isAssociative_3 rfl hl (by decide) rfl (fun ls hl => ?_)
  have L1 : ∀ (n i1 : Nat) (bs : Nat) (H : Heap) (locs : List Loc) (ls : Array Slot), i1 ≤ 27 → 27 + 1 ≤ i1 + n → bs ≤ 1 → va_P (dC, dI) vwCl [(t0, .inl (cI, 9, .inl (ta_f φ)))] H → va_D A [(t0, .inl (cI, 9, .inl (ta_f φ)))] → va_S A s.heap H locs → lv_has ls 7 [(0, .ref t0), (1, .int (nI 3)), (2, .int (nI bs)), (3, .int (nI i1))] → W p l e (headSpec wsX12_isAssociative ({ frames := 0, cells := 0, slots := 0, locals := 0 })).room s m ([.ref t0, .int (nI 3)]).toArray below meth c H locs (0) (0) (MQ below (va_Qi (fun (r : Int32) (u : Unit) => True) (fun (u : Unit) (t : State) => va_P (dC, dI) vwCl [(t0, .inl (cI, 9, .inl (ta_f φ)))] t.heap ∧ va_K (dC, dI) vwCl [(cI, .int), (cJ, .long), (cC, .char), (cZ, .boolean), (cD, .double)] t ∧ va_D A [(t0, .inl (cI, 9, .inl (ta_f φ)))]) A) ([.ref t0, .int (nI 3)]).toArray s 0 0 A) (F0 m 4 ls []) := by
    intro n
    induction n with
    | zero =>
      intro i1 bs H locs ls h1 h2
      exact absurd h2 (by omega)
    | succ n ih =>
      intro i1 bs H locs ls hii1 hni1 hbs hP hD hS hl
      have ihL1 := ih
      clear ih
      refine lv_iload_n hx hb dX12_isAssociative_4 rfl (lv_at hl 3 rfl) ?_
      refine lv_iload_n hx hb dX12_isAssociative_5 rfl (lv_at hl 1 rfl) ?_
      refine lv_iload_n hx hb dX12_isAssociative_6 rfl (lv_at hl 1 rfl) ?_
      refine lv_imul hx hb dX12_isAssociative_7 ?_
      refine lv_topi (nm_r (e' := nI (3 * 3)) (pk_mul _ _) ?_)
      refine lv_iload_n hx hb dX12_isAssociative_8 rfl (lv_at hl 1 rfl) ?_
      refine lv_imul hx hb dX12_isAssociative_9 ?_
      refine lv_topi (nm_r (e' := nI ((3 * 3) * 3)) (pk_mul _ _) ?_)
      refine lv_icmp_ge (tgt := 83) hx hb dX12_isAssociative_10 (by decide) (fun hc1 => ?_) (fun hc1 => ?_)
      · try simp only [ge_iff_le, gt_iff_lt, ne_eq] at hc1
        rw [nI_leI (by omega) (by omega)] at hc1
        refine lv_iload_n hx hb dX12_isAssociative_83 rfl (lv_at hl 2 rfl) ?_
        have hP9 := hP.sub (ws' := [(t0, .inl (cI, 9, .inl (ta_f φ)))]) [0] rfl
        have hD9 := hD.sub (ws' := [(t0, .inl (cI, 9, .inl (ta_f φ)))]) [0] (by decide) rfl
        exact W.zret (ty := .boolean) (v := (nI bs)) hx hb hr (by rcases (show bs = 0 ∨ bs = 1 by omega) with rfl | rfl <;> rfl) (fun t ht hW => ⟨⟨(nI bs), (), rfl, trivial, by rw [ht]; exact hP9, va_K.moved hW.alike hK, hD9⟩, hS.F ht⟩) hS.2.2 dX12_isAssociative_84
      · try simp only [ge_iff_le, gt_iff_lt, ne_eq] at hc1
        rw [nI_leI (by omega) (by omega)] at hc1
        refine lv_iload_n hx hb dX12_isAssociative_13 rfl (lv_at hl 3 rfl) ?_
        refine lv_iload_n hx hb dX12_isAssociative_14 rfl (lv_at hl 1 rfl) ?_
        refine lv_idiv hx hb dX12_isAssociative_15 (nI_ne0 (n := 3) (by omega) (by omega)) ?_
        refine lv_topi (nm_r (e' := nI (i1 / 3)) (pk_div (by omega) (by omega) (by omega)) ?_)
        refine lv_iload_n hx hb dX12_isAssociative_16 rfl (lv_at hl 1 rfl) ?_
        refine lv_idiv hx hb dX12_isAssociative_17 (nI_ne0 (n := 3) (by omega) (by omega)) ?_
        refine lv_topi (nm_r (e' := nI ((i1 / 3) / 3)) (pk_div (by omega) (by omega) (by omega)) ?_)
        refine lv_istore (lv' := [(4, .int (nI ((i1 / 3) / 3))), (0, .ref t0), (1, .int (nI 3)), (2, .int (nI bs)), (3, .int (nI i1))]) hx hb dX12_isAssociative_18 hl (by decide) rfl (fun ls hl => ?_)
        refine lv_iload_n hx hb dX12_isAssociative_20 rfl (lv_at hl 4 rfl) ?_
        refine lv_iload_n hx hb dX12_isAssociative_21 rfl (lv_at hl 2 rfl) ?_
        refine lv_idiv hx hb dX12_isAssociative_22 (nI_ne0 (n := 3) (by omega) (by omega)) ?_
        refine lv_topi (nm_r (e' := nI (i1 / 3)) (pk_div (by omega) (by omega) (by omega)) ?_)
        refine lv_iload_n hx hb dX12_isAssociative_23 rfl (lv_at hl 2 rfl) ?_
        refine lv_irem hx hb dX12_isAssociative_24 (nI_ne0 (n := 3) (by omega) (by omega)) ?_
        refine lv_topi (nm_r (e' := nI ((i1 / 3) % 3)) (pk_rem (by omega) (by omega) (by omega)) ?_)
        refine lv_istore (lv' := [(5, .int (nI ((i1 / 3) % 3))), (4, .int (nI ((i1 / 3) / 3))), (0, .ref t0), (1, .int (nI 3)), (2, .int (nI bs)), (3, .int (nI i1))]) hx hb dX12_isAssociative_25 hl (by decide) rfl (fun ls hl => ?_)
        refine lv_iload_n hx hb dX12_isAssociative_27 rfl (lv_at hl 5 rfl) ?_
        refine lv_iload_n hx hb dX12_isAssociative_28 rfl (lv_at hl 3 rfl) ?_
        refine lv_irem hx hb dX12_isAssociative_29 (nI_ne0 (n := 3) (by omega) (by omega)) ?_
        refine lv_topi (nm_r (e' := nI (i1 % 3)) (pk_rem (by omega) (by omega) (by omega)) ?_)
        refine lv_istore (lv' := [(6, .int (nI (i1 % 3))), (5, .int (nI ((i1 / 3) % 3))), (4, .int (nI ((i1 / 3) / 3))), (0, .ref t0), (1, .int (nI 3)), (2, .int (nI bs)), (3, .int (nI i1))]) hx hb dX12_isAssociative_30 hl (by decide) rfl (fun ls hl => ?_)
        refine lv_iload_n hx hb dX12_isAssociative_32 rfl (lv_at hl 5 rfl) ?_
        refine lv_if_eq (tgt := 75) hx hb dX12_isAssociative_33 (by decide) (fun hc2 => ?_) (fun hc2 => ?_)
        · have hc2 := hc2
          try rw [show (0 : Int32) = nI 0 from rfl] at hc2
          try simp only [ge_iff_le, gt_iff_lt, ne_eq] at hc2
          rw [nI_eq (by omega) (by omega)] at hc2
          refine lv_iconst (v := (nI 0)) hx hb dX12_isAssociative_75 (by decide) ?_
          refine lv_istore_n (lv' := [(2, .int (nI 0)), (6, .int (nI (i1 % 3))), (5, .int (nI ((i1 / 3) % 3))), (4, .int (nI ((i1 / 3) / 3))), (0, .ref t0), (1, .int (nI 3)), (3, .int (nI i1))]) hx hb dX12_isAssociative_76 rfl hl (by decide) rfl (fun ls hl => ?_)
          refine lv_iinc (v := (nI (i1 + 1))) (lv' := [(3, .int (nI (i1 + 1))), (2, .int (nI 0)), (6, .int (nI (i1 % 3))), (5, .int (nI ((i1 / 3) % 3))), (4, .int (nI ((i1 / 3) / 3))), (0, .ref t0), (1, .int (nI 3))]) hx hb dX12_isAssociative_77 hl (k := 6) rfl (by rw [show Int32.ofInt 1 = (1 : Int32) from rfl]; exact nI_1 _) (by decide) rfl (fun ls hl => ?_)
          refine lv_goto (tgt := 4) hx hb dX12_isAssociative_80 (by decide) ?_
          exact ihL1 (i1 + 1) 0 H locs _ (by omega) (by omega) (by omega) hP hD hS (lv_sub hl [5, 6, 1, 0] rfl)
        · have hc2 := hc2
          try rw [show (0 : Int32) = nI 0 from rfl] at hc2
          try simp only [ge_iff_le, gt_iff_lt, ne_eq] at hc2
          rw [nI_eq (by omega) (by omega)] at hc2
          refine lv_aload_n hx hb dX12_isAssociative_36 rfl (lv_at hl 3 rfl) ?_
          refine lv_iload_n hx hb dX12_isAssociative_37 rfl (lv_at hl 4 rfl) ?_
          refine lv_aload_n hx hb dX12_isAssociative_38 rfl (lv_at hl 3 rfl) ?_
          refine lv_iload_n hx hb dX12_isAssociative_39 rfl (lv_at hl 4 rfl) ?_
          refine lv_iload hx hb dX12_isAssociative_40 (lv_at hl 2 rfl) ?_
          refine lv_imul hx hb dX12_isAssociative_42 ?_
          refine lv_topi (nm_r (e' := nI (3 * ((i1 / 3) / 3))) (pk_mul _ _) ?_)
          refine lv_iload hx hb dX12_isAssociative_43 (lv_at hl 1 rfl) ?_
          refine lv_iadd hx hb dX12_isAssociative_45 ?_
          refine lv_topi (nm_r (e' := nI ((3 * ((i1 / 3) / 3)) + ((i1 / 3) % 3))) (nI_add _ _) ?_)
          refine va_iald hx hb hK hP 0 0 rfl rfl (vp_in_nI (n := (3 * ((i1 / 3) / 3)) + ((i1 / 3) % 3)) (by omega) (by omega)) dX12_isAssociative_46 ?_
          refine lv_topi (nm_r (e' := nI (φ ((3 * ((i1 / 3) / 3)) + ((i1 / 3) % 3)))) (congrArg (ta_f φ) (nI_clamp (by omega))) ?_)
          have hv3 := hφ ((3 * ((i1 / 3) / 3)) + ((i1 / 3) % 3))
          refine lv_imul hx hb dX12_isAssociative_47 ?_
          refine lv_topi (nm_r (e' := nI (3 * (φ ((3 * ((i1 / 3) / 3)) + ((i1 / 3) % 3))))) (pk_mul _ _) ?_)
          refine lv_iload hx hb dX12_isAssociative_48 (lv_at hl 0 rfl) ?_
          refine lv_iadd hx hb dX12_isAssociative_50 ?_
          refine lv_topi (nm_r (e' := nI ((3 * (φ ((3 * ((i1 / 3) / 3)) + ((i1 / 3) % 3)))) + (i1 % 3))) (nI_add _ _) ?_)
          refine va_iald hx hb hK hP 0 0 rfl rfl (vp_in_nI (n := (3 * (φ ((3 * ((i1 / 3) / 3)) + ((i1 / 3) % 3)))) + (i1 % 3)) (by omega) (by omega)) dX12_isAssociative_51 ?_
          refine lv_topi (nm_r (e' := nI (φ ((3 * (φ ((3 * ((i1 / 3) / 3)) + ((i1 / 3) % 3)))) + (i1 % 3)))) (congrArg (ta_f φ) (nI_clamp (by omega))) ?_)
          have hv4 := hφ ((3 * (φ ((3 * ((i1 / 3) / 3)) + ((i1 / 3) % 3)))) + (i1 % 3))
          refine lv_aload_n hx hb dX12_isAssociative_52 rfl (lv_at hl 3 rfl) ?_
          refine lv_iload_n hx hb dX12_isAssociative_53 rfl (lv_at hl 4 rfl) ?_
          refine lv_iload hx hb dX12_isAssociative_54 (lv_at hl 2 rfl) ?_
          refine lv_imul hx hb dX12_isAssociative_56 ?_
          refine lv_topi (nm_r (e' := nI (3 * ((i1 / 3) / 3))) (pk_mul _ _) ?_)
          refine lv_aload_n hx hb dX12_isAssociative_57 rfl (lv_at hl 3 rfl) ?_
          refine lv_iload_n hx hb dX12_isAssociative_58 rfl (lv_at hl 4 rfl) ?_
          refine lv_iload hx hb dX12_isAssociative_59 (lv_at hl 1 rfl) ?_
          refine lv_imul hx hb dX12_isAssociative_61 ?_
          refine lv_topi (nm_r (e' := nI (3 * ((i1 / 3) % 3))) (pk_mul _ _) ?_)
          refine lv_iload hx hb dX12_isAssociative_62 (lv_at hl 0 rfl) ?_
          refine lv_iadd hx hb dX12_isAssociative_64 ?_
          refine lv_topi (nm_r (e' := nI ((3 * ((i1 / 3) % 3)) + (i1 % 3))) (nI_add _ _) ?_)
          refine va_iald hx hb hK hP 0 0 rfl rfl (vp_in_nI (n := (3 * ((i1 / 3) % 3)) + (i1 % 3)) (by omega) (by omega)) dX12_isAssociative_65 ?_
          refine lv_topi (nm_r (e' := nI (φ ((3 * ((i1 / 3) % 3)) + (i1 % 3)))) (congrArg (ta_f φ) (nI_clamp (by omega))) ?_)
          have hv5 := hφ ((3 * ((i1 / 3) % 3)) + (i1 % 3))
          refine lv_iadd hx hb dX12_isAssociative_66 ?_
          refine lv_topi (nm_r (e' := nI ((3 * ((i1 / 3) / 3)) + (φ ((3 * ((i1 / 3) % 3)) + (i1 % 3))))) (nI_add _ _) ?_)
          refine va_iald hx hb hK hP 0 0 rfl rfl (vp_in_nI (n := (3 * ((i1 / 3) / 3)) + (φ ((3 * ((i1 / 3) % 3)) + (i1 % 3)))) (by omega) (by omega)) dX12_isAssociative_67 ?_
          refine lv_topi (nm_r (e' := nI (φ ((3 * ((i1 / 3) / 3)) + (φ ((3 * ((i1 / 3) % 3)) + (i1 % 3)))))) (congrArg (ta_f φ) (nI_clamp (by omega))) ?_)
          have hv6 := hφ ((3 * ((i1 / 3) / 3)) + (φ ((3 * ((i1 / 3) % 3)) + (i1 % 3))))
          refine lv_icmp_ne (tgt := 75) hx hb dX12_isAssociative_68 (by decide) (fun hc7 => ?_) (fun hc7 => ?_)
          · try simp only [ge_iff_le, gt_iff_lt, ne_eq] at hc7
            rw [nI_eq (by omega) (by omega)] at hc7
            refine lv_iconst (v := (nI 0)) hx hb dX12_isAssociative_75 (by decide) ?_
            refine lv_istore_n (lv' := [(2, .int (nI 0)), (6, .int (nI (i1 % 3))), (5, .int (nI ((i1 / 3) % 3))), (4, .int (nI ((i1 / 3) / 3))), (0, .ref t0), (1, .int (nI 3)), (3, .int (nI i1))]) hx hb dX12_isAssociative_76 rfl hl (by decide) rfl (fun ls hl => ?_)
            refine lv_iinc (v := (nI (i1 + 1))) (lv' := [(3, .int (nI (i1 + 1))), (2, .int (nI 0)), (6, .int (nI (i1 % 3))), (5, .int (nI ((i1 / 3) % 3))), (4, .int (nI ((i1 / 3) / 3))), (0, .ref t0), (1, .int (nI 3))]) hx hb dX12_isAssociative_77 hl (k := 6) rfl (by rw [show Int32.ofInt 1 = (1 : Int32) from rfl]; exact nI_1 _) (by decide) rfl (fun ls hl => ?_)
            refine lv_goto (tgt := 4) hx hb dX12_isAssociative_80 (by decide) ?_
            exact ihL1 (i1 + 1) 0 H locs _ (by omega) (by omega) (by omega) hP hD hS (lv_sub hl [5, 6, 1, 0] rfl)
          · try simp only [ge_iff_le, gt_iff_lt, ne_eq] at hc7
            rw [nI_eq (by omega) (by omega)] at hc7
            refine lv_iconst (v := (nI 1)) hx hb dX12_isAssociative_71 (by decide) ?_
            refine lv_goto (tgt := 76) hx hb dX12_isAssociative_72 (by decide) ?_
            refine lv_istore_n (lv' := [(2, .int (nI 1)), (6, .int (nI (i1 % 3))), (5, .int (nI ((i1 / 3) % 3))), (4, .int (nI ((i1 / 3) / 3))), (0, .ref t0), (1, .int (nI 3)), (3, .int (nI i1))]) hx hb dX12_isAssociative_76 rfl hl (by decide) rfl (fun ls hl => ?_)
            refine lv_iinc (v := (nI (i1 + 1))) (lv' := [(3, .int (nI (i1 + 1))), (2, .int (nI 1)), (6, .int (nI (i1 % 3))), (5, .int (nI ((i1 / 3) % 3))), (4, .int (nI ((i1 / 3) / 3))), (0, .ref t0), (1, .int (nI 3))]) hx hb dX12_isAssociative_77 hl (k := 6) rfl (by rw [show Int32.ofInt 1 = (1 : Int32) from rfl]; exact nI_1 _) (by decide) rfl (fun ls hl => ?_)
            refine lv_goto (tgt := 4) hx hb dX12_isAssociative_80 (by decide) ?_
            exact ihL1 (i1 + 1) 1 H locs _ (by omega) (by omega) (by omega) hP hD hS (lv_sub hl [5, 6, 1, 0] rfl)
  exact L1 (27 + 1) 0 1 s.heap [] _ (by omega) (by omega) (by omega) hP hD hS (lv_sub hl [2, 3, 1, 0] rfl)
set_option maxHeartbeats 4000000 in
set_option maxRecDepth 100000 in
theorem metX12_numberOf_ (l : Launch) (dC : Nat → ClassId) (dI : Nat → Nat → Nat) (cI cJ cC cZ cD : ClassId) (sz : Nat) (t0 : Nat) (f : Nat → Int32)  : Met l yX12_numberOf_ wsX12_numberOf_ ({ frames := 0, cells := 0, slots := 0, locals := 0 }) (va_Pc [.ref t0, .int (nI 3)] (fun U => U.heap.size = sz ∧ va_P (dC, dI) vwCl [(t0, .inl (cI, 9, .inl f))] U.heap ∧ va_K (dC, dI) vwCl [(cI, .int), (cJ, .long), (cC, .char), (cZ, .boolean), (cD, .double)] U ∧ va_D (fun _ => True) [(t0, .inl (cI, 9, .inl f))])) (va_Ql (fun (r : Int64) (u : Unit) => True) (fun (u : Unit) (t : State) => va_P (dC, dI) vwCl [(t0, .inl (cI, 9, .inl f))] t.heap ∧ va_K (dC, dI) vwCl [(cI, .int), (cJ, .long), (cC, .char), (cZ, .boolean), (cD, .double)] t ∧ va_D (va_A [(t0, .inl (cI, 9, .inl f))] sz) [(t0, .inl (cI, 9, .inl f))]) (va_A [(t0, .inl (cI, 9, .inl f))] sz)) 0 0 (va_A [(t0, .inl (cI, 9, .inl f))] sz) := by
  refine Met.ofW (cc := cX12_numberOf_) (maxL := 8) (ret := (some .long)) (by decide) rfl ?_
  intro p e s m args below meth c s₁ B hml hv
  obtain ⟨rfl, hsz, hP, hK, hD0⟩ := hv
  have hx := B.exec
  have hb := B.bytes
  have hr := B.returns
  have hts := atoms_spec (ws := wsX12_numberOf_) B.pre
  have hown : s.vm.findClass RX12 = some m.cls := findClass_of_methodNamed B.named
  have hlocks := B.notSynchronized
  subst hsz
  have hD := hD0.self (sz := s.heap.size)
  generalize hAe : va_A [(t0, .inl (cI, 9, .inl f))] s.heap.size = A at hD ⊢
  have hA : ∀ q : Nat, s.heap.size ≤ q → A q := fun q h => by rw [← hAe]; exact Or.inr h
  have hS : va_S A s.heap s.heap [] := va_S.rf
  have hP : va_P (dC, dI) vwCl [(t0, .inl (cI, 9, .inl f))] s.heap := hP
  have hl := lv_entry ([.ref t0, .int (nI 3)]) (n := 8) (Nat.le_of_ble_eq_true rfl)
  rw [lg_entry_eq]
  generalize (lg_sl ([.ref t0, .int (nI 3)]) ++ List.replicate (8 - (lg_sl ([.ref t0, .int (nI 3)])).length) Slot.unset).toArray = ls at hl ⊢
  have hl : lv_has ls 8 [(0, .ref t0), (1, .int (nI 3))] := hl
  refine lv_lconst (v := lN 0) hx hb dX12_numberOf__0 (by decide) ?_
  refine lv_lstore_n (lv' := [(2, .long (lN (0))), (0, .ref t0), (1, .int (nI 3))]) hx hb dX12_numberOf__1 rfl hl (by decide) rfl (fun ls hl => ?_)
  refine lv_aload_n hx hb dX12_numberOf__2 rfl (lv_at hl 1 rfl) ?_
  refine lv_astore (lv' := [(4, .ref t0), (2, .long (lN (0))), (0, .ref t0), (1, .int (nI 3))]) hx hb dX12_numberOf__3 hl (by decide) rfl (fun ls hl => ?_)
  refine lv_aload hx hb dX12_numberOf__5 (lv_at hl 0 rfl) ?_
  refine va_alen (v := nI (9)) hx hb hK hP 0 0 rfl rfl rfl dX12_numberOf__7 ?_
  refine lv_istore (lv' := [(5, .int (nI 9)), (4, .ref t0), (2, .long (lN (0))), (0, .ref t0), (1, .int (nI 3))]) hx hb dX12_numberOf__8 hl (by decide) rfl (fun ls hl => ?_)
  refine lv_iconst (v := (nI 0)) hx hb dX12_numberOf__10 (by decide) ?_
  refine lv_istore (lv' := [(6, .int (nI 0)), (5, .int (nI 9)), (4, .ref t0), (2, .long (lN (0))), (0, .ref t0), (1, .int (nI 3))]) hx hb dX12_numberOf__11 hl (by decide) rfl (fun ls hl => ?_)
  have L1 : ∀ (n i1 : Nat) (ac : Int64) (H : Heap) (locs : List Loc) (ls : Array Slot), i1 ≤ 9 → 9 + 1 ≤ i1 + n → va_P (dC, dI) vwCl [(t0, .inl (cI, 9, .inl f))] H → va_D A [(t0, .inl (cI, 9, .inl f))] → va_S A s.heap H locs → lv_has ls 8 [(0, .ref t0), (1, .int (nI 3)), (2, .long (ac)), (4, .ref t0), (5, .int (nI 9)), (6, .int (nI i1))] → W p l e (headSpec wsX12_numberOf_ ({ frames := 0, cells := 0, slots := 0, locals := 0 })).room s m ([.ref t0, .int (nI 3)]).toArray below meth c H locs (0) (0) (MQ below (va_Ql (fun (r : Int64) (u : Unit) => True) (fun (u : Unit) (t : State) => va_P (dC, dI) vwCl [(t0, .inl (cI, 9, .inl f))] t.heap ∧ va_K (dC, dI) vwCl [(cI, .int), (cJ, .long), (cC, .char), (cZ, .boolean), (cD, .double)] t ∧ va_D A [(t0, .inl (cI, 9, .inl f))]) A) ([.ref t0, .int (nI 3)]).toArray s 0 0 A) (F0 m 13 ls []) := by
    intro n
    induction n with
    | zero =>
      intro i1 ac H locs ls h1 h2
      exact absurd h2 (by omega)
    | succ n ih =>
      intro i1 ac H locs ls hii1 hni1  hP hD hS hl
      have ihL1 := ih
      clear ih
      refine lv_iload hx hb dX12_numberOf__13 (lv_at hl 5 rfl) ?_
      refine lv_iload hx hb dX12_numberOf__15 (lv_at hl 4 rfl) ?_
      refine lv_icmp_ge (tgt := 42) hx hb dX12_numberOf__17 (by decide) (fun hc1 => ?_) (fun hc1 => ?_)
      · try simp only [ge_iff_le, gt_iff_lt, ne_eq] at hc1
        rw [nI_leI (by omega) (by omega)] at hc1
        refine lv_lload_n hx hb dX12_numberOf__42 rfl (lv_at hl 2 rfl) ?_
        have hP9 := hP.sub (ws' := [(t0, .inl (cI, 9, .inl f))]) [0] rfl
        have hD9 := hD.sub (ws' := [(t0, .inl (cI, 9, .inl f))]) [0] (by decide) rfl
        exact W.lret (v := (ac)) hx hb hr (fun t ht hW => ⟨⟨(ac), (), rfl, trivial, by rw [ht]; exact hP9, va_K.moved hW.alike hK, hD9⟩, hS.F ht⟩) hS.2.2 dX12_numberOf__43
      · try simp only [ge_iff_le, gt_iff_lt, ne_eq] at hc1
        rw [nI_leI (by omega) (by omega)] at hc1
        refine lv_aload hx hb dX12_numberOf__20 (lv_at hl 3 rfl) ?_
        refine lv_iload hx hb dX12_numberOf__22 (lv_at hl 5 rfl) ?_
        refine va_iald hx hb hK hP 0 0 rfl rfl (vp_in_nI (n := i1) (by omega) (by omega)) dX12_numberOf__24 ?_
        refine lv_topi (fun z2 ez2 => ?_)
        refine lv_istore (lv' := [(7, .int z2), (0, .ref t0), (1, .int (nI 3)), (2, .long (ac)), (4, .ref t0), (5, .int (nI 9)), (6, .int (nI i1))]) hx hb dX12_numberOf__25 hl (by decide) rfl (fun ls hl => ?_)
        refine lv_lload_n hx hb dX12_numberOf__27 rfl (lv_at hl 3 rfl) ?_
        refine lv_iload_n hx hb dX12_numberOf__28 rfl (lv_at hl 2 rfl) ?_
        refine lv_i2l (v := lN (3)) hx hb dX12_numberOf__29 (nI_l (by omega)) ?_
        refine lv_lmul hx hb dX12_numberOf__30 ?_
        refine lv_topl (fun z3 _ => ?_)
        refine lv_iload hx hb dX12_numberOf__31 (lv_at hl 0 rfl) ?_
        refine lv_i2l (v := z2.toInt64) hx hb dX12_numberOf__33 rfl ?_
        refine lv_topl (fun z4 _ => ?_)
        refine lv_ladd hx hb dX12_numberOf__34 ?_
        refine lv_topl (fun z5 _ => ?_)
        refine lv_lstore_n (lv' := [(2, .long (z5)), (7, .int z2), (0, .ref t0), (1, .int (nI 3)), (4, .ref t0), (5, .int (nI 9)), (6, .int (nI i1))]) hx hb dX12_numberOf__35 rfl hl (by decide) rfl (fun ls hl => ?_)
        refine lv_iinc (v := (nI (i1 + 1))) (lv' := [(6, .int (nI (i1 + 1))), (2, .long (z5)), (7, .int z2), (0, .ref t0), (1, .int (nI 3)), (4, .ref t0), (5, .int (nI 9))]) hx hb dX12_numberOf__36 hl (k := 6) rfl (by rw [show Int32.ofInt 1 = (1 : Int32) from rfl]; exact nI_1 _) (by decide) rfl (fun ls hl => ?_)
        refine lv_goto (tgt := 13) hx hb dX12_numberOf__39 (by decide) ?_
        exact ihL1 (i1 + 1) z5 H locs _ (by omega) (by omega)  hP hD hS (lv_sub hl [3, 4, 1, 5, 6, 0] rfl)
  exact L1 (9 + 1) 0 (lN 0) s.heap [] _ (by omega) (by omega)  hP hD hS (lv_sub hl [4, 5, 3, 2, 1, 0] rfl)
set_option maxHeartbeats 4000000 in
set_option maxRecDepth 100000 in
theorem metX12_renamed (l : Launch) (dC : Nat → ClassId) (dI : Nat → Nat → Nat) (cI cJ cC cZ cD : ClassId) (sz : Nat) (t0 n0 : Nat) (φ ν : Nat → Nat) (mb : Nat) (hφ : ∀ j, φ j < 3) (hν : ∀ j, ν j < 3) (hmb : mb ≤ 1) : Met l yX12_renamed wsX12_renamed ({ frames := 0, cells := 1, slots := 9, locals := 0 }) (va_Pc [.ref t0, .int (nI 3), .ref n0, .int (nI mb)] (fun U => U.heap.size = sz ∧ va_P (dC, dI) vwCl [(t0, .inl (cI, 9, .inl (ta_f φ))), (n0, .inl (cI, 3, .inl (ta_f ν)))] U.heap ∧ va_K (dC, dI) vwCl [(cI, .int), (cJ, .long), (cC, .char), (cZ, .boolean), (cD, .double)] U ∧ va_D (fun _ => True) [(t0, .inl (cI, 9, .inl (ta_f φ))), (n0, .inl (cI, 3, .inl (ta_f ν)))])) (va_Qr (fun (u : (Nat → Int32)) => True) (fun (u : (Nat → Int32)) (ra : Nat) (t : State) => va_P (dC, dI) vwCl [(t0, .inl (cI, 9, .inl (ta_f φ))), (n0, .inl (cI, 3, .inl (ta_f ν))), (ra, .inl (cI, 9, .inl u))] t.heap ∧ va_K (dC, dI) vwCl [(cI, .int), (cJ, .long), (cC, .char), (cZ, .boolean), (cD, .double)] t ∧ va_D (va_A [(t0, .inl (cI, 9, .inl (ta_f φ))), (n0, .inl (cI, 3, .inl (ta_f ν)))] sz) [(t0, .inl (cI, 9, .inl (ta_f φ))), (n0, .inl (cI, 3, .inl (ta_f ν))), (ra, .inl (cI, 9, .inl u))]) (va_A [(t0, .inl (cI, 9, .inl (ta_f φ))), (n0, .inl (cI, 3, .inl (ta_f ν)))] sz)) 1 9 (va_A [(t0, .inl (cI, 9, .inl (ta_f φ))), (n0, .inl (cI, 3, .inl (ta_f ν)))] sz) := by
  refine Met.ofW (cc := cX12_renamed) (maxL := 9) (ret := (some (.array .int))) (by decide) rfl ?_
  intro p e s m args below meth c s₁ B hml hv
  obtain ⟨rfl, hsz, hP, hK, hD0⟩ := hv
  have hx := B.exec
  have hb := B.bytes
  have hr := B.returns
  have hts := atoms_spec (ws := wsX12_renamed) B.pre
  have hown : s.vm.findClass RX12 = some m.cls := findClass_of_methodNamed B.named
  have hlocks := B.notSynchronized
  subst hsz
  have hD := hD0.self (sz := s.heap.size)
  generalize hAe : va_A [(t0, .inl (cI, 9, .inl (ta_f φ))), (n0, .inl (cI, 3, .inl (ta_f ν)))] s.heap.size = A at hD ⊢
  have hA : ∀ q : Nat, s.heap.size ≤ q → A q := fun q h => by rw [← hAe]; exact Or.inr h
  have hS : va_S A s.heap s.heap [] := va_S.rf
  have hP : va_P (dC, dI) vwCl [(t0, .inl (cI, 9, .inl (ta_f φ))), (n0, .inl (cI, 3, .inl (ta_f ν)))] s.heap := hP
  have hl := lv_entry ([.ref t0, .int (nI 3), .ref n0, .int (nI mb)]) (n := 9) (Nat.le_of_ble_eq_true rfl)
  rw [lg_entry_eq]
  generalize (lg_sl ([.ref t0, .int (nI 3), .ref n0, .int (nI mb)]) ++ List.replicate (9 - (lg_sl ([.ref t0, .int (nI 3), .ref n0, .int (nI mb)])).length) Slot.unset).toArray = ls at hl ⊢
  have hl : lv_has ls 9 [(0, .ref t0), (1, .int (nI 3)), (2, .ref n0), (3, .int (nI mb))] := hl
  refine lv_aload_n hx hb dX12_renamed_0 rfl (lv_at hl 0 rfl) ?_
  refine va_alen (v := nI (9)) hx hb hK hP 0 0 rfl rfl rfl dX12_renamed_1 ?_
  refine va_newaU (atype := .int) (N' := 9) (a0 := (9, .inl (ta_f (fun _ => 0)))) hx hb (hts (.arrayClass .int) (by decide +kernel)) rfl hK hP hD hS hA 0 rfl rfl (by first | decide | exact nI_pos (by omega)) (by first | decide | exact nI_clamp (by omega)) (by first | decide | omega) (by have h9 : 0 + 1 ≤ 1 := (by omega); exact h9) (by have h9 : 0 + 9 ≤ 9 := (by omega); exact h9) dX12_renamed_2 (fun q1 H hq1 hP hD hS => ?_)
  have hP : va_P (dC, dI) vwCl [(t0, .inl (cI, 9, .inl (ta_f φ))), (n0, .inl (cI, 3, .inl (ta_f ν))), (q1, .inl (cI, 9, .inl (ta_f (fun _ => 0))))] H := hP
  have hD : va_D A [(t0, .inl (cI, 9, .inl (ta_f φ))), (n0, .inl (cI, 3, .inl (ta_f ν))), (q1, .inl (cI, 9, .inl (ta_f (fun _ => 0))))] := hD
  refine lv_astore (lv' := [(4, .ref q1), (0, .ref t0), (1, .int (nI 3)), (2, .ref n0), (3, .int (nI mb))]) hx hb dX12_renamed_4 hl (by decide) rfl (fun ls hl => ?_)
  refine lv_iconst (v := (nI 0)) hx hb dX12_renamed_6 (by decide) ?_
  refine lv_istore (lv' := [(5, .int (nI 0)), (4, .ref q1), (0, .ref t0), (1, .int (nI 3)), (2, .ref n0), (3, .int (nI mb))]) hx hb dX12_renamed_7 hl (by decide) rfl (fun ls hl => ?_)
  have L1 : ∀ (n a2 : Nat) (ga : Nat → Int32) (H : Heap) (locs : List Loc) (ls : Array Slot), a2 ≤ 3 → 3 + 1 ≤ a2 + n → va_P (dC, dI) vwCl [(t0, .inl (cI, 9, .inl (ta_f φ))), (n0, .inl (cI, 3, .inl (ta_f ν))), (q1, .inl (cI, 9, .inl ga))] H → va_D A [(t0, .inl (cI, 9, .inl (ta_f φ))), (n0, .inl (cI, 3, .inl (ta_f ν))), (q1, .inl (cI, 9, .inl ga))] → va_S A s.heap H locs → lv_has ls 9 [(0, .ref t0), (1, .int (nI 3)), (2, .ref n0), (3, .int (nI mb)), (4, .ref q1), (5, .int (nI a2))] → W p l e (headSpec wsX12_renamed ({ frames := 0, cells := 1, slots := 9, locals := 0 })).room s m ([.ref t0, .int (nI 3), .ref n0, .int (nI mb)]).toArray below meth c H locs (0 + 1) (0 + 9) (MQ below (va_Qr (fun (u : (Nat → Int32)) => True) (fun (u : (Nat → Int32)) (ra : Nat) (t : State) => va_P (dC, dI) vwCl [(t0, .inl (cI, 9, .inl (ta_f φ))), (n0, .inl (cI, 3, .inl (ta_f ν))), (ra, .inl (cI, 9, .inl u))] t.heap ∧ va_K (dC, dI) vwCl [(cI, .int), (cJ, .long), (cC, .char), (cZ, .boolean), (cD, .double)] t ∧ va_D A [(t0, .inl (cI, 9, .inl (ta_f φ))), (n0, .inl (cI, 3, .inl (ta_f ν))), (ra, .inl (cI, 9, .inl u))]) A) ([.ref t0, .int (nI 3), .ref n0, .int (nI mb)]).toArray s 1 9 A) (F0 m 9 ls []) := by
    intro n
    induction n with
    | zero =>
      intro a2 ga H locs ls h1 h2
      exact absurd h2 (by omega)
    | succ n ih =>
      intro a2 ga H locs ls hia2 hna2  hP hD hS hl
      have ihL1 := ih
      clear ih
      refine lv_iload hx hb dX12_renamed_9 (lv_at hl 5 rfl) ?_
      refine lv_iload_n hx hb dX12_renamed_11 rfl (lv_at hl 1 rfl) ?_
      refine lv_icmp_ge (tgt := 87) hx hb dX12_renamed_12 (by decide) (fun hc2 => ?_) (fun hc2 => ?_)
      · try simp only [ge_iff_le, gt_iff_lt, ne_eq] at hc2
        rw [nI_leI (by omega) (by omega)] at hc2
        refine lv_aload hx hb dX12_renamed_87 (lv_at hl 4 rfl) ?_
        have hP9 := hP.sub (ws' := [(t0, .inl (cI, 9, .inl (ta_f φ))), (n0, .inl (cI, 3, .inl (ta_f ν))), (q1, .inl (cI, 9, .inl ga))]) [0, 1, 2] rfl
        have hD9 := hD.sub (ws' := [(t0, .inl (cI, 9, .inl (ta_f φ))), (n0, .inl (cI, 3, .inl (ta_f ν))), (q1, .inl (cI, 9, .inl ga))]) [0, 1, 2] (by decide) rfl
        refine W.widen (k := 1) (n := 9) (by omega) (by omega) ?_
        exact W.aret hx hb hr (Or.inr ⟨_, rfl⟩) (Or.inr ⟨_, rfl⟩) (fun t ht hW => ⟨⟨ga, q1, rfl, trivial, by rw [ht]; exact hP9, va_K.moved hW.alike hK, hD9⟩, hS.F ht⟩) hS.2.2 dX12_renamed_89
      · try simp only [ge_iff_le, gt_iff_lt, ne_eq] at hc2
        rw [nI_leI (by omega) (by omega)] at hc2
        refine lv_iconst (v := (nI 0)) hx hb dX12_renamed_15 (by decide) ?_
        refine lv_istore (lv' := [(6, .int (nI 0)), (0, .ref t0), (1, .int (nI 3)), (2, .ref n0), (3, .int (nI mb)), (4, .ref q1), (5, .int (nI a2))]) hx hb dX12_renamed_16 hl (by decide) rfl (fun ls hl => ?_)
        have L2 : ∀ (n b2 : Nat) (gb : Nat → Int32) (H : Heap) (locs : List Loc) (ls : Array Slot), b2 ≤ 3 → 3 + 1 ≤ b2 + n → va_P (dC, dI) vwCl [(t0, .inl (cI, 9, .inl (ta_f φ))), (n0, .inl (cI, 3, .inl (ta_f ν))), (q1, .inl (cI, 9, .inl gb))] H → va_D A [(t0, .inl (cI, 9, .inl (ta_f φ))), (n0, .inl (cI, 3, .inl (ta_f ν))), (q1, .inl (cI, 9, .inl gb))] → va_S A s.heap H locs → lv_has ls 9 [(0, .ref t0), (1, .int (nI 3)), (2, .ref n0), (3, .int (nI mb)), (4, .ref q1), (5, .int (nI a2)), (6, .int (nI b2))] → W p l e (headSpec wsX12_renamed ({ frames := 0, cells := 1, slots := 9, locals := 0 })).room s m ([.ref t0, .int (nI 3), .ref n0, .int (nI mb)]).toArray below meth c H locs (0 + 1) (0 + 9) (MQ below (va_Qr (fun (u : (Nat → Int32)) => True) (fun (u : (Nat → Int32)) (ra : Nat) (t : State) => va_P (dC, dI) vwCl [(t0, .inl (cI, 9, .inl (ta_f φ))), (n0, .inl (cI, 3, .inl (ta_f ν))), (ra, .inl (cI, 9, .inl u))] t.heap ∧ va_K (dC, dI) vwCl [(cI, .int), (cJ, .long), (cC, .char), (cZ, .boolean), (cD, .double)] t ∧ va_D A [(t0, .inl (cI, 9, .inl (ta_f φ))), (n0, .inl (cI, 3, .inl (ta_f ν))), (ra, .inl (cI, 9, .inl u))]) A) ([.ref t0, .int (nI 3), .ref n0, .int (nI mb)]).toArray s 1 9 A) (F0 m 18 ls []) := by
          intro n
          induction n with
          | zero =>
            intro b2 gb H locs ls h1 h2
            exact absurd h2 (by omega)
          | succ n ih =>
            intro b2 gb H locs ls hib2 hnb2  hP hD hS hl
            have ihL2 := ih
            clear ih
            refine lv_iload hx hb dX12_renamed_18 (lv_at hl 6 rfl) ?_
            refine lv_iload_n hx hb dX12_renamed_20 rfl (lv_at hl 1 rfl) ?_
            refine lv_icmp_ge (tgt := 81) hx hb dX12_renamed_21 (by decide) (fun hc3 => ?_) (fun hc3 => ?_)
            · try simp only [ge_iff_le, gt_iff_lt, ne_eq] at hc3
              rw [nI_leI (by omega) (by omega)] at hc3
              refine lv_iinc (v := (nI (a2 + 1))) (lv' := [(5, .int (nI (a2 + 1))), (0, .ref t0), (1, .int (nI 3)), (2, .ref n0), (3, .int (nI mb)), (4, .ref q1), (6, .int (nI b2))]) hx hb dX12_renamed_81 hl (k := 5) rfl (by rw [show Int32.ofInt 1 = (1 : Int32) from rfl]; exact nI_1 _) (by decide) rfl (fun ls hl => ?_)
              refine lv_goto (tgt := 9) hx hb dX12_renamed_84 (by decide) ?_
              exact ihL1 (a2 + 1) gb H locs _ (by omega) (by omega)  hP hD hS (lv_sub hl [1, 2, 3, 4, 5, 0] rfl)
            · try simp only [ge_iff_le, gt_iff_lt, ne_eq] at hc3
              rw [nI_leI (by omega) (by omega)] at hc3
              refine lv_iload_n hx hb dX12_renamed_24 rfl (lv_at hl 3 rfl) ?_
              refine lv_if_eq (tgt := 33) hx hb dX12_renamed_25 (by decide) (fun hc4 => ?_) (fun hc4 => ?_)
              · have hc4 := hc4
                try rw [show (0 : Int32) = nI 0 from rfl] at hc4
                try simp only [ge_iff_le, gt_iff_lt, ne_eq] at hc4
                rw [nI_eq (by omega) (by omega)] at hc4
                refine lv_iload hx hb dX12_renamed_33 (lv_at hl 5 rfl) ?_
                refine lv_istore (lv' := [(7, .int (nI a2)), (0, .ref t0), (1, .int (nI 3)), (2, .ref n0), (3, .int (nI mb)), (4, .ref q1), (5, .int (nI a2)), (6, .int (nI b2))]) hx hb dX12_renamed_35 hl (by decide) rfl (fun ls hl => ?_)
                refine lv_iload_n hx hb dX12_renamed_37 rfl (lv_at hl 4 rfl) ?_
                refine lv_if_eq (tgt := 46) hx hb dX12_renamed_38 (by decide) (fun hc5 => ?_) (fun hc5 => ?_)
                · have hc5 := hc5
                  try rw [show (0 : Int32) = nI 0 from rfl] at hc5
                  try simp only [ge_iff_le, gt_iff_lt, ne_eq] at hc5
                  rw [nI_eq (by omega) (by omega)] at hc5
                  refine lv_iload hx hb dX12_renamed_46 (lv_at hl 7 rfl) ?_
                  refine lv_istore (lv' := [(8, .int (nI b2)), (7, .int (nI a2)), (0, .ref t0), (1, .int (nI 3)), (2, .ref n0), (3, .int (nI mb)), (4, .ref q1), (5, .int (nI a2)), (6, .int (nI b2))]) hx hb dX12_renamed_48 hl (by decide) rfl (fun ls hl => ?_)
                  refine lv_aload hx hb dX12_renamed_50 (lv_at hl 6 rfl) ?_
                  refine lv_iload_n hx hb dX12_renamed_52 rfl (lv_at hl 3 rfl) ?_
                  refine lv_aload_n hx hb dX12_renamed_53 rfl (lv_at hl 4 rfl) ?_
                  refine lv_iload hx hb dX12_renamed_54 (lv_at hl 7 rfl) ?_
                  refine va_iald hx hb hK hP 1 0 rfl rfl (vp_in_nI (n := a2) (by omega) (by omega)) dX12_renamed_56 ?_
                  refine lv_topi (nm_r (e' := nI (ν a2)) (congrArg (ta_f ν) (nI_clamp (by omega))) ?_)
                  have hv6 := hν (a2)
                  refine lv_imul hx hb dX12_renamed_57 ?_
                  refine lv_topi (nm_r (e' := nI (3 * (ν a2))) (pk_mul _ _) ?_)
                  refine lv_aload_n hx hb dX12_renamed_58 rfl (lv_at hl 4 rfl) ?_
                  refine lv_iload hx hb dX12_renamed_59 (lv_at hl 8 rfl) ?_
                  refine va_iald hx hb hK hP 1 0 rfl rfl (vp_in_nI (n := b2) (by omega) (by omega)) dX12_renamed_61 ?_
                  refine lv_topi (nm_r (e' := nI (ν b2)) (congrArg (ta_f ν) (nI_clamp (by omega))) ?_)
                  have hv7 := hν (b2)
                  refine lv_iadd hx hb dX12_renamed_62 ?_
                  refine lv_topi (nm_r (e' := nI ((3 * (ν a2)) + (ν b2))) (nI_add _ _) ?_)
                  refine lv_aload_n hx hb dX12_renamed_63 rfl (lv_at hl 4 rfl) ?_
                  refine lv_aload_n hx hb dX12_renamed_64 rfl (lv_at hl 2 rfl) ?_
                  refine lv_iload_n hx hb dX12_renamed_65 rfl (lv_at hl 3 rfl) ?_
                  refine lv_iload hx hb dX12_renamed_66 (lv_at hl 1 rfl) ?_
                  refine lv_imul hx hb dX12_renamed_68 ?_
                  refine lv_topi (nm_r (e' := nI (3 * a2)) (pk_mul _ _) ?_)
                  refine lv_iload hx hb dX12_renamed_69 (lv_at hl 0 rfl) ?_
                  refine lv_iadd hx hb dX12_renamed_71 ?_
                  refine lv_topi (nm_r (e' := nI ((3 * a2) + b2)) (nI_add _ _) ?_)
                  refine va_iald hx hb hK hP 0 0 rfl rfl (vp_in_nI (n := (3 * a2) + b2) (by omega) (by omega)) dX12_renamed_72 ?_
                  refine lv_topi (nm_r (e' := nI (φ ((3 * a2) + b2))) (congrArg (ta_f φ) (nI_clamp (by omega))) ?_)
                  have hv8 := hφ ((3 * a2) + b2)
                  refine va_iald hx hb hK hP 1 0 rfl rfl (vp_in_nI (n := φ ((3 * a2) + b2)) (by omega) (by omega)) dX12_renamed_73 ?_
                  refine lv_topi (nm_r (e' := nI (ν (φ ((3 * a2) + b2)))) (congrArg (ta_f ν) (nI_clamp (by omega))) ?_)
                  have hv9 := hν (φ ((3 * a2) + b2))
                  refine va_iast hx hb hK hP hD hS 2 0 rfl rfl (vp_in_nI (n := (3 * (ν a2)) + (ν b2)) (by omega) (by omega)) dX12_renamed_74 (fun H locs hP hD hS => ?_)
                  obtain ⟨g10, eg10⟩ : ∃ z, z = upd gb ((nI ((3 * (ν a2)) + (ν b2)))).toNatClampNeg (nI (ν (φ ((3 * a2) + b2)))) := ⟨_, rfl⟩
                  have hP : va_P (dC, dI) vwCl [(t0, .inl (cI, 9, .inl (ta_f φ))), (n0, .inl (cI, 3, .inl (ta_f ν))), (q1, .inl (cI, 9, .inl g10))] H := by rw [eg10]; exact hP
                  have hD : va_D A [(t0, .inl (cI, 9, .inl (ta_f φ))), (n0, .inl (cI, 3, .inl (ta_f ν))), (q1, .inl (cI, 9, .inl g10))] := by rw [eg10]; exact hD
                  refine lv_iinc (v := (nI (b2 + 1))) (lv' := [(6, .int (nI (b2 + 1))), (8, .int (nI b2)), (7, .int (nI a2)), (0, .ref t0), (1, .int (nI 3)), (2, .ref n0), (3, .int (nI mb)), (4, .ref q1), (5, .int (nI a2))]) hx hb dX12_renamed_75 hl (k := 8) rfl (by rw [show Int32.ofInt 1 = (1 : Int32) from rfl]; exact nI_1 _) (by decide) rfl (fun ls hl => ?_)
                  refine lv_goto (tgt := 18) hx hb dX12_renamed_78 (by decide) ?_
                  exact ihL2 (b2 + 1) g10 H locs _ (by omega) (by omega)  hP hD hS (lv_sub hl [3, 4, 5, 6, 7, 8, 0] rfl)
                · have hc5 := hc5
                  try rw [show (0 : Int32) = nI 0 from rfl] at hc5
                  try simp only [ge_iff_le, gt_iff_lt, ne_eq] at hc5
                  rw [nI_eq (by omega) (by omega)] at hc5
                  exact absurd hc5 (by omega)
              · have hc4 := hc4
                try rw [show (0 : Int32) = nI 0 from rfl] at hc4
                try simp only [ge_iff_le, gt_iff_lt, ne_eq] at hc4
                rw [nI_eq (by omega) (by omega)] at hc4
                refine lv_iload hx hb dX12_renamed_28 (lv_at hl 6 rfl) ?_
                refine lv_goto (tgt := 35) hx hb dX12_renamed_30 (by decide) ?_
                refine lv_istore (lv' := [(7, .int (nI b2)), (0, .ref t0), (1, .int (nI 3)), (2, .ref n0), (3, .int (nI mb)), (4, .ref q1), (5, .int (nI a2)), (6, .int (nI b2))]) hx hb dX12_renamed_35 hl (by decide) rfl (fun ls hl => ?_)
                refine lv_iload_n hx hb dX12_renamed_37 rfl (lv_at hl 4 rfl) ?_
                refine lv_if_eq (tgt := 46) hx hb dX12_renamed_38 (by decide) (fun hc11 => ?_) (fun hc11 => ?_)
                · have hc11 := hc11
                  try rw [show (0 : Int32) = nI 0 from rfl] at hc11
                  try simp only [ge_iff_le, gt_iff_lt, ne_eq] at hc11
                  rw [nI_eq (by omega) (by omega)] at hc11
                  exact absurd hc11 (by omega)
                · have hc11 := hc11
                  try rw [show (0 : Int32) = nI 0 from rfl] at hc11
                  try simp only [ge_iff_le, gt_iff_lt, ne_eq] at hc11
                  rw [nI_eq (by omega) (by omega)] at hc11
                  refine lv_iload hx hb dX12_renamed_41 (lv_at hl 6 rfl) ?_
                  refine lv_goto (tgt := 48) hx hb dX12_renamed_43 (by decide) ?_
                  refine lv_istore (lv' := [(8, .int (nI a2)), (7, .int (nI b2)), (0, .ref t0), (1, .int (nI 3)), (2, .ref n0), (3, .int (nI mb)), (4, .ref q1), (5, .int (nI a2)), (6, .int (nI b2))]) hx hb dX12_renamed_48 hl (by decide) rfl (fun ls hl => ?_)
                  refine lv_aload hx hb dX12_renamed_50 (lv_at hl 6 rfl) ?_
                  refine lv_iload_n hx hb dX12_renamed_52 rfl (lv_at hl 3 rfl) ?_
                  refine lv_aload_n hx hb dX12_renamed_53 rfl (lv_at hl 4 rfl) ?_
                  refine lv_iload hx hb dX12_renamed_54 (lv_at hl 7 rfl) ?_
                  refine va_iald hx hb hK hP 1 0 rfl rfl (vp_in_nI (n := a2) (by omega) (by omega)) dX12_renamed_56 ?_
                  refine lv_topi (nm_r (e' := nI (ν a2)) (congrArg (ta_f ν) (nI_clamp (by omega))) ?_)
                  have hv12 := hν (a2)
                  refine lv_imul hx hb dX12_renamed_57 ?_
                  refine lv_topi (nm_r (e' := nI (3 * (ν a2))) (pk_mul _ _) ?_)
                  refine lv_aload_n hx hb dX12_renamed_58 rfl (lv_at hl 4 rfl) ?_
                  refine lv_iload hx hb dX12_renamed_59 (lv_at hl 8 rfl) ?_
                  refine va_iald hx hb hK hP 1 0 rfl rfl (vp_in_nI (n := b2) (by omega) (by omega)) dX12_renamed_61 ?_
                  refine lv_topi (nm_r (e' := nI (ν b2)) (congrArg (ta_f ν) (nI_clamp (by omega))) ?_)
                  have hv13 := hν (b2)
                  refine lv_iadd hx hb dX12_renamed_62 ?_
                  refine lv_topi (nm_r (e' := nI ((3 * (ν a2)) + (ν b2))) (nI_add _ _) ?_)
                  refine lv_aload_n hx hb dX12_renamed_63 rfl (lv_at hl 4 rfl) ?_
                  refine lv_aload_n hx hb dX12_renamed_64 rfl (lv_at hl 2 rfl) ?_
                  refine lv_iload_n hx hb dX12_renamed_65 rfl (lv_at hl 3 rfl) ?_
                  refine lv_iload hx hb dX12_renamed_66 (lv_at hl 1 rfl) ?_
                  refine lv_imul hx hb dX12_renamed_68 ?_
                  refine lv_topi (nm_r (e' := nI (3 * b2)) (pk_mul _ _) ?_)
                  refine lv_iload hx hb dX12_renamed_69 (lv_at hl 0 rfl) ?_
                  refine lv_iadd hx hb dX12_renamed_71 ?_
                  refine lv_topi (nm_r (e' := nI ((3 * b2) + a2)) (nI_add _ _) ?_)
                  refine va_iald hx hb hK hP 0 0 rfl rfl (vp_in_nI (n := (3 * b2) + a2) (by omega) (by omega)) dX12_renamed_72 ?_
                  refine lv_topi (nm_r (e' := nI (φ ((3 * b2) + a2))) (congrArg (ta_f φ) (nI_clamp (by omega))) ?_)
                  have hv14 := hφ ((3 * b2) + a2)
                  refine va_iald hx hb hK hP 1 0 rfl rfl (vp_in_nI (n := φ ((3 * b2) + a2)) (by omega) (by omega)) dX12_renamed_73 ?_
                  refine lv_topi (nm_r (e' := nI (ν (φ ((3 * b2) + a2)))) (congrArg (ta_f ν) (nI_clamp (by omega))) ?_)
                  have hv15 := hν (φ ((3 * b2) + a2))
                  refine va_iast hx hb hK hP hD hS 2 0 rfl rfl (vp_in_nI (n := (3 * (ν a2)) + (ν b2)) (by omega) (by omega)) dX12_renamed_74 (fun H locs hP hD hS => ?_)
                  obtain ⟨g16, eg16⟩ : ∃ z, z = upd gb ((nI ((3 * (ν a2)) + (ν b2)))).toNatClampNeg (nI (ν (φ ((3 * b2) + a2)))) := ⟨_, rfl⟩
                  have hP : va_P (dC, dI) vwCl [(t0, .inl (cI, 9, .inl (ta_f φ))), (n0, .inl (cI, 3, .inl (ta_f ν))), (q1, .inl (cI, 9, .inl g16))] H := by rw [eg16]; exact hP
                  have hD : va_D A [(t0, .inl (cI, 9, .inl (ta_f φ))), (n0, .inl (cI, 3, .inl (ta_f ν))), (q1, .inl (cI, 9, .inl g16))] := by rw [eg16]; exact hD
                  refine lv_iinc (v := (nI (b2 + 1))) (lv' := [(6, .int (nI (b2 + 1))), (8, .int (nI a2)), (7, .int (nI b2)), (0, .ref t0), (1, .int (nI 3)), (2, .ref n0), (3, .int (nI mb)), (4, .ref q1), (5, .int (nI a2))]) hx hb dX12_renamed_75 hl (k := 8) rfl (by rw [show Int32.ofInt 1 = (1 : Int32) from rfl]; exact nI_1 _) (by decide) rfl (fun ls hl => ?_)
                  refine lv_goto (tgt := 18) hx hb dX12_renamed_78 (by decide) ?_
                  exact ihL2 (b2 + 1) g16 H locs _ (by omega) (by omega)  hP hD hS (lv_sub hl [3, 4, 5, 6, 7, 8, 0] rfl)
        exact L2 (3 + 1) 0 ga H locs _ (by omega) (by omega)  hP hD hS (lv_sub hl [1, 2, 3, 4, 5, 6, 0] rfl)
  exact L1 (3 + 1) 0 (ta_f (fun _ => 0)) H [] _ (by omega) (by omega)  hP hD hS (lv_sub hl [2, 3, 4, 5, 1, 0] rfl)
set_option maxHeartbeats 4000000 in
set_option maxRecDepth 100000 in
theorem metX12_isLeast (l : Launch) (dC : Nat → ClassId) (dI : Nat → Nat → Nat) (cI cJ cC cZ cD : ClassId) (sz : Nat) (t0 : Nat) (φ : Nat → Nat) (mi : Int32) (hφ : ∀ j, φ j < 3) : Met l yX12_isLeast wsX12_isLeast ({ frames := 1, cells := 81, slots := 567, locals := 28 }) (va_Pc [.ref t0, .int (nI 3), .int mi] (fun U => U.heap.size = sz ∧ va_P (dC, dI) vwCl [(t0, .inl (cI, 9, .inl (ta_f φ)))] U.heap ∧ va_K (dC, dI) vwCl [(cI, .int), (cJ, .long), (cC, .char), (cZ, .boolean), (cD, .double)] U ∧ va_D (fun _ => True) [(t0, .inl (cI, 9, .inl (ta_f φ)))])) (va_Qi (fun (r : Int32) (u : Unit) => True) (fun (u : Unit) (t : State) => va_P (dC, dI) vwCl [(t0, .inl (cI, 9, .inl (ta_f φ)))] t.heap ∧ va_K (dC, dI) vwCl [(cI, .int), (cJ, .long), (cC, .char), (cZ, .boolean), (cD, .double)] t ∧ va_D (va_A [(t0, .inl (cI, 9, .inl (ta_f φ)))] sz) [(t0, .inl (cI, 9, .inl (ta_f φ)))]) (va_A [(t0, .inl (cI, 9, .inl (ta_f φ)))] sz)) 81 567 (va_A [(t0, .inl (cI, 9, .inl (ta_f φ)))] sz) := by
  refine Met.ofW (cc := cX12_isLeast) (maxL := 9) (ret := (some .boolean)) (by decide) rfl ?_
  intro p e s m args below meth c s₁ B hml hv
  obtain ⟨rfl, hsz, hP, hK, hD0⟩ := hv
  have hx := B.exec
  have hb := B.bytes
  have hr := B.returns
  have hts := atoms_spec (ws := wsX12_isLeast) B.pre
  have hown : s.vm.findClass RX12 = some m.cls := findClass_of_methodNamed B.named
  have hlocks := B.notSynchronized
  subst hsz
  have hD := hD0.self (sz := s.heap.size)
  generalize hAe : va_A [(t0, .inl (cI, 9, .inl (ta_f φ)))] s.heap.size = A at hD ⊢
  have hA : ∀ q : Nat, s.heap.size ≤ q → A q := fun q h => by rw [← hAe]; exact Or.inr h
  have hS : va_S A s.heap s.heap [] := va_S.rf
  have hP : va_P (dC, dI) vwCl [(t0, .inl (cI, 9, .inl (ta_f φ)))] s.heap := hP
  have hl := lv_entry ([.ref t0, .int (nI 3), .int mi]) (n := 9) (Nat.le_of_ble_eq_true rfl)
  rw [lg_entry_eq]
  generalize (lg_sl ([.ref t0, .int (nI 3), .int mi]) ++ List.replicate (9 - (lg_sl ([.ref t0, .int (nI 3), .int mi])).length) Slot.unset).toArray = ls at hl ⊢
  have hl : lv_has ls 9 [(0, .ref t0), (1, .int (nI 3)), (2, .int mi)] := hl
  refine lv_iconst (v := (nI 1)) hx hb dX12_isLeast_0 (by decide) ?_
  refine lv_istore_n (lv' := [(3, .int (nI 1)), (0, .ref t0), (1, .int (nI 3)), (2, .int mi)]) hx hb dX12_isLeast_1 rfl hl (by decide) rfl (fun ls hl => ?_)
  refine lv_iconst (v := (nI 0)) hx hb dX12_isLeast_2 (by decide) ?_
  refine lv_istore (lv' := [(4, .int (nI 0)), (3, .int (nI 1)), (0, .ref t0), (1, .int (nI 3)), (2, .int mi)]) hx hb dX12_isLeast_3 hl (by decide) rfl (fun ls hl => ?_)
  refine W.widen (k := 3 * 0) (n := 21 * 0) (by omega) (by omega) ?_
  have L1 : ∀ (n i1 : Nat) (bs : Nat) (H : Heap) (locs : List Loc) (ls : Array Slot), i1 ≤ 27 → 27 + 1 ≤ i1 + n → bs ≤ 1 → va_P (dC, dI) vwCl [(t0, .inl (cI, 9, .inl (ta_f φ)))] H → va_D A [(t0, .inl (cI, 9, .inl (ta_f φ)))] → va_S A s.heap H locs → lv_has ls 9 [(0, .ref t0), (1, .int (nI 3)), (2, .int mi), (3, .int (nI bs)), (4, .int (nI i1))] → W p l e (headSpec wsX12_isLeast ({ frames := 1, cells := 81, slots := 567, locals := 28 })).room s m ([.ref t0, .int (nI 3), .int mi]).toArray below meth c H locs (3 * i1) (21 * i1) (MQ below (va_Qi (fun (r : Int32) (u : Unit) => True) (fun (u : Unit) (t : State) => va_P (dC, dI) vwCl [(t0, .inl (cI, 9, .inl (ta_f φ)))] t.heap ∧ va_K (dC, dI) vwCl [(cI, .int), (cJ, .long), (cC, .char), (cZ, .boolean), (cD, .double)] t ∧ va_D A [(t0, .inl (cI, 9, .inl (ta_f φ)))]) A) ([.ref t0, .int (nI 3), .int mi]).toArray s 81 567 A) (F0 m 5 ls []) := by
    intro n
    induction n with
    | zero =>
      intro i1 bs H locs ls h1 h2
      exact absurd h2 (by omega)
    | succ n ih =>
      intro i1 bs H locs ls hii1 hni1 hbs hP hD hS hl
      have ihL1 := ih
      clear ih
      refine lv_iload hx hb dX12_isLeast_5 (lv_at hl 4 rfl) ?_
      refine lv_bipush (v := (nI 27)) hx hb dX12_isLeast_7 (by decide) ?_
      refine lv_icmp_ge (tgt := 198) hx hb dX12_isLeast_9 (by decide) (fun hc1 => ?_) (fun hc1 => ?_)
      · try simp only [ge_iff_le, gt_iff_lt, ne_eq] at hc1
        rw [nI_leI (by omega) (by omega)] at hc1
        refine lv_iload_n hx hb dX12_isLeast_198 rfl (lv_at hl 3 rfl) ?_
        have hP9 := hP.sub (ws' := [(t0, .inl (cI, 9, .inl (ta_f φ)))]) [0] rfl
        have hD9 := hD.sub (ws' := [(t0, .inl (cI, 9, .inl (ta_f φ)))]) [0] (by decide) rfl
        refine W.widen (k := 81) (n := 567) (by omega) (by omega) ?_
        exact W.zret (ty := .boolean) (v := (nI bs)) hx hb hr (by rcases (show bs = 0 ∨ bs = 1 by omega) with rfl | rfl <;> rfl) (fun t ht hW => ⟨⟨(nI bs), (), rfl, trivial, by rw [ht]; exact hP9, va_K.moved hW.alike hK, hD9⟩, hS.F ht⟩) hS.2.2 dX12_isLeast_199
      · try simp only [ge_iff_le, gt_iff_lt, ne_eq] at hc1
        rw [nI_leI (by omega) (by omega)] at hc1
        refine lv_iconst (v := (nI 3)) hx hb dX12_isLeast_12 (by decide) ?_
        refine va_newaU (atype := .int) (N' := 3) (a0 := (3, .inl (ta_f (fun _ => 0)))) hx hb (hts (.arrayClass .int) (by decide +kernel)) rfl hK hP hD hS hA 0 rfl rfl (by first | decide | exact nI_pos (by omega)) (by first | decide | exact nI_clamp (by omega)) (by first | decide | omega) (by have h9 : 3 * i1 + 1 ≤ 81 := (by omega); exact h9) (by have h9 : 21 * i1 + 3 ≤ 567 := (by omega); exact h9) dX12_isLeast_13 (fun q2 H hq2 hP hD hS => ?_)
        have hP : va_P (dC, dI) vwCl [(t0, .inl (cI, 9, .inl (ta_f φ))), (q2, .inl (cI, 3, .inl (ta_f (fun _ => 0))))] H := hP
        have hD : va_D A [(t0, .inl (cI, 9, .inl (ta_f φ))), (q2, .inl (cI, 3, .inl (ta_f (fun _ => 0))))] := hD
        refine lv_dup hx hb dX12_isLeast_15 rfl ?_
        refine lv_iconst (v := (nI 0)) hx hb dX12_isLeast_16 (by decide) ?_
        refine lv_iload hx hb dX12_isLeast_17 (lv_at hl 4 rfl) ?_
        refine lv_bipush (v := (nI 9)) hx hb dX12_isLeast_19 (by decide) ?_
        refine lv_idiv hx hb dX12_isLeast_21 (nI_ne0 (n := 9) (by omega) (by omega)) ?_
        refine lv_topi (nm_r (e' := nI (i1 / 9)) (pk_div (by omega) (by omega) (by omega)) ?_)
        refine va_iast hx hb hK hP hD hS 1 0 rfl rfl (vp_in_nI (n := 0) (by omega) (by omega)) dX12_isLeast_22 (fun H locs hP hD hS => ?_)
        rw [nI_clamp (n := 0) (by omega), ta_upd] at hP hD
        have hP : va_P (dC, dI) vwCl [(t0, .inl (cI, 9, .inl (ta_f φ))), (q2, .inl (cI, 3, .inl (ta_f (ta_u (fun _ => 0) (0) (i1 / 9)))))] H := hP
        have hD : va_D A [(t0, .inl (cI, 9, .inl (ta_f φ))), (q2, .inl (cI, 3, .inl (ta_f (ta_u (fun _ => 0) (0) (i1 / 9)))))] := hD
        refine lv_dup hx hb dX12_isLeast_23 rfl ?_
        refine lv_iconst (v := (nI 1)) hx hb dX12_isLeast_24 (by decide) ?_
        refine lv_iload hx hb dX12_isLeast_25 (lv_at hl 4 rfl) ?_
        refine lv_iconst (v := (nI 3)) hx hb dX12_isLeast_27 (by decide) ?_
        refine lv_idiv hx hb dX12_isLeast_28 (nI_ne0 (n := 3) (by omega) (by omega)) ?_
        refine lv_topi (nm_r (e' := nI (i1 / 3)) (pk_div (by omega) (by omega) (by omega)) ?_)
        refine lv_iconst (v := (nI 3)) hx hb dX12_isLeast_29 (by decide) ?_
        refine lv_irem hx hb dX12_isLeast_30 (nI_ne0 (n := 3) (by omega) (by omega)) ?_
        refine lv_topi (nm_r (e' := nI ((i1 / 3) % 3)) (pk_rem (by omega) (by omega) (by omega)) ?_)
        refine va_iast hx hb hK hP hD hS 1 0 rfl rfl (vp_in_nI (n := 1) (by omega) (by omega)) dX12_isLeast_31 (fun H locs hP hD hS => ?_)
        rw [nI_clamp (n := 1) (by omega), ta_upd] at hP hD
        have hP : va_P (dC, dI) vwCl [(t0, .inl (cI, 9, .inl (ta_f φ))), (q2, .inl (cI, 3, .inl (ta_f (ta_u (ta_u (fun _ => 0) (0) (i1 / 9)) (1) ((i1 / 3) % 3)))))] H := hP
        have hD : va_D A [(t0, .inl (cI, 9, .inl (ta_f φ))), (q2, .inl (cI, 3, .inl (ta_f (ta_u (ta_u (fun _ => 0) (0) (i1 / 9)) (1) ((i1 / 3) % 3)))))] := hD
        refine lv_dup hx hb dX12_isLeast_32 rfl ?_
        refine lv_iconst (v := (nI 2)) hx hb dX12_isLeast_33 (by decide) ?_
        refine lv_iload hx hb dX12_isLeast_34 (lv_at hl 4 rfl) ?_
        refine lv_iconst (v := (nI 3)) hx hb dX12_isLeast_36 (by decide) ?_
        refine lv_irem hx hb dX12_isLeast_37 (nI_ne0 (n := 3) (by omega) (by omega)) ?_
        refine lv_topi (nm_r (e' := nI (i1 % 3)) (pk_rem (by omega) (by omega) (by omega)) ?_)
        refine va_iast hx hb hK hP hD hS 1 0 rfl rfl (vp_in_nI (n := 2) (by omega) (by omega)) dX12_isLeast_38 (fun H locs hP hD hS => ?_)
        rw [nI_clamp (n := 2) (by omega), ta_upd] at hP hD
        have hP : va_P (dC, dI) vwCl [(t0, .inl (cI, 9, .inl (ta_f φ))), (q2, .inl (cI, 3, .inl (ta_f (ta_u (ta_u (ta_u (fun _ => 0) (0) (i1 / 9)) (1) ((i1 / 3) % 3)) (2) (i1 % 3)))))] H := hP
        have hD : va_D A [(t0, .inl (cI, 9, .inl (ta_f φ))), (q2, .inl (cI, 3, .inl (ta_f (ta_u (ta_u (ta_u (fun _ => 0) (0) (i1 / 9)) (1) ((i1 / 3) % 3)) (2) (i1 % 3)))))] := hD
        refine lv_astore (lv' := [(5, .ref q2), (0, .ref t0), (1, .int (nI 3)), (2, .int mi), (3, .int (nI bs)), (4, .int (nI i1))]) hx hb dX12_isLeast_39 hl (by decide) rfl (fun ls hl => ?_)
        obtain ⟨nu, hnu, enu⟩ : ∃ z : Nat → Nat, (∀ j, z j < 3) ∧ z = (ta_u (ta_u (ta_u (fun _ => 0) (0) (i1 / 9)) (1) ((i1 / 3) % 3)) (2) (i1 % 3)) := ⟨(ta_u (ta_u (ta_u (fun _ => 0) (0) (i1 / 9)) (1) ((i1 / 3) % 3)) (2) (i1 % 3)), ta_lt (ta_lt (ta_lt (fun _ => by omega) (by omega)) (by omega)) (by omega), rfl⟩
        rw [← enu] at hP hD
        have hP : va_P (dC, dI) vwCl [(t0, .inl (cI, 9, .inl (ta_f φ))), (q2, .inl (cI, 3, .inl (ta_f nu)))] H := hP
        have hD : va_D A [(t0, .inl (cI, 9, .inl (ta_f φ))), (q2, .inl (cI, 3, .inl (ta_f nu)))] := hD
        refine lv_iconst (v := (nI 1)) hx hb dX12_isLeast_41 (by decide) ?_
        refine lv_istore (lv' := [(6, .int (nI 1)), (5, .ref q2), (0, .ref t0), (1, .int (nI 3)), (2, .int mi), (3, .int (nI bs)), (4, .int (nI i1))]) hx hb dX12_isLeast_42 hl (by decide) rfl (fun ls hl => ?_)
        refine lv_iconst (v := (nI 0)) hx hb dX12_isLeast_44 (by decide) ?_
        refine lv_istore (lv' := [(7, .int (nI 0)), (6, .int (nI 1)), (5, .ref q2), (0, .ref t0), (1, .int (nI 3)), (2, .int mi), (3, .int (nI bs)), (4, .int (nI i1))]) hx hb dX12_isLeast_45 hl (by decide) rfl (fun ls hl => ?_)
        have L2 : ∀ (n a2 : Nat) (ar : Nat) (H : Heap) (locs : List Loc) (ls : Array Slot), a2 ≤ 3 → 3 + 1 ≤ a2 + n → ar ≤ 1 → va_P (dC, dI) vwCl [(t0, .inl (cI, 9, .inl (ta_f φ))), (q2, .inl (cI, 3, .inl (ta_f nu)))] H → va_D A [(t0, .inl (cI, 9, .inl (ta_f φ))), (q2, .inl (cI, 3, .inl (ta_f nu)))] → va_S A s.heap H locs → lv_has ls 9 [(0, .ref t0), (1, .int (nI 3)), (2, .int mi), (3, .int (nI bs)), (4, .int (nI i1)), (5, .ref q2), (6, .int (nI ar)), (7, .int (nI a2))] → W p l e (headSpec wsX12_isLeast ({ frames := 1, cells := 81, slots := 567, locals := 28 })).room s m ([.ref t0, .int (nI 3), .int mi]).toArray below meth c H locs (3 * i1 + 1) (21 * i1 + 3) (MQ below (va_Qi (fun (r : Int32) (u : Unit) => True) (fun (u : Unit) (t : State) => va_P (dC, dI) vwCl [(t0, .inl (cI, 9, .inl (ta_f φ)))] t.heap ∧ va_K (dC, dI) vwCl [(cI, .int), (cJ, .long), (cC, .char), (cZ, .boolean), (cD, .double)] t ∧ va_D A [(t0, .inl (cI, 9, .inl (ta_f φ)))]) A) ([.ref t0, .int (nI 3), .int mi]).toArray s 81 567 A) (F0 m 47 ls []) := by
          intro n
          induction n with
          | zero =>
            intro a2 ar H locs ls h1 h2
            exact absurd h2 (by omega)
          | succ n ih =>
            intro a2 ar H locs ls hia2 hna2 har hP hD hS hl
            have ihL2 := ih
            clear ih
            refine lv_iload hx hb dX12_isLeast_47 (lv_at hl 7 rfl) ?_
            refine lv_iload_n hx hb dX12_isLeast_49 rfl (lv_at hl 1 rfl) ?_
            refine lv_icmp_ge (tgt := 121) hx hb dX12_isLeast_50 (by decide) (fun hc6 => ?_) (fun hc6 => ?_)
            · try simp only [ge_iff_le, gt_iff_lt, ne_eq] at hc6
              rw [nI_leI (by omega) (by omega)] at hc6
              refine lv_iload hx hb dX12_isLeast_121 (lv_at hl 6 rfl) ?_
              refine lv_if_eq (tgt := 192) hx hb dX12_isLeast_123 (by decide) (fun hc7 => ?_) (fun hc7 => ?_)
              · have hc7 := hc7
                try rw [show (0 : Int32) = nI 0 from rfl] at hc7
                try simp only [ge_iff_le, gt_iff_lt, ne_eq] at hc7
                rw [nI_eq (by omega) (by omega)] at hc7
                refine lv_iinc (v := (nI (i1 + 1))) (lv' := [(4, .int (nI (i1 + 1))), (0, .ref t0), (1, .int (nI 3)), (2, .int mi), (3, .int (nI bs)), (5, .ref q2), (6, .int (nI ar)), (7, .int (nI a2))]) hx hb dX12_isLeast_192 hl (k := 4) rfl (by rw [show Int32.ofInt 1 = (1 : Int32) from rfl]; exact nI_1 _) (by decide) rfl (fun ls hl => ?_)
                refine lv_goto (tgt := 5) hx hb dX12_isLeast_195 (by decide) ?_
                refine W.widen (k := 3 * (i1 + 1)) (n := 21 * (i1 + 1)) (by omega) (by omega) ?_
                have hP := hP.sub (ws' := [(t0, .inl (cI, 9, .inl (ta_f φ)))]) [0] rfl
                have hD := hD.sub (ws' := [(t0, .inl (cI, 9, .inl (ta_f φ)))]) [0] (by decide) rfl
                exact ihL1 (i1 + 1) bs H locs _ (by omega) (by omega) (by omega) hP hD hS (lv_sub hl [1, 2, 3, 4, 0] rfl)
              · have hc7 := hc7
                try rw [show (0 : Int32) = nI 0 from rfl] at hc7
                try simp only [ge_iff_le, gt_iff_lt, ne_eq] at hc7
                rw [nI_eq (by omega) (by omega)] at hc7
                refine lv_iload_n hx hb dX12_isLeast_126 rfl (lv_at hl 3 rfl) ?_
                refine lv_if_eq (tgt := 155) hx hb dX12_isLeast_127 (by decide) (fun hc8 => ?_) (fun hc8 => ?_)
                · have hc8 := hc8
                  try rw [show (0 : Int32) = nI 0 from rfl] at hc8
                  try simp only [ge_iff_le, gt_iff_lt, ne_eq] at hc8
                  rw [nI_eq (by omega) (by omega)] at hc8
                  refine lv_iconst (v := (nI 0)) hx hb dX12_isLeast_155 (by decide) ?_
                  refine lv_istore_n (lv' := [(3, .int (nI 0)), (0, .ref t0), (1, .int (nI 3)), (2, .int mi), (4, .int (nI i1)), (5, .ref q2), (6, .int (nI ar)), (7, .int (nI a2))]) hx hb dX12_isLeast_156 rfl hl (by decide) rfl (fun ls hl => ?_)
                  refine lv_iload_n hx hb dX12_isLeast_157 rfl (lv_at hl 0 rfl) ?_
                  refine lv_if_eq (tgt := 190) hx hb dX12_isLeast_158 (by decide) (fun hc9 => ?_) (fun hc9 => ?_)
                  · refine lv_iconst (v := (nI 0)) hx hb dX12_isLeast_190 (by decide) ?_
                    refine lv_istore_n (lv' := [(3, .int (nI 0)), (0, .ref t0), (1, .int (nI 3)), (2, .int mi), (4, .int (nI i1)), (5, .ref q2), (6, .int (nI ar)), (7, .int (nI a2))]) hx hb dX12_isLeast_191 rfl hl (by decide) rfl (fun ls hl => ?_)
                    refine lv_iinc (v := (nI (i1 + 1))) (lv' := [(4, .int (nI (i1 + 1))), (3, .int (nI 0)), (0, .ref t0), (1, .int (nI 3)), (2, .int mi), (5, .ref q2), (6, .int (nI ar)), (7, .int (nI a2))]) hx hb dX12_isLeast_192 hl (k := 4) rfl (by rw [show Int32.ofInt 1 = (1 : Int32) from rfl]; exact nI_1 _) (by decide) rfl (fun ls hl => ?_)
                    refine lv_goto (tgt := 5) hx hb dX12_isLeast_195 (by decide) ?_
                    refine W.widen (k := 3 * (i1 + 1)) (n := 21 * (i1 + 1)) (by omega) (by omega) ?_
                    have hP := hP.sub (ws' := [(t0, .inl (cI, 9, .inl (ta_f φ)))]) [0] rfl
                    have hD := hD.sub (ws' := [(t0, .inl (cI, 9, .inl (ta_f φ)))]) [0] (by decide) rfl
                    exact ihL1 (i1 + 1) 0 H locs _ (by omega) (by omega) (by omega) hP hD hS (lv_sub hl [2, 3, 4, 1, 0] rfl)
                  · exact (hc9 (by decide)).elim
                · have hc8 := hc8
                  try rw [show (0 : Int32) = nI 0 from rfl] at hc8
                  try simp only [ge_iff_le, gt_iff_lt, ne_eq] at hc8
                  rw [nI_eq (by omega) (by omega)] at hc8
                  refine lv_aload_n hx hb dX12_isLeast_130 rfl (lv_at hl 0 rfl) ?_
                  refine lv_iload_n hx hb dX12_isLeast_131 rfl (lv_at hl 1 rfl) ?_
                  refine lv_aload hx hb dX12_isLeast_132 (lv_at hl 5 rfl) ?_
                  refine lv_iconst (v := (nI 0)) hx hb dX12_isLeast_134 (by decide) ?_
                  have hPc := hP.sub (ws' := [(t0, .inl (cI, 9, .inl (ta_f φ))), (q2, .inl (cI, 3, .inl (ta_f nu)))]) [0, 1] rfl
                  have hDc := hD.sub (ws' := [(t0, .inl (cI, 9, .inl (ta_f φ))), (q2, .inl (cI, 3, .inl (ta_f nu)))]) [0, 1] (by decide) rfl
                  have hFc := va_free (wc := [(t0, .inl (cI, 9, .inl (ta_f φ))), (q2, .inl (cI, 3, .inl (ta_f nu)))]) hD hS hA [0, 1] rfl
                  refine va_callr (va_runS (As := [.ref t0, .int (nI 3), .ref q2, .int (nI 0)]) (rest := []) ⟨hx, hb, hml, hown, hts⟩ (metX12_renamed l dC dI cI cJ cC cZ cD H.size t0 q2 φ nu 0 hφ hnu (by omega)) (va_cwS 4 hts gX12_isLeast_X12_renamed rfl rfl rfl (by decide +kernel) ⟨Nat.le_of_ble_eq_true rfl, Nat.le_of_ble_eq_true rfl⟩) ⟨fun a U g mk q => by obtain ⟨q0, q1, qP, qK, qD⟩ := q; exact ⟨q0, q1, qP, va_K.moved (u := U) (U := U.calling g mk a) (Vm.Alike.refl U.vm) qK, qD⟩, fun U hU hW => ⟨rfl, by rw [hU], by rw [hU]; exact hPc, va_K.moved hW.alike hK, hDc.weaken (fun _ _ _ _ => trivial)⟩⟩ rfl rfl hl.1 rfl (lv_room (Nat.le_of_ble_eq_true rfl)) dX12_isLeast_135 ⟨(by have h9 : 3 * i1 + 1 + 1 ≤ 81 := (by omega); exact h9), (by have h9 : 21 * i1 + 3 + 9 ≤ 567 := (by omega); exact h9)⟩) hS (fun q _ h => hFc q h) hFc (fun u r10 t H1 locs ht hvm hw hB hz1 hk1 hS => ?_)
                  obtain ⟨gm11, rfl⟩ : ∃ z, z = u := ⟨_, rfl⟩
                  obtain ⟨hP1, hK1, hD1⟩ := hB
                  rw [ht] at hP1
                  try dsimp only at hP1 hD1 hw
                  obtain ⟨hP, hD⟩ := va_join (wr := []) (w1 := [(t0, .inl (cI, 9, .inl (ta_f φ))), (q2, .inl (cI, 3, .inl (ta_f nu))), (r10, .inl (cI, 9, .inl gm11))]) hP hD [0, 1] [] rfl rfl (by decide) (by decide) hk1 hFc hP1 hD1
                  generalize H1 = H at hP hS ⊢
                  have hP : va_P (dC, dI) vwCl [(t0, .inl (cI, 9, .inl (ta_f φ))), (q2, .inl (cI, 3, .inl (ta_f nu))), (r10, .inl (cI, 9, .inl gm11))] H := hP
                  have hD : va_D A [(t0, .inl (cI, 9, .inl (ta_f φ))), (q2, .inl (cI, 3, .inl (ta_f nu))), (r10, .inl (cI, 9, .inl gm11))] := hD
                  refine lv_iload_n hx hb dX12_isLeast_138 rfl (lv_at hl 1 rfl) ?_
                  have hPc := hP.sub (ws' := [(r10, .inl (cI, 9, .inl gm11))]) [2] rfl
                  have hDc := hD.sub (ws' := [(r10, .inl (cI, 9, .inl gm11))]) [2] (by decide) rfl
                  have hFc := va_free (wc := [(r10, .inl (cI, 9, .inl gm11))]) hD hS hA [2] rfl
                  refine va_calll (va_runS (As := [.ref r10, .int (nI 3)]) (rest := []) ⟨hx, hb, hml, hown, hts⟩ (metX12_numberOf_ l dC dI cI cJ cC cZ cD H.size r10 gm11) (va_cwS 2 hts gX12_isLeast_X12_numberOf_ rfl rfl rfl (by decide +kernel) ⟨Nat.le_of_ble_eq_true rfl, Nat.le_of_ble_eq_true rfl⟩) ⟨fun a U g mk q => by obtain ⟨q0, q1, qP, qK, qD⟩ := q; exact ⟨q0, q1, qP, va_K.moved (u := U) (U := U.calling g mk a) (Vm.Alike.refl U.vm) qK, qD⟩, fun U hU hW => ⟨rfl, by rw [hU], by rw [hU]; exact hPc, va_K.moved hW.alike hK, hDc.weaken (fun _ _ _ _ => trivial)⟩⟩ rfl rfl hl.1 rfl (lv_room (Nat.le_of_ble_eq_true rfl)) dX12_isLeast_139 ⟨(by have h9 : 3 * i1 + 1 + 1 + 0 ≤ 81 := (by omega); exact h9), (by have h9 : 21 * i1 + 3 + 9 + 0 ≤ 567 := (by omega); exact h9)⟩) hS (fun q _ h => hFc q h) hFc (fun r12 u t H1 locs ht hvm hw hB hz1 hk1 hS => ?_)
                  obtain ⟨hP1, hK1, hD1⟩ := hB
                  rw [ht] at hP1
                  try dsimp only at hP1 hD1 hw
                  obtain ⟨hP, hD⟩ := va_join (wr := [(t0, .inl (cI, 9, .inl (ta_f φ))), (q2, .inl (cI, 3, .inl (ta_f nu)))]) (w1 := [(r10, .inl (cI, 9, .inl gm11))]) hP hD [2] [0, 1] rfl rfl (by decide) (by decide) hk1 hFc hP1 hD1
                  generalize H1 = H at hP hS ⊢
                  have hP : va_P (dC, dI) vwCl [(t0, .inl (cI, 9, .inl (ta_f φ))), (q2, .inl (cI, 3, .inl (ta_f nu))), (r10, .inl (cI, 9, .inl gm11))] H := hP
                  have hD : va_D A [(t0, .inl (cI, 9, .inl (ta_f φ))), (q2, .inl (cI, 3, .inl (ta_f nu))), (r10, .inl (cI, 9, .inl gm11))] := hD
                  refine lv_aload_n hx hb dX12_isLeast_142 rfl (lv_at hl 0 rfl) ?_
                  refine lv_iload_n hx hb dX12_isLeast_143 rfl (lv_at hl 1 rfl) ?_
                  have hPc := hP.sub (ws' := [(t0, .inl (cI, 9, .inl (ta_f φ)))]) [0] rfl
                  have hDc := hD.sub (ws' := [(t0, .inl (cI, 9, .inl (ta_f φ)))]) [0] (by decide) rfl
                  have hFc := va_free (wc := [(t0, .inl (cI, 9, .inl (ta_f φ)))]) hD hS hA [0] rfl
                  refine va_calll (va_runS (As := [.ref t0, .int (nI 3)]) (rest := [.long (r12)]) ⟨hx, hb, hml, hown, hts⟩ (metX12_numberOf_ l dC dI cI cJ cC cZ cD H.size t0 (ta_f φ)) (va_cwS 2 hts gX12_isLeast_X12_numberOf_ rfl rfl rfl (by decide +kernel) ⟨Nat.le_of_ble_eq_true rfl, Nat.le_of_ble_eq_true rfl⟩) ⟨fun a U g mk q => by obtain ⟨q0, q1, qP, qK, qD⟩ := q; exact ⟨q0, q1, qP, va_K.moved (u := U) (U := U.calling g mk a) (Vm.Alike.refl U.vm) qK, qD⟩, fun U hU hW => ⟨rfl, by rw [hU], by rw [hU]; exact hPc, va_K.moved hW.alike hK, hDc.weaken (fun _ _ _ _ => trivial)⟩⟩ rfl rfl hl.1 rfl (lv_room (Nat.le_of_ble_eq_true rfl)) dX12_isLeast_144 ⟨(by have h9 : 3 * i1 + 1 + 1 + 0 + 0 ≤ 81 := (by omega); exact h9), (by have h9 : 21 * i1 + 3 + 9 + 0 + 0 ≤ 567 := (by omega); exact h9)⟩) hS (fun q _ h => hFc q h) hFc (fun r13 u t H1 locs ht hvm hw hB hz1 hk1 hS => ?_)
                  obtain ⟨hP1, hK1, hD1⟩ := hB
                  rw [ht] at hP1
                  try dsimp only at hP1 hD1 hw
                  obtain ⟨hP, hD⟩ := va_join (wr := [(q2, .inl (cI, 3, .inl (ta_f nu))), (r10, .inl (cI, 9, .inl gm11))]) (w1 := [(t0, .inl (cI, 9, .inl (ta_f φ)))]) hP hD [0] [1, 2] rfl rfl (by decide) (by decide) hk1 hFc hP1 hD1
                  generalize H1 = H at hP hS ⊢
                  have hP : va_P (dC, dI) vwCl [(q2, .inl (cI, 3, .inl (ta_f nu))), (r10, .inl (cI, 9, .inl gm11)), (t0, .inl (cI, 9, .inl (ta_f φ)))] H := hP
                  have hD : va_D A [(q2, .inl (cI, 3, .inl (ta_f nu))), (r10, .inl (cI, 9, .inl gm11)), (t0, .inl (cI, 9, .inl (ta_f φ)))] := hD
                  refine W.lcmp hx hb dX12_isLeast_147 ?_
                  refine lv_if_lt (tgt := 155) hx hb dX12_isLeast_148 (by decide) (fun hc14 => ?_) (fun hc14 => ?_)
                  · refine lv_iconst (v := (nI 0)) hx hb dX12_isLeast_155 (by decide) ?_
                    refine lv_istore_n (lv' := [(3, .int (nI 0)), (0, .ref t0), (1, .int (nI 3)), (2, .int mi), (4, .int (nI i1)), (5, .ref q2), (6, .int (nI ar)), (7, .int (nI a2))]) hx hb dX12_isLeast_156 rfl hl (by decide) rfl (fun ls hl => ?_)
                    refine lv_iload_n hx hb dX12_isLeast_157 rfl (lv_at hl 0 rfl) ?_
                    refine lv_if_eq (tgt := 190) hx hb dX12_isLeast_158 (by decide) (fun hc15 => ?_) (fun hc15 => ?_)
                    · refine lv_iconst (v := (nI 0)) hx hb dX12_isLeast_190 (by decide) ?_
                      refine lv_istore_n (lv' := [(3, .int (nI 0)), (0, .ref t0), (1, .int (nI 3)), (2, .int mi), (4, .int (nI i1)), (5, .ref q2), (6, .int (nI ar)), (7, .int (nI a2))]) hx hb dX12_isLeast_191 rfl hl (by decide) rfl (fun ls hl => ?_)
                      refine lv_iinc (v := (nI (i1 + 1))) (lv' := [(4, .int (nI (i1 + 1))), (3, .int (nI 0)), (0, .ref t0), (1, .int (nI 3)), (2, .int mi), (5, .ref q2), (6, .int (nI ar)), (7, .int (nI a2))]) hx hb dX12_isLeast_192 hl (k := 4) rfl (by rw [show Int32.ofInt 1 = (1 : Int32) from rfl]; exact nI_1 _) (by decide) rfl (fun ls hl => ?_)
                      refine lv_goto (tgt := 5) hx hb dX12_isLeast_195 (by decide) ?_
                      refine W.widen (k := 3 * (i1 + 1)) (n := 21 * (i1 + 1)) (by omega) (by omega) ?_
                      have hP := hP.sub (ws' := [(t0, .inl (cI, 9, .inl (ta_f φ)))]) [2] rfl
                      have hD := hD.sub (ws' := [(t0, .inl (cI, 9, .inl (ta_f φ)))]) [2] (by decide) rfl
                      exact ihL1 (i1 + 1) 0 H locs _ (by omega) (by omega) (by omega) hP hD hS (lv_sub hl [2, 3, 4, 1, 0] rfl)
                    · exact (hc15 (by decide)).elim
                  · refine lv_iconst (v := (nI 1)) hx hb dX12_isLeast_151 (by decide) ?_
                    refine lv_goto (tgt := 156) hx hb dX12_isLeast_152 (by decide) ?_
                    refine lv_istore_n (lv' := [(3, .int (nI 1)), (0, .ref t0), (1, .int (nI 3)), (2, .int mi), (4, .int (nI i1)), (5, .ref q2), (6, .int (nI ar)), (7, .int (nI a2))]) hx hb dX12_isLeast_156 rfl hl (by decide) rfl (fun ls hl => ?_)
                    refine lv_iload_n hx hb dX12_isLeast_157 rfl (lv_at hl 0 rfl) ?_
                    refine lv_if_eq (tgt := 190) hx hb dX12_isLeast_158 (by decide) (fun hc16 => ?_) (fun hc16 => ?_)
                    · exact absurd hc16 (by decide)
                    · refine lv_iload_n hx hb dX12_isLeast_161 rfl (lv_at hl 3 rfl) ?_
                      refine lv_if_eq (tgt := 186) hx hb dX12_isLeast_162 (by decide) (fun hc17 => ?_) (fun hc17 => ?_)
                      · refine lv_iconst (v := (nI 1)) hx hb dX12_isLeast_186 (by decide) ?_
                        refine lv_goto (tgt := 191) hx hb dX12_isLeast_187 (by decide) ?_
                        refine lv_istore_n (lv' := [(3, .int (nI 1)), (0, .ref t0), (1, .int (nI 3)), (2, .int mi), (4, .int (nI i1)), (5, .ref q2), (6, .int (nI ar)), (7, .int (nI a2))]) hx hb dX12_isLeast_191 rfl hl (by decide) rfl (fun ls hl => ?_)
                        refine lv_iinc (v := (nI (i1 + 1))) (lv' := [(4, .int (nI (i1 + 1))), (3, .int (nI 1)), (0, .ref t0), (1, .int (nI 3)), (2, .int mi), (5, .ref q2), (6, .int (nI ar)), (7, .int (nI a2))]) hx hb dX12_isLeast_192 hl (k := 4) rfl (by rw [show Int32.ofInt 1 = (1 : Int32) from rfl]; exact nI_1 _) (by decide) rfl (fun ls hl => ?_)
                        refine lv_goto (tgt := 5) hx hb dX12_isLeast_195 (by decide) ?_
                        refine W.widen (k := 3 * (i1 + 1)) (n := 21 * (i1 + 1)) (by omega) (by omega) ?_
                        have hP := hP.sub (ws' := [(t0, .inl (cI, 9, .inl (ta_f φ)))]) [2] rfl
                        have hD := hD.sub (ws' := [(t0, .inl (cI, 9, .inl (ta_f φ)))]) [2] (by decide) rfl
                        exact ihL1 (i1 + 1) 1 H locs _ (by omega) (by omega) (by omega) hP hD hS (lv_sub hl [2, 3, 4, 1, 0] rfl)
                      · refine lv_aload_n hx hb dX12_isLeast_165 rfl (lv_at hl 1 rfl) ?_
                        refine lv_iload_n hx hb dX12_isLeast_166 rfl (lv_at hl 2 rfl) ?_
                        refine lv_aload hx hb dX12_isLeast_167 (lv_at hl 5 rfl) ?_
                        refine lv_iconst (v := (nI 1)) hx hb dX12_isLeast_169 (by decide) ?_
                        have hPc := hP.sub (ws' := [(t0, .inl (cI, 9, .inl (ta_f φ))), (q2, .inl (cI, 3, .inl (ta_f nu)))]) [2, 0] rfl
                        have hDc := hD.sub (ws' := [(t0, .inl (cI, 9, .inl (ta_f φ))), (q2, .inl (cI, 3, .inl (ta_f nu)))]) [2, 0] (by decide) rfl
                        have hFc := va_free (wc := [(t0, .inl (cI, 9, .inl (ta_f φ))), (q2, .inl (cI, 3, .inl (ta_f nu)))]) hD hS hA [2, 0] rfl
                        refine va_callr (va_runS (As := [.ref t0, .int (nI 3), .ref q2, .int (nI 1)]) (rest := []) ⟨hx, hb, hml, hown, hts⟩ (metX12_renamed l dC dI cI cJ cC cZ cD H.size t0 q2 φ nu 1 hφ hnu (by omega)) (va_cwS 4 hts gX12_isLeast_X12_renamed rfl rfl rfl (by decide +kernel) ⟨Nat.le_of_ble_eq_true rfl, Nat.le_of_ble_eq_true rfl⟩) ⟨fun a U g mk q => by obtain ⟨q0, q1, qP, qK, qD⟩ := q; exact ⟨q0, q1, qP, va_K.moved (u := U) (U := U.calling g mk a) (Vm.Alike.refl U.vm) qK, qD⟩, fun U hU hW => ⟨rfl, by rw [hU], by rw [hU]; exact hPc, va_K.moved hW.alike hK, hDc.weaken (fun _ _ _ _ => trivial)⟩⟩ rfl rfl hl.1 rfl (lv_room (Nat.le_of_ble_eq_true rfl)) dX12_isLeast_170 ⟨(by have h9 : 3 * i1 + 1 + 1 + 0 + 0 + 1 ≤ 81 := (by omega); exact h9), (by have h9 : 21 * i1 + 3 + 9 + 0 + 0 + 9 ≤ 567 := (by omega); exact h9)⟩) hS (fun q _ h => hFc q h) hFc (fun u r18 t H1 locs ht hvm hw hB hz1 hk1 hS => ?_)
                        obtain ⟨gm19, rfl⟩ : ∃ z, z = u := ⟨_, rfl⟩
                        obtain ⟨hP1, hK1, hD1⟩ := hB
                        rw [ht] at hP1
                        try dsimp only at hP1 hD1 hw
                        obtain ⟨hP, hD⟩ := va_join (wr := [(r10, .inl (cI, 9, .inl gm11))]) (w1 := [(t0, .inl (cI, 9, .inl (ta_f φ))), (q2, .inl (cI, 3, .inl (ta_f nu))), (r18, .inl (cI, 9, .inl gm19))]) hP hD [2, 0] [1] rfl rfl (by decide) (by decide) hk1 hFc hP1 hD1
                        generalize H1 = H at hP hS ⊢
                        have hP : va_P (dC, dI) vwCl [(r10, .inl (cI, 9, .inl gm11)), (t0, .inl (cI, 9, .inl (ta_f φ))), (q2, .inl (cI, 3, .inl (ta_f nu))), (r18, .inl (cI, 9, .inl gm19))] H := hP
                        have hD : va_D A [(r10, .inl (cI, 9, .inl gm11)), (t0, .inl (cI, 9, .inl (ta_f φ))), (q2, .inl (cI, 3, .inl (ta_f nu))), (r18, .inl (cI, 9, .inl gm19))] := hD
                        refine lv_iload_n hx hb dX12_isLeast_173 rfl (lv_at hl 2 rfl) ?_
                        have hPc := hP.sub (ws' := [(r18, .inl (cI, 9, .inl gm19))]) [3] rfl
                        have hDc := hD.sub (ws' := [(r18, .inl (cI, 9, .inl gm19))]) [3] (by decide) rfl
                        have hFc := va_free (wc := [(r18, .inl (cI, 9, .inl gm19))]) hD hS hA [3] rfl
                        refine va_calll (va_runS (As := [.ref r18, .int (nI 3)]) (rest := []) ⟨hx, hb, hml, hown, hts⟩ (metX12_numberOf_ l dC dI cI cJ cC cZ cD H.size r18 gm19) (va_cwS 2 hts gX12_isLeast_X12_numberOf_ rfl rfl rfl (by decide +kernel) ⟨Nat.le_of_ble_eq_true rfl, Nat.le_of_ble_eq_true rfl⟩) ⟨fun a U g mk q => by obtain ⟨q0, q1, qP, qK, qD⟩ := q; exact ⟨q0, q1, qP, va_K.moved (u := U) (U := U.calling g mk a) (Vm.Alike.refl U.vm) qK, qD⟩, fun U hU hW => ⟨rfl, by rw [hU], by rw [hU]; exact hPc, va_K.moved hW.alike hK, hDc.weaken (fun _ _ _ _ => trivial)⟩⟩ rfl rfl hl.1 rfl (lv_room (Nat.le_of_ble_eq_true rfl)) dX12_isLeast_174 ⟨(by have h9 : 3 * i1 + 1 + 1 + 0 + 0 + 1 + 0 ≤ 81 := (by omega); exact h9), (by have h9 : 21 * i1 + 3 + 9 + 0 + 0 + 9 + 0 ≤ 567 := (by omega); exact h9)⟩) hS (fun q _ h => hFc q h) hFc (fun r20 u t H1 locs ht hvm hw hB hz1 hk1 hS => ?_)
                        obtain ⟨hP1, hK1, hD1⟩ := hB
                        rw [ht] at hP1
                        try dsimp only at hP1 hD1 hw
                        obtain ⟨hP, hD⟩ := va_join (wr := [(r10, .inl (cI, 9, .inl gm11)), (t0, .inl (cI, 9, .inl (ta_f φ))), (q2, .inl (cI, 3, .inl (ta_f nu)))]) (w1 := [(r18, .inl (cI, 9, .inl gm19))]) hP hD [3] [0, 1, 2] rfl rfl (by decide) (by decide) hk1 hFc hP1 hD1
                        generalize H1 = H at hP hS ⊢
                        have hP : va_P (dC, dI) vwCl [(r10, .inl (cI, 9, .inl gm11)), (t0, .inl (cI, 9, .inl (ta_f φ))), (q2, .inl (cI, 3, .inl (ta_f nu))), (r18, .inl (cI, 9, .inl gm19))] H := hP
                        have hD : va_D A [(r10, .inl (cI, 9, .inl gm11)), (t0, .inl (cI, 9, .inl (ta_f φ))), (q2, .inl (cI, 3, .inl (ta_f nu))), (r18, .inl (cI, 9, .inl gm19))] := hD
                        refine lv_aload_n hx hb dX12_isLeast_177 rfl (lv_at hl 1 rfl) ?_
                        refine lv_iload_n hx hb dX12_isLeast_178 rfl (lv_at hl 2 rfl) ?_
                        have hPc := hP.sub (ws' := [(t0, .inl (cI, 9, .inl (ta_f φ)))]) [1] rfl
                        have hDc := hD.sub (ws' := [(t0, .inl (cI, 9, .inl (ta_f φ)))]) [1] (by decide) rfl
                        have hFc := va_free (wc := [(t0, .inl (cI, 9, .inl (ta_f φ)))]) hD hS hA [1] rfl
                        refine va_calll (va_runS (As := [.ref t0, .int (nI 3)]) (rest := [.long (r20)]) ⟨hx, hb, hml, hown, hts⟩ (metX12_numberOf_ l dC dI cI cJ cC cZ cD H.size t0 (ta_f φ)) (va_cwS 2 hts gX12_isLeast_X12_numberOf_ rfl rfl rfl (by decide +kernel) ⟨Nat.le_of_ble_eq_true rfl, Nat.le_of_ble_eq_true rfl⟩) ⟨fun a U g mk q => by obtain ⟨q0, q1, qP, qK, qD⟩ := q; exact ⟨q0, q1, qP, va_K.moved (u := U) (U := U.calling g mk a) (Vm.Alike.refl U.vm) qK, qD⟩, fun U hU hW => ⟨rfl, by rw [hU], by rw [hU]; exact hPc, va_K.moved hW.alike hK, hDc.weaken (fun _ _ _ _ => trivial)⟩⟩ rfl rfl hl.1 rfl (lv_room (Nat.le_of_ble_eq_true rfl)) dX12_isLeast_179 ⟨(by have h9 : 3 * i1 + 1 + 1 + 0 + 0 + 1 + 0 + 0 ≤ 81 := (by omega); exact h9), (by have h9 : 21 * i1 + 3 + 9 + 0 + 0 + 9 + 0 + 0 ≤ 567 := (by omega); exact h9)⟩) hS (fun q _ h => hFc q h) hFc (fun r21 u t H1 locs ht hvm hw hB hz1 hk1 hS => ?_)
                        obtain ⟨hP1, hK1, hD1⟩ := hB
                        rw [ht] at hP1
                        try dsimp only at hP1 hD1 hw
                        obtain ⟨hP, hD⟩ := va_join (wr := [(r10, .inl (cI, 9, .inl gm11)), (q2, .inl (cI, 3, .inl (ta_f nu))), (r18, .inl (cI, 9, .inl gm19))]) (w1 := [(t0, .inl (cI, 9, .inl (ta_f φ)))]) hP hD [1] [0, 2, 3] rfl rfl (by decide) (by decide) hk1 hFc hP1 hD1
                        generalize H1 = H at hP hS ⊢
                        have hP : va_P (dC, dI) vwCl [(r10, .inl (cI, 9, .inl gm11)), (q2, .inl (cI, 3, .inl (ta_f nu))), (r18, .inl (cI, 9, .inl gm19)), (t0, .inl (cI, 9, .inl (ta_f φ)))] H := hP
                        have hD : va_D A [(r10, .inl (cI, 9, .inl gm11)), (q2, .inl (cI, 3, .inl (ta_f nu))), (r18, .inl (cI, 9, .inl gm19)), (t0, .inl (cI, 9, .inl (ta_f φ)))] := hD
                        refine W.lcmp hx hb dX12_isLeast_182 ?_
                        refine lv_if_lt (tgt := 190) hx hb dX12_isLeast_183 (by decide) (fun hc22 => ?_) (fun hc22 => ?_)
                        · refine lv_iconst (v := (nI 0)) hx hb dX12_isLeast_190 (by decide) ?_
                          refine lv_istore_n (lv' := [(3, .int (nI 0)), (0, .ref t0), (1, .int (nI 3)), (2, .int mi), (4, .int (nI i1)), (5, .ref q2), (6, .int (nI ar)), (7, .int (nI a2))]) hx hb dX12_isLeast_191 rfl hl (by decide) rfl (fun ls hl => ?_)
                          refine lv_iinc (v := (nI (i1 + 1))) (lv' := [(4, .int (nI (i1 + 1))), (3, .int (nI 0)), (0, .ref t0), (1, .int (nI 3)), (2, .int mi), (5, .ref q2), (6, .int (nI ar)), (7, .int (nI a2))]) hx hb dX12_isLeast_192 hl (k := 4) rfl (by rw [show Int32.ofInt 1 = (1 : Int32) from rfl]; exact nI_1 _) (by decide) rfl (fun ls hl => ?_)
                          refine lv_goto (tgt := 5) hx hb dX12_isLeast_195 (by decide) ?_
                          refine W.widen (k := 3 * (i1 + 1)) (n := 21 * (i1 + 1)) (by omega) (by omega) ?_
                          have hP := hP.sub (ws' := [(t0, .inl (cI, 9, .inl (ta_f φ)))]) [3] rfl
                          have hD := hD.sub (ws' := [(t0, .inl (cI, 9, .inl (ta_f φ)))]) [3] (by decide) rfl
                          exact ihL1 (i1 + 1) 0 H locs _ (by omega) (by omega) (by omega) hP hD hS (lv_sub hl [2, 3, 4, 1, 0] rfl)
                        · refine lv_iconst (v := (nI 1)) hx hb dX12_isLeast_186 (by decide) ?_
                          refine lv_goto (tgt := 191) hx hb dX12_isLeast_187 (by decide) ?_
                          refine lv_istore_n (lv' := [(3, .int (nI 1)), (0, .ref t0), (1, .int (nI 3)), (2, .int mi), (4, .int (nI i1)), (5, .ref q2), (6, .int (nI ar)), (7, .int (nI a2))]) hx hb dX12_isLeast_191 rfl hl (by decide) rfl (fun ls hl => ?_)
                          refine lv_iinc (v := (nI (i1 + 1))) (lv' := [(4, .int (nI (i1 + 1))), (3, .int (nI 1)), (0, .ref t0), (1, .int (nI 3)), (2, .int mi), (5, .ref q2), (6, .int (nI ar)), (7, .int (nI a2))]) hx hb dX12_isLeast_192 hl (k := 4) rfl (by rw [show Int32.ofInt 1 = (1 : Int32) from rfl]; exact nI_1 _) (by decide) rfl (fun ls hl => ?_)
                          refine lv_goto (tgt := 5) hx hb dX12_isLeast_195 (by decide) ?_
                          refine W.widen (k := 3 * (i1 + 1)) (n := 21 * (i1 + 1)) (by omega) (by omega) ?_
                          have hP := hP.sub (ws' := [(t0, .inl (cI, 9, .inl (ta_f φ)))]) [3] rfl
                          have hD := hD.sub (ws' := [(t0, .inl (cI, 9, .inl (ta_f φ)))]) [3] (by decide) rfl
                          exact ihL1 (i1 + 1) 1 H locs _ (by omega) (by omega) (by omega) hP hD hS (lv_sub hl [2, 3, 4, 1, 0] rfl)
            · try simp only [ge_iff_le, gt_iff_lt, ne_eq] at hc6
              rw [nI_leI (by omega) (by omega)] at hc6
              refine lv_iload hx hb dX12_isLeast_53 (lv_at hl 6 rfl) ?_
              refine lv_if_eq (tgt := 71) hx hb dX12_isLeast_55 (by decide) (fun hc23 => ?_) (fun hc23 => ?_)
              · have hc23 := hc23
                try rw [show (0 : Int32) = nI 0 from rfl] at hc23
                try simp only [ge_iff_le, gt_iff_lt, ne_eq] at hc23
                rw [nI_eq (by omega) (by omega)] at hc23
                refine lv_iconst (v := (nI 0)) hx hb dX12_isLeast_71 (by decide) ?_
                refine lv_istore (lv' := [(6, .int (nI 0)), (0, .ref t0), (1, .int (nI 3)), (2, .int mi), (3, .int (nI bs)), (4, .int (nI i1)), (5, .ref q2), (7, .int (nI a2))]) hx hb dX12_isLeast_72 hl (by decide) rfl (fun ls hl => ?_)
                refine lv_iconst (v := (nI 0)) hx hb dX12_isLeast_74 (by decide) ?_
                refine lv_istore (lv' := [(8, .int (nI 0)), (6, .int (nI 0)), (0, .ref t0), (1, .int (nI 3)), (2, .int mi), (3, .int (nI bs)), (4, .int (nI i1)), (5, .ref q2), (7, .int (nI a2))]) hx hb dX12_isLeast_75 hl (by decide) rfl (fun ls hl => ?_)
                have L3 : ∀ (n b2 : Nat) (ar2 : Nat) (H : Heap) (locs : List Loc) (ls : Array Slot), b2 ≤ a2 → a2 + 1 ≤ b2 + n → ar2 ≤ 1 → va_P (dC, dI) vwCl [(t0, .inl (cI, 9, .inl (ta_f φ))), (q2, .inl (cI, 3, .inl (ta_f nu)))] H → va_D A [(t0, .inl (cI, 9, .inl (ta_f φ))), (q2, .inl (cI, 3, .inl (ta_f nu)))] → va_S A s.heap H locs → lv_has ls 9 [(0, .ref t0), (1, .int (nI 3)), (2, .int mi), (3, .int (nI bs)), (4, .int (nI i1)), (5, .ref q2), (6, .int (nI ar2)), (7, .int (nI a2)), (8, .int (nI b2))] → W p l e (headSpec wsX12_isLeast ({ frames := 1, cells := 81, slots := 567, locals := 28 })).room s m ([.ref t0, .int (nI 3), .int mi]).toArray below meth c H locs (3 * i1 + 1) (21 * i1 + 3) (MQ below (va_Qi (fun (r : Int32) (u : Unit) => True) (fun (u : Unit) (t : State) => va_P (dC, dI) vwCl [(t0, .inl (cI, 9, .inl (ta_f φ)))] t.heap ∧ va_K (dC, dI) vwCl [(cI, .int), (cJ, .long), (cC, .char), (cZ, .boolean), (cD, .double)] t ∧ va_D A [(t0, .inl (cI, 9, .inl (ta_f φ)))]) A) ([.ref t0, .int (nI 3), .int mi]).toArray s 81 567 A) (F0 m 77 ls []) := by
                  intro n
                  induction n with
                  | zero =>
                    intro b2 ar2 H locs ls h1 h2
                    exact absurd h2 (by omega)
                  | succ n ih =>
                    intro b2 ar2 H locs ls hib2 hnb2 har2 hP hD hS hl
                    have ihL3 := ih
                    clear ih
                    refine lv_iload hx hb dX12_isLeast_77 (lv_at hl 8 rfl) ?_
                    refine lv_iload hx hb dX12_isLeast_79 (lv_at hl 7 rfl) ?_
                    refine lv_icmp_ge (tgt := 115) hx hb dX12_isLeast_81 (by decide) (fun hc24 => ?_) (fun hc24 => ?_)
                    · try simp only [ge_iff_le, gt_iff_lt, ne_eq] at hc24
                      rw [nI_leI (by omega) (by omega)] at hc24
                      refine lv_iinc (v := (nI (a2 + 1))) (lv' := [(7, .int (nI (a2 + 1))), (0, .ref t0), (1, .int (nI 3)), (2, .int mi), (3, .int (nI bs)), (4, .int (nI i1)), (5, .ref q2), (6, .int (nI ar2)), (8, .int (nI b2))]) hx hb dX12_isLeast_115 hl (k := 7) rfl (by rw [show Int32.ofInt 1 = (1 : Int32) from rfl]; exact nI_1 _) (by decide) rfl (fun ls hl => ?_)
                      refine lv_goto (tgt := 47) hx hb dX12_isLeast_118 (by decide) ?_
                      exact ihL2 (a2 + 1) ar2 H locs _ (by omega) (by omega) (by omega) hP hD hS (lv_sub hl [1, 2, 3, 4, 5, 6, 7, 0] rfl)
                    · try simp only [ge_iff_le, gt_iff_lt, ne_eq] at hc24
                      rw [nI_leI (by omega) (by omega)] at hc24
                      refine lv_iload hx hb dX12_isLeast_84 (lv_at hl 6 rfl) ?_
                      refine lv_if_eq (tgt := 106) hx hb dX12_isLeast_86 (by decide) (fun hc25 => ?_) (fun hc25 => ?_)
                      · have hc25 := hc25
                        try rw [show (0 : Int32) = nI 0 from rfl] at hc25
                        try simp only [ge_iff_le, gt_iff_lt, ne_eq] at hc25
                        rw [nI_eq (by omega) (by omega)] at hc25
                        refine lv_iconst (v := (nI 0)) hx hb dX12_isLeast_106 (by decide) ?_
                        refine lv_istore (lv' := [(6, .int (nI 0)), (0, .ref t0), (1, .int (nI 3)), (2, .int mi), (3, .int (nI bs)), (4, .int (nI i1)), (5, .ref q2), (7, .int (nI a2)), (8, .int (nI b2))]) hx hb dX12_isLeast_107 hl (by decide) rfl (fun ls hl => ?_)
                        refine lv_iinc (v := (nI (b2 + 1))) (lv' := [(8, .int (nI (b2 + 1))), (6, .int (nI 0)), (0, .ref t0), (1, .int (nI 3)), (2, .int mi), (3, .int (nI bs)), (4, .int (nI i1)), (5, .ref q2), (7, .int (nI a2))]) hx hb dX12_isLeast_109 hl (k := 8) rfl (by rw [show Int32.ofInt 1 = (1 : Int32) from rfl]; exact nI_1 _) (by decide) rfl (fun ls hl => ?_)
                        refine lv_goto (tgt := 77) hx hb dX12_isLeast_112 (by decide) ?_
                        exact ihL3 (b2 + 1) 0 H locs _ (by omega) (by omega) (by omega) hP hD hS (lv_sub hl [2, 3, 4, 5, 6, 7, 1, 8, 0] rfl)
                      · have hc25 := hc25
                        try rw [show (0 : Int32) = nI 0 from rfl] at hc25
                        try simp only [ge_iff_le, gt_iff_lt, ne_eq] at hc25
                        rw [nI_eq (by omega) (by omega)] at hc25
                        refine lv_aload hx hb dX12_isLeast_89 (lv_at hl 5 rfl) ?_
                        refine lv_iload hx hb dX12_isLeast_91 (lv_at hl 7 rfl) ?_
                        refine va_iald hx hb hK hP 1 0 rfl rfl (vp_in_nI (n := a2) (by omega) (by omega)) dX12_isLeast_93 ?_
                        refine lv_topi (nm_r (e' := nI (nu a2)) (congrArg (ta_f nu) (nI_clamp (by omega))) ?_)
                        have hv26 := hnu (a2)
                        refine lv_aload hx hb dX12_isLeast_94 (lv_at hl 5 rfl) ?_
                        refine lv_iload hx hb dX12_isLeast_96 (lv_at hl 8 rfl) ?_
                        refine va_iald hx hb hK hP 1 0 rfl rfl (vp_in_nI (n := b2) (by omega) (by omega)) dX12_isLeast_98 ?_
                        refine lv_topi (nm_r (e' := nI (nu b2)) (congrArg (ta_f nu) (nI_clamp (by omega))) ?_)
                        have hv27 := hnu (b2)
                        refine lv_icmp_eq (tgt := 106) hx hb dX12_isLeast_99 (by decide) (fun hc28 => ?_) (fun hc28 => ?_)
                        · try simp only [ge_iff_le, gt_iff_lt, ne_eq] at hc28
                          rw [nI_eq (by omega) (by omega)] at hc28
                          refine lv_iconst (v := (nI 0)) hx hb dX12_isLeast_106 (by decide) ?_
                          refine lv_istore (lv' := [(6, .int (nI 0)), (0, .ref t0), (1, .int (nI 3)), (2, .int mi), (3, .int (nI bs)), (4, .int (nI i1)), (5, .ref q2), (7, .int (nI a2)), (8, .int (nI b2))]) hx hb dX12_isLeast_107 hl (by decide) rfl (fun ls hl => ?_)
                          refine lv_iinc (v := (nI (b2 + 1))) (lv' := [(8, .int (nI (b2 + 1))), (6, .int (nI 0)), (0, .ref t0), (1, .int (nI 3)), (2, .int mi), (3, .int (nI bs)), (4, .int (nI i1)), (5, .ref q2), (7, .int (nI a2))]) hx hb dX12_isLeast_109 hl (k := 8) rfl (by rw [show Int32.ofInt 1 = (1 : Int32) from rfl]; exact nI_1 _) (by decide) rfl (fun ls hl => ?_)
                          refine lv_goto (tgt := 77) hx hb dX12_isLeast_112 (by decide) ?_
                          exact ihL3 (b2 + 1) 0 H locs _ (by omega) (by omega) (by omega) hP hD hS (lv_sub hl [2, 3, 4, 5, 6, 7, 1, 8, 0] rfl)
                        · try simp only [ge_iff_le, gt_iff_lt, ne_eq] at hc28
                          rw [nI_eq (by omega) (by omega)] at hc28
                          refine lv_iconst (v := (nI 1)) hx hb dX12_isLeast_102 (by decide) ?_
                          refine lv_goto (tgt := 107) hx hb dX12_isLeast_103 (by decide) ?_
                          refine lv_istore (lv' := [(6, .int (nI 1)), (0, .ref t0), (1, .int (nI 3)), (2, .int mi), (3, .int (nI bs)), (4, .int (nI i1)), (5, .ref q2), (7, .int (nI a2)), (8, .int (nI b2))]) hx hb dX12_isLeast_107 hl (by decide) rfl (fun ls hl => ?_)
                          refine lv_iinc (v := (nI (b2 + 1))) (lv' := [(8, .int (nI (b2 + 1))), (6, .int (nI 1)), (0, .ref t0), (1, .int (nI 3)), (2, .int mi), (3, .int (nI bs)), (4, .int (nI i1)), (5, .ref q2), (7, .int (nI a2))]) hx hb dX12_isLeast_109 hl (k := 8) rfl (by rw [show Int32.ofInt 1 = (1 : Int32) from rfl]; exact nI_1 _) (by decide) rfl (fun ls hl => ?_)
                          refine lv_goto (tgt := 77) hx hb dX12_isLeast_112 (by decide) ?_
                          exact ihL3 (b2 + 1) 1 H locs _ (by omega) (by omega) (by omega) hP hD hS (lv_sub hl [2, 3, 4, 5, 6, 7, 1, 8, 0] rfl)
                exact L3 (a2 + 1) 0 0 H locs _ (by omega) (by omega) (by omega) hP hD hS (lv_sub hl [2, 3, 4, 5, 6, 7, 1, 8, 0] rfl)
              · have hc23 := hc23
                try rw [show (0 : Int32) = nI 0 from rfl] at hc23
                try simp only [ge_iff_le, gt_iff_lt, ne_eq] at hc23
                rw [nI_eq (by omega) (by omega)] at hc23
                refine lv_aload hx hb dX12_isLeast_58 (lv_at hl 5 rfl) ?_
                refine lv_iload hx hb dX12_isLeast_60 (lv_at hl 7 rfl) ?_
                refine va_iald hx hb hK hP 1 0 rfl rfl (vp_in_nI (n := a2) (by omega) (by omega)) dX12_isLeast_62 ?_
                refine lv_topi (nm_r (e' := nI (nu a2)) (congrArg (ta_f nu) (nI_clamp (by omega))) ?_)
                have hv29 := hnu (a2)
                refine lv_iload_n hx hb dX12_isLeast_63 rfl (lv_at hl 1 rfl) ?_
                refine lv_icmp_ge (tgt := 71) hx hb dX12_isLeast_64 (by decide) (fun hc30 => ?_) (fun hc30 => ?_)
                · try simp only [ge_iff_le, gt_iff_lt, ne_eq] at hc30
                  rw [nI_leI (by omega) (by omega)] at hc30
                  refine lv_iconst (v := (nI 0)) hx hb dX12_isLeast_71 (by decide) ?_
                  refine lv_istore (lv' := [(6, .int (nI 0)), (0, .ref t0), (1, .int (nI 3)), (2, .int mi), (3, .int (nI bs)), (4, .int (nI i1)), (5, .ref q2), (7, .int (nI a2))]) hx hb dX12_isLeast_72 hl (by decide) rfl (fun ls hl => ?_)
                  refine lv_iconst (v := (nI 0)) hx hb dX12_isLeast_74 (by decide) ?_
                  refine lv_istore (lv' := [(8, .int (nI 0)), (6, .int (nI 0)), (0, .ref t0), (1, .int (nI 3)), (2, .int mi), (3, .int (nI bs)), (4, .int (nI i1)), (5, .ref q2), (7, .int (nI a2))]) hx hb dX12_isLeast_75 hl (by decide) rfl (fun ls hl => ?_)
                  have L3 : ∀ (n b2 : Nat) (ar2 : Nat) (H : Heap) (locs : List Loc) (ls : Array Slot), b2 ≤ a2 → a2 + 1 ≤ b2 + n → ar2 ≤ 1 → va_P (dC, dI) vwCl [(t0, .inl (cI, 9, .inl (ta_f φ))), (q2, .inl (cI, 3, .inl (ta_f nu)))] H → va_D A [(t0, .inl (cI, 9, .inl (ta_f φ))), (q2, .inl (cI, 3, .inl (ta_f nu)))] → va_S A s.heap H locs → lv_has ls 9 [(0, .ref t0), (1, .int (nI 3)), (2, .int mi), (3, .int (nI bs)), (4, .int (nI i1)), (5, .ref q2), (6, .int (nI ar2)), (7, .int (nI a2)), (8, .int (nI b2))] → W p l e (headSpec wsX12_isLeast ({ frames := 1, cells := 81, slots := 567, locals := 28 })).room s m ([.ref t0, .int (nI 3), .int mi]).toArray below meth c H locs (3 * i1 + 1) (21 * i1 + 3) (MQ below (va_Qi (fun (r : Int32) (u : Unit) => True) (fun (u : Unit) (t : State) => va_P (dC, dI) vwCl [(t0, .inl (cI, 9, .inl (ta_f φ)))] t.heap ∧ va_K (dC, dI) vwCl [(cI, .int), (cJ, .long), (cC, .char), (cZ, .boolean), (cD, .double)] t ∧ va_D A [(t0, .inl (cI, 9, .inl (ta_f φ)))]) A) ([.ref t0, .int (nI 3), .int mi]).toArray s 81 567 A) (F0 m 77 ls []) := by
                    intro n
                    induction n with
                    | zero =>
                      intro b2 ar2 H locs ls h1 h2
                      exact absurd h2 (by omega)
                    | succ n ih =>
                      intro b2 ar2 H locs ls hib2 hnb2 har2 hP hD hS hl
                      have ihL3 := ih
                      clear ih
                      refine lv_iload hx hb dX12_isLeast_77 (lv_at hl 8 rfl) ?_
                      refine lv_iload hx hb dX12_isLeast_79 (lv_at hl 7 rfl) ?_
                      refine lv_icmp_ge (tgt := 115) hx hb dX12_isLeast_81 (by decide) (fun hc31 => ?_) (fun hc31 => ?_)
                      · try simp only [ge_iff_le, gt_iff_lt, ne_eq] at hc31
                        rw [nI_leI (by omega) (by omega)] at hc31
                        refine lv_iinc (v := (nI (a2 + 1))) (lv' := [(7, .int (nI (a2 + 1))), (0, .ref t0), (1, .int (nI 3)), (2, .int mi), (3, .int (nI bs)), (4, .int (nI i1)), (5, .ref q2), (6, .int (nI ar2)), (8, .int (nI b2))]) hx hb dX12_isLeast_115 hl (k := 7) rfl (by rw [show Int32.ofInt 1 = (1 : Int32) from rfl]; exact nI_1 _) (by decide) rfl (fun ls hl => ?_)
                        refine lv_goto (tgt := 47) hx hb dX12_isLeast_118 (by decide) ?_
                        exact ihL2 (a2 + 1) ar2 H locs _ (by omega) (by omega) (by omega) hP hD hS (lv_sub hl [1, 2, 3, 4, 5, 6, 7, 0] rfl)
                      · try simp only [ge_iff_le, gt_iff_lt, ne_eq] at hc31
                        rw [nI_leI (by omega) (by omega)] at hc31
                        refine lv_iload hx hb dX12_isLeast_84 (lv_at hl 6 rfl) ?_
                        refine lv_if_eq (tgt := 106) hx hb dX12_isLeast_86 (by decide) (fun hc32 => ?_) (fun hc32 => ?_)
                        · have hc32 := hc32
                          try rw [show (0 : Int32) = nI 0 from rfl] at hc32
                          try simp only [ge_iff_le, gt_iff_lt, ne_eq] at hc32
                          rw [nI_eq (by omega) (by omega)] at hc32
                          refine lv_iconst (v := (nI 0)) hx hb dX12_isLeast_106 (by decide) ?_
                          refine lv_istore (lv' := [(6, .int (nI 0)), (0, .ref t0), (1, .int (nI 3)), (2, .int mi), (3, .int (nI bs)), (4, .int (nI i1)), (5, .ref q2), (7, .int (nI a2)), (8, .int (nI b2))]) hx hb dX12_isLeast_107 hl (by decide) rfl (fun ls hl => ?_)
                          refine lv_iinc (v := (nI (b2 + 1))) (lv' := [(8, .int (nI (b2 + 1))), (6, .int (nI 0)), (0, .ref t0), (1, .int (nI 3)), (2, .int mi), (3, .int (nI bs)), (4, .int (nI i1)), (5, .ref q2), (7, .int (nI a2))]) hx hb dX12_isLeast_109 hl (k := 8) rfl (by rw [show Int32.ofInt 1 = (1 : Int32) from rfl]; exact nI_1 _) (by decide) rfl (fun ls hl => ?_)
                          refine lv_goto (tgt := 77) hx hb dX12_isLeast_112 (by decide) ?_
                          exact ihL3 (b2 + 1) 0 H locs _ (by omega) (by omega) (by omega) hP hD hS (lv_sub hl [2, 3, 4, 5, 6, 7, 1, 8, 0] rfl)
                        · have hc32 := hc32
                          try rw [show (0 : Int32) = nI 0 from rfl] at hc32
                          try simp only [ge_iff_le, gt_iff_lt, ne_eq] at hc32
                          rw [nI_eq (by omega) (by omega)] at hc32
                          refine lv_aload hx hb dX12_isLeast_89 (lv_at hl 5 rfl) ?_
                          refine lv_iload hx hb dX12_isLeast_91 (lv_at hl 7 rfl) ?_
                          refine va_iald hx hb hK hP 1 0 rfl rfl (vp_in_nI (n := a2) (by omega) (by omega)) dX12_isLeast_93 ?_
                          refine lv_topi (nm_r (e' := nI (nu a2)) (congrArg (ta_f nu) (nI_clamp (by omega))) ?_)
                          have hv33 := hnu (a2)
                          refine lv_aload hx hb dX12_isLeast_94 (lv_at hl 5 rfl) ?_
                          refine lv_iload hx hb dX12_isLeast_96 (lv_at hl 8 rfl) ?_
                          refine va_iald hx hb hK hP 1 0 rfl rfl (vp_in_nI (n := b2) (by omega) (by omega)) dX12_isLeast_98 ?_
                          refine lv_topi (nm_r (e' := nI (nu b2)) (congrArg (ta_f nu) (nI_clamp (by omega))) ?_)
                          have hv34 := hnu (b2)
                          refine lv_icmp_eq (tgt := 106) hx hb dX12_isLeast_99 (by decide) (fun hc35 => ?_) (fun hc35 => ?_)
                          · try simp only [ge_iff_le, gt_iff_lt, ne_eq] at hc35
                            rw [nI_eq (by omega) (by omega)] at hc35
                            refine lv_iconst (v := (nI 0)) hx hb dX12_isLeast_106 (by decide) ?_
                            refine lv_istore (lv' := [(6, .int (nI 0)), (0, .ref t0), (1, .int (nI 3)), (2, .int mi), (3, .int (nI bs)), (4, .int (nI i1)), (5, .ref q2), (7, .int (nI a2)), (8, .int (nI b2))]) hx hb dX12_isLeast_107 hl (by decide) rfl (fun ls hl => ?_)
                            refine lv_iinc (v := (nI (b2 + 1))) (lv' := [(8, .int (nI (b2 + 1))), (6, .int (nI 0)), (0, .ref t0), (1, .int (nI 3)), (2, .int mi), (3, .int (nI bs)), (4, .int (nI i1)), (5, .ref q2), (7, .int (nI a2))]) hx hb dX12_isLeast_109 hl (k := 8) rfl (by rw [show Int32.ofInt 1 = (1 : Int32) from rfl]; exact nI_1 _) (by decide) rfl (fun ls hl => ?_)
                            refine lv_goto (tgt := 77) hx hb dX12_isLeast_112 (by decide) ?_
                            exact ihL3 (b2 + 1) 0 H locs _ (by omega) (by omega) (by omega) hP hD hS (lv_sub hl [2, 3, 4, 5, 6, 7, 1, 8, 0] rfl)
                          · try simp only [ge_iff_le, gt_iff_lt, ne_eq] at hc35
                            rw [nI_eq (by omega) (by omega)] at hc35
                            refine lv_iconst (v := (nI 1)) hx hb dX12_isLeast_102 (by decide) ?_
                            refine lv_goto (tgt := 107) hx hb dX12_isLeast_103 (by decide) ?_
                            refine lv_istore (lv' := [(6, .int (nI 1)), (0, .ref t0), (1, .int (nI 3)), (2, .int mi), (3, .int (nI bs)), (4, .int (nI i1)), (5, .ref q2), (7, .int (nI a2)), (8, .int (nI b2))]) hx hb dX12_isLeast_107 hl (by decide) rfl (fun ls hl => ?_)
                            refine lv_iinc (v := (nI (b2 + 1))) (lv' := [(8, .int (nI (b2 + 1))), (6, .int (nI 1)), (0, .ref t0), (1, .int (nI 3)), (2, .int mi), (3, .int (nI bs)), (4, .int (nI i1)), (5, .ref q2), (7, .int (nI a2))]) hx hb dX12_isLeast_109 hl (k := 8) rfl (by rw [show Int32.ofInt 1 = (1 : Int32) from rfl]; exact nI_1 _) (by decide) rfl (fun ls hl => ?_)
                            refine lv_goto (tgt := 77) hx hb dX12_isLeast_112 (by decide) ?_
                            exact ihL3 (b2 + 1) 1 H locs _ (by omega) (by omega) (by omega) hP hD hS (lv_sub hl [2, 3, 4, 5, 6, 7, 1, 8, 0] rfl)
                  exact L3 (a2 + 1) 0 0 H locs _ (by omega) (by omega) (by omega) hP hD hS (lv_sub hl [2, 3, 4, 5, 6, 7, 1, 8, 0] rfl)
                · try simp only [ge_iff_le, gt_iff_lt, ne_eq] at hc30
                  rw [nI_leI (by omega) (by omega)] at hc30
                  refine lv_iconst (v := (nI 1)) hx hb dX12_isLeast_67 (by decide) ?_
                  refine lv_goto (tgt := 72) hx hb dX12_isLeast_68 (by decide) ?_
                  refine lv_istore (lv' := [(6, .int (nI 1)), (0, .ref t0), (1, .int (nI 3)), (2, .int mi), (3, .int (nI bs)), (4, .int (nI i1)), (5, .ref q2), (7, .int (nI a2))]) hx hb dX12_isLeast_72 hl (by decide) rfl (fun ls hl => ?_)
                  refine lv_iconst (v := (nI 0)) hx hb dX12_isLeast_74 (by decide) ?_
                  refine lv_istore (lv' := [(8, .int (nI 0)), (6, .int (nI 1)), (0, .ref t0), (1, .int (nI 3)), (2, .int mi), (3, .int (nI bs)), (4, .int (nI i1)), (5, .ref q2), (7, .int (nI a2))]) hx hb dX12_isLeast_75 hl (by decide) rfl (fun ls hl => ?_)
                  have L3 : ∀ (n b2 : Nat) (ar2 : Nat) (H : Heap) (locs : List Loc) (ls : Array Slot), b2 ≤ a2 → a2 + 1 ≤ b2 + n → ar2 ≤ 1 → va_P (dC, dI) vwCl [(t0, .inl (cI, 9, .inl (ta_f φ))), (q2, .inl (cI, 3, .inl (ta_f nu)))] H → va_D A [(t0, .inl (cI, 9, .inl (ta_f φ))), (q2, .inl (cI, 3, .inl (ta_f nu)))] → va_S A s.heap H locs → lv_has ls 9 [(0, .ref t0), (1, .int (nI 3)), (2, .int mi), (3, .int (nI bs)), (4, .int (nI i1)), (5, .ref q2), (6, .int (nI ar2)), (7, .int (nI a2)), (8, .int (nI b2))] → W p l e (headSpec wsX12_isLeast ({ frames := 1, cells := 81, slots := 567, locals := 28 })).room s m ([.ref t0, .int (nI 3), .int mi]).toArray below meth c H locs (3 * i1 + 1) (21 * i1 + 3) (MQ below (va_Qi (fun (r : Int32) (u : Unit) => True) (fun (u : Unit) (t : State) => va_P (dC, dI) vwCl [(t0, .inl (cI, 9, .inl (ta_f φ)))] t.heap ∧ va_K (dC, dI) vwCl [(cI, .int), (cJ, .long), (cC, .char), (cZ, .boolean), (cD, .double)] t ∧ va_D A [(t0, .inl (cI, 9, .inl (ta_f φ)))]) A) ([.ref t0, .int (nI 3), .int mi]).toArray s 81 567 A) (F0 m 77 ls []) := by
                    intro n
                    induction n with
                    | zero =>
                      intro b2 ar2 H locs ls h1 h2
                      exact absurd h2 (by omega)
                    | succ n ih =>
                      intro b2 ar2 H locs ls hib2 hnb2 har2 hP hD hS hl
                      have ihL3 := ih
                      clear ih
                      refine lv_iload hx hb dX12_isLeast_77 (lv_at hl 8 rfl) ?_
                      refine lv_iload hx hb dX12_isLeast_79 (lv_at hl 7 rfl) ?_
                      refine lv_icmp_ge (tgt := 115) hx hb dX12_isLeast_81 (by decide) (fun hc36 => ?_) (fun hc36 => ?_)
                      · try simp only [ge_iff_le, gt_iff_lt, ne_eq] at hc36
                        rw [nI_leI (by omega) (by omega)] at hc36
                        refine lv_iinc (v := (nI (a2 + 1))) (lv' := [(7, .int (nI (a2 + 1))), (0, .ref t0), (1, .int (nI 3)), (2, .int mi), (3, .int (nI bs)), (4, .int (nI i1)), (5, .ref q2), (6, .int (nI ar2)), (8, .int (nI b2))]) hx hb dX12_isLeast_115 hl (k := 7) rfl (by rw [show Int32.ofInt 1 = (1 : Int32) from rfl]; exact nI_1 _) (by decide) rfl (fun ls hl => ?_)
                        refine lv_goto (tgt := 47) hx hb dX12_isLeast_118 (by decide) ?_
                        exact ihL2 (a2 + 1) ar2 H locs _ (by omega) (by omega) (by omega) hP hD hS (lv_sub hl [1, 2, 3, 4, 5, 6, 7, 0] rfl)
                      · try simp only [ge_iff_le, gt_iff_lt, ne_eq] at hc36
                        rw [nI_leI (by omega) (by omega)] at hc36
                        refine lv_iload hx hb dX12_isLeast_84 (lv_at hl 6 rfl) ?_
                        refine lv_if_eq (tgt := 106) hx hb dX12_isLeast_86 (by decide) (fun hc37 => ?_) (fun hc37 => ?_)
                        · have hc37 := hc37
                          try rw [show (0 : Int32) = nI 0 from rfl] at hc37
                          try simp only [ge_iff_le, gt_iff_lt, ne_eq] at hc37
                          rw [nI_eq (by omega) (by omega)] at hc37
                          refine lv_iconst (v := (nI 0)) hx hb dX12_isLeast_106 (by decide) ?_
                          refine lv_istore (lv' := [(6, .int (nI 0)), (0, .ref t0), (1, .int (nI 3)), (2, .int mi), (3, .int (nI bs)), (4, .int (nI i1)), (5, .ref q2), (7, .int (nI a2)), (8, .int (nI b2))]) hx hb dX12_isLeast_107 hl (by decide) rfl (fun ls hl => ?_)
                          refine lv_iinc (v := (nI (b2 + 1))) (lv' := [(8, .int (nI (b2 + 1))), (6, .int (nI 0)), (0, .ref t0), (1, .int (nI 3)), (2, .int mi), (3, .int (nI bs)), (4, .int (nI i1)), (5, .ref q2), (7, .int (nI a2))]) hx hb dX12_isLeast_109 hl (k := 8) rfl (by rw [show Int32.ofInt 1 = (1 : Int32) from rfl]; exact nI_1 _) (by decide) rfl (fun ls hl => ?_)
                          refine lv_goto (tgt := 77) hx hb dX12_isLeast_112 (by decide) ?_
                          exact ihL3 (b2 + 1) 0 H locs _ (by omega) (by omega) (by omega) hP hD hS (lv_sub hl [2, 3, 4, 5, 6, 7, 1, 8, 0] rfl)
                        · have hc37 := hc37
                          try rw [show (0 : Int32) = nI 0 from rfl] at hc37
                          try simp only [ge_iff_le, gt_iff_lt, ne_eq] at hc37
                          rw [nI_eq (by omega) (by omega)] at hc37
                          refine lv_aload hx hb dX12_isLeast_89 (lv_at hl 5 rfl) ?_
                          refine lv_iload hx hb dX12_isLeast_91 (lv_at hl 7 rfl) ?_
                          refine va_iald hx hb hK hP 1 0 rfl rfl (vp_in_nI (n := a2) (by omega) (by omega)) dX12_isLeast_93 ?_
                          refine lv_topi (nm_r (e' := nI (nu a2)) (congrArg (ta_f nu) (nI_clamp (by omega))) ?_)
                          have hv38 := hnu (a2)
                          refine lv_aload hx hb dX12_isLeast_94 (lv_at hl 5 rfl) ?_
                          refine lv_iload hx hb dX12_isLeast_96 (lv_at hl 8 rfl) ?_
                          refine va_iald hx hb hK hP 1 0 rfl rfl (vp_in_nI (n := b2) (by omega) (by omega)) dX12_isLeast_98 ?_
                          refine lv_topi (nm_r (e' := nI (nu b2)) (congrArg (ta_f nu) (nI_clamp (by omega))) ?_)
                          have hv39 := hnu (b2)
                          refine lv_icmp_eq (tgt := 106) hx hb dX12_isLeast_99 (by decide) (fun hc40 => ?_) (fun hc40 => ?_)
                          · try simp only [ge_iff_le, gt_iff_lt, ne_eq] at hc40
                            rw [nI_eq (by omega) (by omega)] at hc40
                            refine lv_iconst (v := (nI 0)) hx hb dX12_isLeast_106 (by decide) ?_
                            refine lv_istore (lv' := [(6, .int (nI 0)), (0, .ref t0), (1, .int (nI 3)), (2, .int mi), (3, .int (nI bs)), (4, .int (nI i1)), (5, .ref q2), (7, .int (nI a2)), (8, .int (nI b2))]) hx hb dX12_isLeast_107 hl (by decide) rfl (fun ls hl => ?_)
                            refine lv_iinc (v := (nI (b2 + 1))) (lv' := [(8, .int (nI (b2 + 1))), (6, .int (nI 0)), (0, .ref t0), (1, .int (nI 3)), (2, .int mi), (3, .int (nI bs)), (4, .int (nI i1)), (5, .ref q2), (7, .int (nI a2))]) hx hb dX12_isLeast_109 hl (k := 8) rfl (by rw [show Int32.ofInt 1 = (1 : Int32) from rfl]; exact nI_1 _) (by decide) rfl (fun ls hl => ?_)
                            refine lv_goto (tgt := 77) hx hb dX12_isLeast_112 (by decide) ?_
                            exact ihL3 (b2 + 1) 0 H locs _ (by omega) (by omega) (by omega) hP hD hS (lv_sub hl [2, 3, 4, 5, 6, 7, 1, 8, 0] rfl)
                          · try simp only [ge_iff_le, gt_iff_lt, ne_eq] at hc40
                            rw [nI_eq (by omega) (by omega)] at hc40
                            refine lv_iconst (v := (nI 1)) hx hb dX12_isLeast_102 (by decide) ?_
                            refine lv_goto (tgt := 107) hx hb dX12_isLeast_103 (by decide) ?_
                            refine lv_istore (lv' := [(6, .int (nI 1)), (0, .ref t0), (1, .int (nI 3)), (2, .int mi), (3, .int (nI bs)), (4, .int (nI i1)), (5, .ref q2), (7, .int (nI a2)), (8, .int (nI b2))]) hx hb dX12_isLeast_107 hl (by decide) rfl (fun ls hl => ?_)
                            refine lv_iinc (v := (nI (b2 + 1))) (lv' := [(8, .int (nI (b2 + 1))), (6, .int (nI 1)), (0, .ref t0), (1, .int (nI 3)), (2, .int mi), (3, .int (nI bs)), (4, .int (nI i1)), (5, .ref q2), (7, .int (nI a2))]) hx hb dX12_isLeast_109 hl (k := 8) rfl (by rw [show Int32.ofInt 1 = (1 : Int32) from rfl]; exact nI_1 _) (by decide) rfl (fun ls hl => ?_)
                            refine lv_goto (tgt := 77) hx hb dX12_isLeast_112 (by decide) ?_
                            exact ihL3 (b2 + 1) 1 H locs _ (by omega) (by omega) (by omega) hP hD hS (lv_sub hl [2, 3, 4, 5, 6, 7, 1, 8, 0] rfl)
                  exact L3 (a2 + 1) 0 1 H locs _ (by omega) (by omega) (by omega) hP hD hS (lv_sub hl [2, 3, 4, 5, 6, 7, 1, 8, 0] rfl)
        exact L2 (3 + 1) 0 1 H locs _ (by omega) (by omega) (by omega) hP hD hS (lv_sub hl [3, 4, 5, 6, 7, 2, 1, 0] rfl)
  exact L1 (27 + 1) 0 1 s.heap [] _ (by omega) (by omega) (by omega) hP hD hS (lv_sub hl [2, 3, 4, 1, 0] rfl)
