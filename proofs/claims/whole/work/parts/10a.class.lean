theorem mJ6_bitCount_0f7a4_0 : Cond.constant RJ6 265 (1431655765) ∈ wsJ6_bitCount_0f7a4 := by decide +kernel
theorem mJ6_bitCount_0f7a4_1 : Cond.constant RJ6 266 (858993459) ∈ wsJ6_bitCount_0f7a4 := by decide +kernel
theorem mJ6_bitCount_0f7a4_2 : Cond.constant RJ6 267 (252645135) ∈ wsJ6_bitCount_0f7a4 := by decide +kernel
set_option maxHeartbeats 4000000 in
set_option maxRecDepth 100000 in
theorem k_J6_bitCount_0f7a4 (l : Launch) (dC : Nat → ClassId) (dI : Nat → Nat → Nat) (cI cZ : ClassId) (q1 : Nat) (h1 : q1 < 512) : Met l yJ6_bitCount_0f7a4 wsJ6_bitCount_0f7a4 { frames := 0, cells := 0, slots := 0, locals := 0 } (va_Pc [.int (nI q1)] (fun _ => True)) (vp_Si (fun r => r = (nI (m_pc q1)))) 0 0 (fun _ => False) := by
  refine Met.ofW (cc := cJ6_bitCount_0f7a4) (maxL := 1) (ret := (some .int)) (by decide) rfl ?_
  intro p e s m args below meth c s₁ B hml hv
  obtain ⟨rfl, -⟩ := hv
  have hx := B.exec
  have hb := B.bytes
  have hr := B.returns
  have hts := atoms_spec (ws := wsJ6_bitCount_0f7a4) B.pre
  have hown : s.vm.findClass RJ6 = some m.cls := findClass_of_methodNamed B.named
  have hlocks := B.notSynchronized
  have hl := lv_entry ([.int (nI q1)]) (n := 1) (Nat.le_of_ble_eq_true rfl)
  rw [lg_entry_eq]
  generalize (lg_sl ([.int (nI q1)]) ++ List.replicate (1 - (lg_sl ([.int (nI q1)])).length) Slot.unset).toArray = ls at hl ⊢
  have hl : lv_has ls 1 [(0, .int (nI q1))] := hl
  refine lv_iload_n hx hb dJ6_bitCount_0f7a4_0 rfl (lv_at hl 0 rfl) ?_
  refine lv_iload_n hx hb dJ6_bitCount_0f7a4_1 rfl (lv_at hl 0 rfl) ?_
  refine lv_iconst (v := nI 1) hx hb dJ6_bitCount_0f7a4_2 (by decide) ?_
  refine lv_iushr (v := ush (nI q1) (nI 1)) hx hb dJ6_bitCount_0f7a4_3 rfl ?_
  refine lv_ldcw (v := nI 1431655765) hx hb hown (hts (.constant RJ6 265 (1431655765)) mJ6_bitCount_0f7a4_0) dJ6_bitCount_0f7a4_4 ?_
  refine lv_iand hx hb dJ6_bitCount_0f7a4_7 ?_
  refine lv_isub hx hb dJ6_bitCount_0f7a4_8 ?_
  refine lv_topi (fun y_1 ey_1 => ?_)
  refine lv_istore_n (lv' := [(0, .int y_1)]) hx hb dJ6_bitCount_0f7a4_9 rfl hl (by decide) rfl (fun ls hl => ?_)
  refine lv_iload_n hx hb dJ6_bitCount_0f7a4_10 rfl (lv_at hl 0 rfl) ?_
  refine lv_ldcw (v := nI 858993459) hx hb hown (hts (.constant RJ6 266 (858993459)) mJ6_bitCount_0f7a4_1) dJ6_bitCount_0f7a4_11 ?_
  refine lv_iand hx hb dJ6_bitCount_0f7a4_14 ?_
  refine lv_iload_n hx hb dJ6_bitCount_0f7a4_15 rfl (lv_at hl 0 rfl) ?_
  refine lv_iconst (v := nI 2) hx hb dJ6_bitCount_0f7a4_16 (by decide) ?_
  refine lv_iushr (v := ush y_1 (nI 2)) hx hb dJ6_bitCount_0f7a4_17 rfl ?_
  refine lv_ldcw (v := nI 858993459) hx hb hown (hts (.constant RJ6 266 (858993459)) mJ6_bitCount_0f7a4_1) dJ6_bitCount_0f7a4_18 ?_
  refine lv_iand hx hb dJ6_bitCount_0f7a4_21 ?_
  refine lv_iadd hx hb dJ6_bitCount_0f7a4_22 ?_
  refine lv_topi (fun y_2 ey_2 => ?_)
  refine lv_istore_n (lv' := [(0, .int y_2)]) hx hb dJ6_bitCount_0f7a4_23 rfl hl (by decide) rfl (fun ls hl => ?_)
  refine lv_iload_n hx hb dJ6_bitCount_0f7a4_24 rfl (lv_at hl 0 rfl) ?_
  refine lv_iload_n hx hb dJ6_bitCount_0f7a4_25 rfl (lv_at hl 0 rfl) ?_
  refine lv_iconst (v := nI 4) hx hb dJ6_bitCount_0f7a4_26 (by decide) ?_
  refine lv_iushr (v := ush y_2 (nI 4)) hx hb dJ6_bitCount_0f7a4_27 rfl ?_
  refine lv_iadd hx hb dJ6_bitCount_0f7a4_28 ?_
  refine lv_ldcw (v := nI 252645135) hx hb hown (hts (.constant RJ6 267 (252645135)) mJ6_bitCount_0f7a4_2) dJ6_bitCount_0f7a4_29 ?_
  refine lv_iand hx hb dJ6_bitCount_0f7a4_32 ?_
  refine lv_topi (fun y_3 ey_3 => ?_)
  refine lv_istore_n (lv' := [(0, .int y_3)]) hx hb dJ6_bitCount_0f7a4_33 rfl hl (by decide) rfl (fun ls hl => ?_)
  refine lv_iload_n hx hb dJ6_bitCount_0f7a4_34 rfl (lv_at hl 0 rfl) ?_
  refine lv_iload_n hx hb dJ6_bitCount_0f7a4_35 rfl (lv_at hl 0 rfl) ?_
  refine lv_bipush (v := nI 8) hx hb dJ6_bitCount_0f7a4_36 (by decide) ?_
  refine lv_iushr (v := ush y_3 (nI 8)) hx hb dJ6_bitCount_0f7a4_38 rfl ?_
  refine lv_iadd hx hb dJ6_bitCount_0f7a4_39 ?_
  refine lv_topi (fun y_4 ey_4 => ?_)
  refine lv_istore_n (lv' := [(0, .int y_4)]) hx hb dJ6_bitCount_0f7a4_40 rfl hl (by decide) rfl (fun ls hl => ?_)
  refine lv_iload_n hx hb dJ6_bitCount_0f7a4_41 rfl (lv_at hl 0 rfl) ?_
  refine lv_iload_n hx hb dJ6_bitCount_0f7a4_42 rfl (lv_at hl 0 rfl) ?_
  refine lv_bipush (v := nI 16) hx hb dJ6_bitCount_0f7a4_43 (by decide) ?_
  refine lv_iushr (v := ush y_4 (nI 16)) hx hb dJ6_bitCount_0f7a4_45 rfl ?_
  refine lv_iadd hx hb dJ6_bitCount_0f7a4_46 ?_
  refine lv_topi (fun y_5 ey_5 => ?_)
  refine lv_istore_n (lv' := [(0, .int y_5)]) hx hb dJ6_bitCount_0f7a4_47 rfl hl (by decide) rfl (fun ls hl => ?_)
  refine lv_iload_n hx hb dJ6_bitCount_0f7a4_48 rfl (lv_at hl 0 rfl) ?_
  refine lv_bipush (v := nI 63) hx hb dJ6_bitCount_0f7a4_49 (by decide) ?_
  refine lv_iand hx hb dJ6_bitCount_0f7a4_51 ?_
  exact W.iret (v := (y_5 &&& (nI 63))) hx hb hr (fun t ht hW => ⟨(y_5 &&& (nI 63)), rfl, (by subst ey_5; subst ey_4; subst ey_3; subst ey_2; subst ey_1; exact bcE_ok q1 h1), ht⟩) (fun _ h => by cases h) dJ6_bitCount_0f7a4_52
theorem mX2_neighboursOf_0 : Cond.fieldLink RX2 18 "LeafOrder$Rules" "rightAhead" "[I" ∈ wsX2_neighboursOf := by decide +kernel
theorem mX2_neighboursOf_inX2 : ∀ w ∈ wsX20, w ∈ wsX2_neighboursOf := by decide +kernel
set_option maxHeartbeats 4000000 in
set_option maxRecDepth 100000 in
theorem k_X2_neighboursOf (l : Launch) (dC : Nat → ClassId) (dI : Nat → Nat → Nat) (cI cZ : ClassId) (aR aRb aRr aRa : Nat) (ra : Nat → Nat) (q1 : Nat) (q2 : Nat) (bRa : ∀ k, ra k ≤ 511) (h1 : q1 < 9) (h2 : q2 < 512) : Met l yX2_neighboursOf wsX2_neighboursOf { frames := 1, cells := 0, slots := 0, locals := 20 } (va_Pc [.ref aR, .int (nI q1), .int (nI q2)] (fun U => va_P (dC, dI) vwCl [(aR, .inr (2, [.ref aRb, .ref aRr, .ref aRa])), (aRa, .inl (cI, 9, .inl (nF ra)))] U.heap ∧ lK dC dI cI cZ U)) (vp_Si (fun r => r = (nI (m_nbr ra q1 q2)))) 0 0 (fun _ => False) := by
  refine Met.ofW (cc := cX2_neighboursOf) (maxL := 4) (ret := (some .int)) (by decide) rfl ?_
  intro p e s m args below meth c s₁ B hml hv
  obtain ⟨rfl, hP, hKK⟩ := hv
  have hK := hKK.1
  have hx := B.exec
  have hb := B.bytes
  have hr := B.returns
  have hts := atoms_spec (ws := wsX2_neighboursOf) B.pre
  have hown : s.vm.findClass RX2 = some m.cls := findClass_of_methodNamed B.named
  have hlocks := B.notSynchronized
  have hl := lv_entry ([.ref aR, .int (nI q1), .int (nI q2)]) (n := 4) (Nat.le_of_ble_eq_true rfl)
  rw [lg_entry_eq]
  generalize (lg_sl ([.ref aR, .int (nI q1), .int (nI q2)]) ++ List.replicate (4 - (lg_sl ([.ref aR, .int (nI q1), .int (nI q2)])).length) Slot.unset).toArray = ls at hl ⊢
  have hl : lv_has ls 4 [(0, .ref aR), (1, .int (nI q1)), (2, .int (nI q2))] := hl
  refine lv_aload_n hx hb dX2_neighboursOf_0 rfl (lv_at hl 0 rfl) ?_
  refine va_get (D := (dC, dI)) (ci := 2) (v := .ref aRa) (C := RX2) (T := TX2) (N := 3) hx hb hts mX2_neighboursOf_inX2 hown hK hP 0 rfl rfl 2 (by decide) (hts (.fieldLink RX2 18 "LeafOrder$Rules" "rightAhead" "[I") mX2_neighboursOf_0) (fun _ h9 => h9) rfl dX2_neighboursOf_1 ?_
  refine lv_iload_n hx hb dX2_neighboursOf_4 rfl (lv_at hl 1 rfl) ?_
  refine ln_iald (i := q1) hx hb hK hP 1 0 rfl rfl (by omega) (by decide) dX2_neighboursOf_5 ?_
  have b_1 := bRa q1
  refine lv_iload_n hx hb dX2_neighboursOf_6 rfl (lv_at hl 2 rfl) ?_
  refine ln_iand hx hb dX2_neighboursOf_7 ?_
  refine lv_istore_n (lv' := [(3, .int (nI ((ra q1) &&& q2))), (0, .ref aR), (1, .int (nI q1)), (2, .int (nI q2))]) hx hb dX2_neighboursOf_8 rfl hl (by decide) rfl (fun ls hl => ?_)
  refine lv_iload_n hx hb dX2_neighboursOf_9 rfl (lv_at hl 0 rfl) ?_
  refine ln_if_ne (tgt := 15) hx hb dX2_neighboursOf_10 (by decide) (Nat.lt_of_le_of_lt Nat.and_le_right (by omega)) (fun c_2 => ?_) (fun c_2 => ?_)
  · refine lv_iload_n hx hb dX2_neighboursOf_15 rfl (lv_at hl 0 rfl) ?_
    refine vp_callSi (W.runS (As := [.int (nI ((ra q1) &&& q2))]) (rest := []) ⟨hx, hb, hml, hown, hts⟩ (k_J6_bitCount_0f7a4 l dC dI cI cZ ((ra q1) &&& q2) (Nat.lt_of_le_of_lt Nat.and_le_right h2)) (va_cwS 1 hts gX2_neighboursOf_J6_bitCount_0f7a4 rfl rfl rfl (by decide +kernel) ⟨Nat.le_of_ble_eq_true rfl, Nat.le_of_ble_eq_true rfl⟩) ln_preS0 rfl rfl hl.1 rfl (lv_room (Nat.le_of_ble_eq_true rfl)) dX2_neighboursOf_16 ⟨Nat.le_of_ble_eq_true rfl, Nat.le_of_ble_eq_true rfl⟩) (fun r_3 w_4 => ?_)
    subst w_4
    refine lv_iconst (v := nI 1) hx hb dX2_neighboursOf_19 (by decide) ?_
    refine ln_icmp_ne (tgt := 27) hx hb dX2_neighboursOf_20 (by decide) (Nat.lt_of_le_of_lt (m_pc_le _) (by decide)) (by decide) (fun c_5 => ?_) (fun c_5 => ?_)
    · refine lv_iconst (v := nI 0) hx hb dX2_neighboursOf_27 (by decide) ?_
      exact W.iret (v := (nI 0)) hx hb hr (fun t ht hW => ⟨(nI 0), rfl, (by unfold m_nbr; rw [if_neg c_2, if_neg c_5]), ht⟩) (fun _ h => by cases h) dX2_neighboursOf_28
    · refine lv_iload_n hx hb dX2_neighboursOf_23 rfl (lv_at hl 0 rfl) ?_
      refine lv_goto (tgt := 28) hx hb dX2_neighboursOf_24 (by decide) ?_
      exact W.iret (v := (nI ((ra q1) &&& q2))) hx hb hr (fun t ht hW => ⟨(nI ((ra q1) &&& q2)), rfl, (by unfold m_nbr; rw [if_neg c_2, if_pos c_5]), ht⟩) (fun _ h => by cases h) dX2_neighboursOf_28
  · refine lv_iload_n hx hb dX2_neighboursOf_13 rfl (lv_at hl 3 rfl) ?_
    exact W.iret (v := (nI q2)) hx hb hr (fun t ht hW => ⟨(nI q2), rfl, (by unfold m_nbr; rw [if_pos c_2]), ht⟩) (fun _ h => by cases h) dX2_neighboursOf_14
theorem mX2_mayComeAfter_0 : Cond.fieldLink RX2 9 "LeafOrder$Rules" "behind" "[I" ∈ wsX2_mayComeAfter := by decide +kernel
theorem mX2_mayComeAfter_inX2 : ∀ w ∈ wsX20, w ∈ wsX2_mayComeAfter := by decide +kernel
theorem mX2_mayComeAfter_2 : Cond.fieldLink RX2 15 "LeafOrder$Rules" "rightBehind" "[I" ∈ wsX2_mayComeAfter := by decide +kernel
set_option maxHeartbeats 4000000 in
set_option maxRecDepth 100000 in
theorem k_X2_mayComeAfter (l : Launch) (dC : Nat → ClassId) (dI : Nat → Nat → Nat) (cI cZ : ClassId) (aR aRb aRr aRa : Nat) (rb : Nat → Nat) (rr : Nat → Nat) (q1 : Nat) (q2 : Nat) (bRb : ∀ k, rb k ≤ 511) (bRr : ∀ k, rr k ≤ 511) (h1 : q1 < 9) (h2 : q2 < 512) : Met l yX2_mayComeAfter wsX2_mayComeAfter { frames := 0, cells := 0, slots := 0, locals := 0 } (va_Pc [.ref aR, .int (nI q1), .int (nI q2)] (fun U => va_P (dC, dI) vwCl [(aR, .inr (2, [.ref aRb, .ref aRr, .ref aRa])), (aRb, .inl (cI, 9, .inl (nF rb))), (aRr, .inl (cI, 9, .inl (nF rr)))] U.heap ∧ lK dC dI cI cZ U)) (vp_Si (fun r => (r = nI 1 ∧ ((rb q1 ||| rr q1) &&& q2 = 0)) ∨ (r = nI 0 ∧ ¬ ((rb q1 ||| rr q1) &&& q2 = 0)))) 0 0 (fun _ => False) := by
  refine Met.ofW (cc := cX2_mayComeAfter) (maxL := 3) (ret := (some .boolean)) (by decide) rfl ?_
  intro p e s m args below meth c s₁ B hml hv
  obtain ⟨rfl, hP, hKK⟩ := hv
  have hK := hKK.1
  have hx := B.exec
  have hb := B.bytes
  have hr := B.returns
  have hts := atoms_spec (ws := wsX2_mayComeAfter) B.pre
  have hown : s.vm.findClass RX2 = some m.cls := findClass_of_methodNamed B.named
  have hlocks := B.notSynchronized
  have hl := lv_entry ([.ref aR, .int (nI q1), .int (nI q2)]) (n := 3) (Nat.le_of_ble_eq_true rfl)
  rw [lg_entry_eq]
  generalize (lg_sl ([.ref aR, .int (nI q1), .int (nI q2)]) ++ List.replicate (3 - (lg_sl ([.ref aR, .int (nI q1), .int (nI q2)])).length) Slot.unset).toArray = ls at hl ⊢
  have hl : lv_has ls 3 [(0, .ref aR), (1, .int (nI q1)), (2, .int (nI q2))] := hl
  refine lv_aload_n hx hb dX2_mayComeAfter_0 rfl (lv_at hl 0 rfl) ?_
  refine va_get (D := (dC, dI)) (ci := 2) (v := .ref aRb) (C := RX2) (T := TX2) (N := 3) hx hb hts mX2_mayComeAfter_inX2 hown hK hP 0 rfl rfl 0 (by decide) (hts (.fieldLink RX2 9 "LeafOrder$Rules" "behind" "[I") mX2_mayComeAfter_0) (fun _ h9 => h9) rfl dX2_mayComeAfter_1 ?_
  refine lv_iload_n hx hb dX2_mayComeAfter_4 rfl (lv_at hl 1 rfl) ?_
  refine ln_iald (i := q1) hx hb hK hP 1 0 rfl rfl (by omega) (by decide) dX2_mayComeAfter_5 ?_
  have b_1 := bRb q1
  refine lv_aload_n hx hb dX2_mayComeAfter_6 rfl (lv_at hl 0 rfl) ?_
  refine va_get (D := (dC, dI)) (ci := 2) (v := .ref aRr) (C := RX2) (T := TX2) (N := 3) hx hb hts mX2_mayComeAfter_inX2 hown hK hP 0 rfl rfl 1 (by decide) (hts (.fieldLink RX2 15 "LeafOrder$Rules" "rightBehind" "[I") mX2_mayComeAfter_2) (fun _ h9 => h9) rfl dX2_mayComeAfter_7 ?_
  refine lv_iload_n hx hb dX2_mayComeAfter_10 rfl (lv_at hl 1 rfl) ?_
  refine ln_iald (i := q1) hx hb hK hP 2 0 rfl rfl (by omega) (by decide) dX2_mayComeAfter_11 ?_
  have b_2 := bRr q1
  refine ln_ior hx hb dX2_mayComeAfter_12 ?_
  refine lv_iload_n hx hb dX2_mayComeAfter_13 rfl (lv_at hl 2 rfl) ?_
  refine ln_iand hx hb dX2_mayComeAfter_14 ?_
  refine ln_if_ne (tgt := 22) hx hb dX2_mayComeAfter_15 (by decide) (Nat.lt_of_le_of_lt Nat.and_le_right (by omega)) (fun c_3 => ?_) (fun c_3 => ?_)
  · refine lv_iconst (v := nI 0) hx hb dX2_mayComeAfter_22 (by decide) ?_
    exact W.zret (v := (nI 0)) hx hb hr (by decide) (fun t ht hW => ⟨(nI 0), rfl, Or.inr ⟨rfl, (by assumption)⟩, ht⟩) (fun _ h => by cases h) dX2_mayComeAfter_23
  · refine lv_iconst (v := nI 1) hx hb dX2_mayComeAfter_18 (by decide) ?_
    refine lv_goto (tgt := 23) hx hb dX2_mayComeAfter_19 (by decide) ?_
    exact W.zret (v := (nI 1)) hx hb hr (by decide) (fun t ht hW => ⟨(nI 1), rfl, Or.inl ⟨rfl, (by assumption)⟩, ht⟩) (fun _ h => by cases h) dX2_mayComeAfter_23
theorem mX4_all_0 : Cond.fieldLink RX4 40 "LeafOrder$Search" "count" "I" ∈ wsX4_all := by decide +kernel
theorem mX4_all_inX4 : ∀ w ∈ wsX40, w ∈ wsX4_all := by decide +kernel
set_option maxHeartbeats 4000000 in
set_option maxRecDepth 100000 in
theorem k_X4_all (l : Launch) (dC : Nat → ClassId) (dI : Nat → Nat → Nat) (cI cZ : ClassId) (aS aR aSj aSl aSs aSo : Nat) (sn : Nat) (st : Nat) (sb : Nat) (sx : Nat) (hn : sn ≤ 9) : Met l yX4_all wsX4_all { frames := 0, cells := 0, slots := 0, locals := 0 } (va_Pc [.ref aS] (fun U => va_P (dC, dI) vwCl [(aS, .inr (4, [.ref aR, .ref aSj, .ref aSl, .ref aSs, .ref aSo, .int (nI sn), .int (nI st), .int (nI sb), .int (nI sx)]))] U.heap ∧ lK dC dI cI cZ U)) (vp_Si (fun r => r = (nI (2 ^ sn - 1)))) 0 0 (fun _ => False) := by
  refine Met.ofW (cc := cX4_all) (maxL := 1) (ret := (some .int)) (by decide) rfl ?_
  intro p e s m args below meth c s₁ B hml hv
  obtain ⟨rfl, hP, hKK⟩ := hv
  have hK := hKK.1
  have hx := B.exec
  have hb := B.bytes
  have hr := B.returns
  have hts := atoms_spec (ws := wsX4_all) B.pre
  have hown : s.vm.findClass RX4 = some m.cls := findClass_of_methodNamed B.named
  have hlocks := B.notSynchronized
  have hl := lv_entry ([.ref aS]) (n := 1) (Nat.le_of_ble_eq_true rfl)
  rw [lg_entry_eq]
  generalize (lg_sl ([.ref aS]) ++ List.replicate (1 - (lg_sl ([.ref aS])).length) Slot.unset).toArray = ls at hl ⊢
  have hl : lv_has ls 1 [(0, .ref aS)] := hl
  refine lv_iconst (v := nI 1) hx hb dX4_all_0 (by decide) ?_
  refine lv_aload_n hx hb dX4_all_1 rfl (lv_at hl 0 rfl) ?_
  refine va_get (D := (dC, dI)) (ci := 4) (v := .int (nI sn)) (C := RX4) (T := TX4) (N := 9) hx hb hts mX4_all_inX4 hown hK hP 0 rfl rfl 5 (by decide) (hts (.fieldLink RX4 40 "LeafOrder$Search" "count" "I") mX4_all_0) (fun _ h9 => h9) rfl dX4_all_2 ?_
  refine ln_ishl1 hx hb dX4_all_5 (by omega) ?_
  refine lv_iconst (v := nI 1) hx hb dX4_all_6 (by decide) ?_
  refine ln_isub hx hb dX4_all_7 (ln_one_two_pow _) ?_
  exact W.iret (v := (nI ((2 ^ sn) - 1))) hx hb hr (fun t ht hW => ⟨(nI ((2 ^ sn) - 1)), rfl, rfl, ht⟩) (fun _ h => by cases h) dX4_all_8
theorem mX4_linkCost_0 : Cond.fieldLink RX4 9 "LeafOrder$Search" "joins" "[I" ∈ wsX4_linkCost := by decide +kernel
theorem mX4_linkCost_inX4 : ∀ w ∈ wsX40, w ∈ wsX4_linkCost := by decide +kernel
set_option maxHeartbeats 4000000 in
set_option maxRecDepth 100000 in
theorem k_X4_linkCost (l : Launch) (dC : Nat → ClassId) (dI : Nat → Nat → Nat) (cI cZ : ClassId) (aS aR aSj aSl aSs aSo : Nat) (sn : Nat) (st : Nat) (sb : Nat) (sx : Nat) (sj : Nat → Nat) (q1 : Nat) (q2 : Nat) (bSj : ∀ k, sj k ≤ 10000) (h1 : q1 < 18) (h2 : q2 ≤ 18) : Met l yX4_linkCost wsX4_linkCost { frames := 0, cells := 0, slots := 0, locals := 0 } (va_Pc [.ref aS, .int (nI q1), .int (bhN q2)] (fun U => va_P (dC, dI) vwCl [(aS, .inr (4, [.ref aR, .ref aSj, .ref aSl, .ref aSs, .ref aSo, .int (nI sn), .int (nI st), .int (nI sb), .int (nI sx)])), (aSj, .inl (cI, 324, .inl (nF sj)))] U.heap ∧ lK dC dI cI cZ U)) (vp_Si (fun r => r = (nI (m_link sj q1 q2)))) 0 0 (fun _ => False) := by
  refine Met.ofW (cc := cX4_linkCost) (maxL := 3) (ret := (some .int)) (by decide) rfl ?_
  intro p e s m args below meth c s₁ B hml hv
  obtain ⟨rfl, hP, hKK⟩ := hv
  have hK := hKK.1
  have hx := B.exec
  have hb := B.bytes
  have hr := B.returns
  have hts := atoms_spec (ws := wsX4_linkCost) B.pre
  have hown : s.vm.findClass RX4 = some m.cls := findClass_of_methodNamed B.named
  have hlocks := B.notSynchronized
  have hl := lv_entry ([.ref aS, .int (nI q1), .int (bhN q2)]) (n := 3) (Nat.le_of_ble_eq_true rfl)
  rw [lg_entry_eq]
  generalize (lg_sl ([.ref aS, .int (nI q1), .int (bhN q2)]) ++ List.replicate (3 - (lg_sl ([.ref aS, .int (nI q1), .int (bhN q2)])).length) Slot.unset).toArray = ls at hl ⊢
  have hl : lv_has ls 3 [(0, .ref aS), (1, .int (nI q1)), (2, .int (bhN q2))] := hl
  rcases Nat.lt_or_ge q2 18 with hq | hq
  · have hl : lv_has ls 3 [(0, .ref aS), (1, .int (nI q1)), (2, .int (nI q2))] := by rw [bhN_lt hq] at hl; exact hl
    refine lv_iload_n hx hb dX4_linkCost_0 rfl (lv_at hl 2 rfl) ?_
    refine lv_iconst (v := (-1)) hx hb dX4_linkCost_1 (by decide) ?_
    refine ln_icmp_neT (tgt := 9) hx hb dX4_linkCost_2 (by decide) (ln_nm1 (by omega)) ?_
    refine lv_aload_n hx hb dX4_linkCost_9 rfl (lv_at hl 0 rfl) ?_
    refine va_get (D := (dC, dI)) (ci := 4) (v := .ref aSj) (C := RX4) (T := TX4) (N := 9) hx hb hts mX4_linkCost_inX4 hown hK hP 0 rfl rfl 1 (by decide) (hts (.fieldLink RX4 9 "LeafOrder$Search" "joins" "[I") mX4_linkCost_0) (fun _ h9 => h9) rfl dX4_linkCost_10 ?_
    refine lv_iload_n hx hb dX4_linkCost_13 rfl (lv_at hl 1 rfl) ?_
    refine lv_bipush (v := nI 18) hx hb dX4_linkCost_14 (by decide) ?_
    refine ln_imul hx hb dX4_linkCost_16 ?_
    refine lv_iload_n hx hb dX4_linkCost_17 rfl (lv_at hl 2 rfl) ?_
    refine ln_iadd hx hb dX4_linkCost_18 ?_
    refine ln_iald (i := (q1 * 18) + q2) hx hb hK hP 1 0 rfl rfl (by omega) (by decide) dX4_linkCost_19 ?_
    have b_1 := bSj ((q1 * 18) + q2)
    exact W.iret (v := (nI (sj ((q1 * 18) + q2)))) hx hb hr (fun t ht hW => ⟨(nI (sj ((q1 * 18) + q2))), rfl, (by unfold m_link; rw [if_pos hq]), ht⟩) (fun _ h => by cases h) dX4_linkCost_20
  · have hl : lv_has ls 3 [(0, .ref aS), (1, .int (nI q1)), (2, .int (-1))] := by rw [show q2 = 18 by omega, bhN_18] at hl; exact hl
    refine lv_iload_n hx hb dX4_linkCost_0 rfl (lv_at hl 2 rfl) ?_
    refine lv_iconst (v := (-1)) hx hb dX4_linkCost_1 (by decide) ?_
    refine ln_icmp_neF (tgt := 9) hx hb dX4_linkCost_2 (by decide) (fun q => q rfl) ?_
    refine lv_iconst (v := nI 0) hx hb dX4_linkCost_5 (by decide) ?_
    refine lv_goto (tgt := 20) hx hb dX4_linkCost_6 (by decide) ?_
    exact W.iret (v := (nI 0)) hx hb hr (fun t ht hW => ⟨(nI 0), rfl, (by unfold m_link; rw [if_neg (by omega)]), ht⟩) (fun _ h => by cases h) dX4_linkCost_20
theorem mX4_leastUpTo_0 : Cond.constant RX4 44 (1000000) ∈ wsX4_leastUpTo := by decide +kernel
theorem mX4_leastUpTo_1 : Cond.fieldLink RX4 40 "LeafOrder$Search" "count" "I" ∈ wsX4_leastUpTo := by decide +kernel
theorem mX4_leastUpTo_inX4 : ∀ w ∈ wsX40, w ∈ wsX4_leastUpTo := by decide +kernel
theorem mX4_leastUpTo_3 : Cond.fieldLink RX4 15 "LeafOrder$Search" "least" "[I" ∈ wsX4_leastUpTo := by decide +kernel
theorem mX4_leastUpTo_4 : Cond.fieldLink RX4 9 "LeafOrder$Search" "joins" "[I" ∈ wsX4_leastUpTo := by decide +kernel
theorem mX4_leastUpTo_5 : Cond.methodLink RX4 93 Lib.Math.min.name ∈ wsX4_leastUpTo := by decide +kernel
theorem mX4_leastUpTo_6 : Cond.static Lib.Math.min.name ∈ wsX4_leastUpTo := by decide +kernel
theorem mX4_leastUpTo_7 : Cond.initialized "java/lang/Math" ∈ wsX4_leastUpTo := by decide +kernel
theorem mX4_leastUpTo_8 : Cond.code Lib.Math.min.name Lib.Math.min.code 2 (some .int) ∈ wsX4_leastUpTo := by decide +kernel
set_option maxHeartbeats 4000000 in
set_option maxRecDepth 100000 in
theorem k_X4_leastUpTo (l : Launch) (dC : Nat → ClassId) (dI : Nat → Nat → Nat) (cI cZ : ClassId) (aS aR aSj aSl aSs aSo : Nat) (sn : Nat) (st : Nat) (sb : Nat) (sx : Nat) (sl : Nat → Nat) (sj : Nat → Nat) (q1 : Nat) (q2 : Nat) (q3 : Nat) (bSl : ∀ k, sl k ≤ 1000000) (bSj : ∀ k, sj k ≤ 10000) (hn : sn ≤ 9) (h1 : q1 < 512) (h2 : q2 < 512) (h3 : q3 < 18) : Met l yX4_leastUpTo wsX4_leastUpTo { frames := 1, cells := 0, slots := 0, locals := 21 } (va_Pc [.ref aS, .int (nI q1), .int (nI q2), .int (nI q3)] (fun U => va_P (dC, dI) vwCl [(aS, .inr (4, [.ref aR, .ref aSj, .ref aSl, .ref aSs, .ref aSo, .int (nI sn), .int (nI st), .int (nI sb), .int (nI sx)])), (aSl, .inl (cI, 9216, .inl (nF sl))), (aSj, .inl (cI, 324, .inl (nF sj)))] U.heap ∧ lK dC dI cI cZ U)) (vp_Si (fun r => r = (nI (m_upx sl sj sn q1 q2 q3)))) 0 0 (fun _ => False) := by
  refine Met.ofW (cc := cX4_leastUpTo) (maxL := 9) (ret := (some .int)) (by decide) rfl ?_
  intro p e s m args below meth c s₁ B hml hv
  obtain ⟨rfl, hP, hKK⟩ := hv
  have hK := hKK.1
  have hx := B.exec
  have hb := B.bytes
  have hr := B.returns
  have hts := atoms_spec (ws := wsX4_leastUpTo) B.pre
  have hown : s.vm.findClass RX4 = some m.cls := findClass_of_methodNamed B.named
  have hlocks := B.notSynchronized
  have hl := lv_entry ([.ref aS, .int (nI q1), .int (nI q2), .int (nI q3)]) (n := 9) (Nat.le_of_ble_eq_true rfl)
  rw [lg_entry_eq]
  generalize (lg_sl ([.ref aS, .int (nI q1), .int (nI q2), .int (nI q3)]) ++ List.replicate (9 - (lg_sl ([.ref aS, .int (nI q1), .int (nI q2), .int (nI q3)])).length) Slot.unset).toArray = ls at hl ⊢
  have hl : lv_has ls 9 [(0, .ref aS), (1, .int (nI q1)), (2, .int (nI q2)), (3, .int (nI q3))] := hl
  refine lv_iload_n hx hb dX4_leastUpTo_0 rfl (lv_at hl 1 rfl) ?_
  refine ln_if_ne (tgt := 6) hx hb dX4_leastUpTo_1 (by decide) (by omega) (fun c_1 => ?_) (fun c_1 => ?_)
  · refine lv_ldc (v := nI 1000000) hx hb hown (hts (.constant RX4 44 (1000000)) mX4_leastUpTo_0) dX4_leastUpTo_6 ?_
    refine lv_istore (lv' := [(4, .int (nI 1000000)), (0, .ref aS), (1, .int (nI q1)), (2, .int (nI q2)), (3, .int (nI q3))]) hx hb dX4_leastUpTo_8 hl (by decide) rfl (fun ls hl => ?_)
    refine lv_iconst (v := nI 0) hx hb dX4_leastUpTo_10 (by decide) ?_
    refine lv_istore (lv' := [(5, .int (nI 0)), (4, .int (nI 1000000)), (0, .ref aS), (1, .int (nI q1)), (2, .int (nI q2)), (3, .int (nI q3))]) hx hb dX4_leastUpTo_11 hl (by decide) rfl (fun ls hl => ?_)
    have LP13 : ∀ (n13 : Nat) (i : Nat) (acc : Nat), sn - i < n13 → (i ≤ sn) → (acc = m_up sl sj q1 q2 q3 i) → (acc ≤ 1000000) → ∀ (ls : Array Slot), lv_has ls 9 [(0, .ref aS), (1, .int (nI q1)), (2, .int (nI q2)), (3, .int (nI q3)), (4, .int (nI acc)), (5, .int (nI i))] → W p l e { frames := 1, cells := 0, slots := 0, locals := 21 } s m [.ref aS, .int (nI q1), .int (nI q2), .int (nI q3)].toArray below meth c s.heap [] 0 0 (MQ below (vp_Si (fun r => r = (nI (m_upx sl sj sn q1 q2 q3)))) [.ref aS, .int (nI q1), .int (nI q2), .int (nI q3)].toArray s 0 0 (fun _ => False)) (F0 m 13 ls []) := by
      intro n13
      induction n13 with
      | zero =>
        intro i acc hm
        exact absurd hm (Nat.not_lt_zero _)
      | succ n13 ih13 =>
        intro i acc hm13  hi hacc ha ls hl
        refine lv_iload hx hb dX4_leastUpTo_13 (lv_at hl 5 rfl) ?_
        refine lv_aload_n hx hb dX4_leastUpTo_15 rfl (lv_at hl 0 rfl) ?_
        refine va_get (D := (dC, dI)) (ci := 4) (v := .int (nI sn)) (C := RX4) (T := TX4) (N := 9) hx hb hts mX4_leastUpTo_inX4 hown hK hP 0 rfl rfl 5 (by decide) (hts (.fieldLink RX4 40 "LeafOrder$Search" "count" "I") mX4_leastUpTo_1) (fun _ h9 => h9) rfl dX4_leastUpTo_16 ?_
        refine ln_icmp_ge (tgt := 110) hx hb dX4_leastUpTo_19 (by decide) (by omega) (by omega) (fun c_2 => ?_) (fun c_2 => ?_)
        · refine lv_iload hx hb dX4_leastUpTo_110 (lv_at hl 4 rfl) ?_
          exact W.iret (v := (nI acc)) hx hb hr (fun t ht hW => ⟨(nI acc), rfl, (by unfold m_upx; rw [if_neg c_1, hacc, show i = sn by omega]), ht⟩) (fun _ h => by cases h) dX4_leastUpTo_112
        · refine lv_iload_n hx hb dX4_leastUpTo_22 rfl (lv_at hl 2 rfl) ?_
          refine lv_iload hx hb dX4_leastUpTo_23 (lv_at hl 5 rfl) ?_
          refine ln_ishr hx hb dX4_leastUpTo_25 (by omega) (by omega) ?_
          refine lv_iconst (v := nI 1) hx hb dX4_leastUpTo_26 (by decide) ?_
          refine ln_iand hx hb dX4_leastUpTo_27 ?_
          refine ln_if_eq (tgt := 104) hx hb dX4_leastUpTo_28 (by decide) (ln_b31 _) (fun c_3 => ?_) (fun c_3 => ?_)
          · refine lv_iinc (v := (nI (i + 1))) (lv' := [(5, .int (nI (i + 1))), (0, .ref aS), (1, .int (nI q1)), (2, .int (nI q2)), (3, .int (nI q3)), (4, .int (nI acc))]) hx hb dX4_leastUpTo_104 hl (k := 5) rfl (by first | exact nI_1 _ | rfl) (by decide) rfl (fun ls hl => ?_)
            refine lv_goto (tgt := 13) hx hb dX4_leastUpTo_107 (by decide) ?_
            exact ih13 (i + 1) acc (by omega)  (by omega) (by rw [m_up, if_pos c_3, hacc]) (by omega) ls (lv_sub hl [1, 2, 3, 4, 5, 0] rfl)
          · refine lv_iconst (v := nI 2) hx hb dX4_leastUpTo_31 (by decide) ?_
            refine lv_iload hx hb dX4_leastUpTo_32 (lv_at hl 5 rfl) ?_
            refine ln_imul hx hb dX4_leastUpTo_34 ?_
            refine lv_istore (lv' := [(6, .int (nI (2 * i))), (0, .ref aS), (1, .int (nI q1)), (2, .int (nI q2)), (3, .int (nI q3)), (4, .int (nI acc)), (5, .int (nI i))]) hx hb dX4_leastUpTo_35 hl (by decide) rfl (fun ls hl => ?_)
            refine lv_iload_n hx hb dX4_leastUpTo_37 rfl (lv_at hl 2 rfl) ?_
            refine lv_bipush (v := nI 18) hx hb dX4_leastUpTo_38 (by decide) ?_
            refine ln_imul hx hb dX4_leastUpTo_40 ?_
            refine lv_iload hx hb dX4_leastUpTo_41 (lv_at hl 0 rfl) ?_
            refine ln_iadd hx hb dX4_leastUpTo_43 ?_
            refine lv_istore (lv' := [(7, .int (nI ((q1 * 18) + (2 * i)))), (6, .int (nI (2 * i))), (0, .ref aS), (1, .int (nI q1)), (2, .int (nI q2)), (3, .int (nI q3)), (4, .int (nI acc)), (5, .int (nI i))]) hx hb dX4_leastUpTo_44 hl (by decide) rfl (fun ls hl => ?_)
            refine lv_iload hx hb dX4_leastUpTo_46 (lv_at hl 1 rfl) ?_
            refine lv_bipush (v := nI 18) hx hb dX4_leastUpTo_48 (by decide) ?_
            refine ln_imul hx hb dX4_leastUpTo_50 ?_
            refine lv_iload_n hx hb dX4_leastUpTo_51 rfl (lv_at hl 5 rfl) ?_
            refine ln_iadd hx hb dX4_leastUpTo_52 ?_
            refine lv_istore (lv' := [(8, .int (nI (((2 * i) * 18) + q3))), (7, .int (nI ((q1 * 18) + (2 * i)))), (6, .int (nI (2 * i))), (0, .ref aS), (1, .int (nI q1)), (2, .int (nI q2)), (3, .int (nI q3)), (4, .int (nI acc)), (5, .int (nI i))]) hx hb dX4_leastUpTo_53 hl (by decide) rfl (fun ls hl => ?_)
            refine lv_iload hx hb dX4_leastUpTo_55 (lv_at hl 7 rfl) ?_
            refine lv_aload_n hx hb dX4_leastUpTo_57 rfl (lv_at hl 3 rfl) ?_
            refine va_get (D := (dC, dI)) (ci := 4) (v := .ref aSl) (C := RX4) (T := TX4) (N := 9) hx hb hts mX4_leastUpTo_inX4 hown hK hP 0 rfl rfl 2 (by decide) (hts (.fieldLink RX4 15 "LeafOrder$Search" "least" "[I") mX4_leastUpTo_3) (fun _ h9 => h9) rfl dX4_leastUpTo_58 ?_
            refine lv_iload hx hb dX4_leastUpTo_61 (lv_at hl 1 rfl) ?_
            refine ln_iald (i := (q1 * 18) + (2 * i)) hx hb hK hP 1 0 rfl rfl (by omega) (by decide) dX4_leastUpTo_63 ?_
            have b_4 := bSl ((q1 * 18) + (2 * i))
            refine lv_aload_n hx hb dX4_leastUpTo_64 rfl (lv_at hl 3 rfl) ?_
            refine va_get (D := (dC, dI)) (ci := 4) (v := .ref aSj) (C := RX4) (T := TX4) (N := 9) hx hb hts mX4_leastUpTo_inX4 hown hK hP 0 rfl rfl 1 (by decide) (hts (.fieldLink RX4 9 "LeafOrder$Search" "joins" "[I") mX4_leastUpTo_4) (fun _ h9 => h9) rfl dX4_leastUpTo_65 ?_
            refine lv_iload hx hb dX4_leastUpTo_68 (lv_at hl 0 rfl) ?_
            refine ln_iald (i := ((2 * i) * 18) + q3) hx hb hK hP 2 0 rfl rfl (by omega) (by decide) dX4_leastUpTo_70 ?_
            have b_5 := bSj (((2 * i) * 18) + q3)
            refine ln_iadd hx hb dX4_leastUpTo_71 ?_
            refine ln_mmin (x := acc) (y := (sl ((q1 * 18) + (2 * i))) + (sj (((2 * i) * 18) + q3))) hx hb (by rw [hml]; exact hl.1.symm) hown (hts (.methodLink RX4 93 Lib.Math.min.name) mX4_leastUpTo_5) (hts (.static Lib.Math.min.name) mX4_leastUpTo_6) (hts (.initialized "java/lang/Math") mX4_leastUpTo_7) (hts (.code Lib.Math.min.name Lib.Math.min.code 2 (some .int)) mX4_leastUpTo_8) (Nat.le_of_ble_eq_true rfl) (Nat.le_of_ble_eq_true rfl) (Nat.zero_le _) (Nat.zero_le _) (by omega) (by omega) dX4_leastUpTo_72 ?_
            refine lv_istore (lv' := [(4, .int (nI (min acc ((sl ((q1 * 18) + (2 * i))) + (sj (((2 * i) * 18) + q3)))))), (8, .int (nI (((2 * i) * 18) + q3))), (7, .int (nI ((q1 * 18) + (2 * i)))), (6, .int (nI (2 * i))), (0, .ref aS), (1, .int (nI q1)), (2, .int (nI q2)), (3, .int (nI q3)), (5, .int (nI i))]) hx hb dX4_leastUpTo_75 hl (by decide) rfl (fun ls hl => ?_)
            refine lv_iload hx hb dX4_leastUpTo_77 (lv_at hl 0 rfl) ?_
            refine lv_aload_n hx hb dX4_leastUpTo_79 rfl (lv_at hl 4 rfl) ?_
            refine va_get (D := (dC, dI)) (ci := 4) (v := .ref aSl) (C := RX4) (T := TX4) (N := 9) hx hb hts mX4_leastUpTo_inX4 hown hK hP 0 rfl rfl 2 (by decide) (hts (.fieldLink RX4 15 "LeafOrder$Search" "least" "[I") mX4_leastUpTo_3) (fun _ h9 => h9) rfl dX4_leastUpTo_80 ?_
            refine lv_iload hx hb dX4_leastUpTo_83 (lv_at hl 2 rfl) ?_
            refine lv_iconst (v := nI 1) hx hb dX4_leastUpTo_85 (by decide) ?_
            refine ln_iadd hx hb dX4_leastUpTo_86 ?_
            refine ln_iald (i := ((q1 * 18) + (2 * i)) + 1) hx hb hK hP 1 0 rfl rfl (by omega) (by decide) dX4_leastUpTo_87 ?_
            have b_6 := bSl (((q1 * 18) + (2 * i)) + 1)
            refine lv_aload_n hx hb dX4_leastUpTo_88 rfl (lv_at hl 4 rfl) ?_
            refine va_get (D := (dC, dI)) (ci := 4) (v := .ref aSj) (C := RX4) (T := TX4) (N := 9) hx hb hts mX4_leastUpTo_inX4 hown hK hP 0 rfl rfl 1 (by decide) (hts (.fieldLink RX4 9 "LeafOrder$Search" "joins" "[I") mX4_leastUpTo_4) (fun _ h9 => h9) rfl dX4_leastUpTo_89 ?_
            refine lv_iload hx hb dX4_leastUpTo_92 (lv_at hl 1 rfl) ?_
            refine lv_bipush (v := nI 18) hx hb dX4_leastUpTo_94 (by decide) ?_
            refine ln_iadd hx hb dX4_leastUpTo_96 ?_
            refine ln_iald (i := (((2 * i) * 18) + q3) + 18) hx hb hK hP 2 0 rfl rfl (by omega) (by decide) dX4_leastUpTo_97 ?_
            have b_7 := bSj ((((2 * i) * 18) + q3) + 18)
            refine ln_iadd hx hb dX4_leastUpTo_98 ?_
            refine ln_mmin (x := min acc ((sl ((q1 * 18) + (2 * i))) + (sj (((2 * i) * 18) + q3)))) (y := (sl (((q1 * 18) + (2 * i)) + 1)) + (sj ((((2 * i) * 18) + q3) + 18))) hx hb (by rw [hml]; exact hl.1.symm) hown (hts (.methodLink RX4 93 Lib.Math.min.name) mX4_leastUpTo_5) (hts (.static Lib.Math.min.name) mX4_leastUpTo_6) (hts (.initialized "java/lang/Math") mX4_leastUpTo_7) (hts (.code Lib.Math.min.name Lib.Math.min.code 2 (some .int)) mX4_leastUpTo_8) (Nat.le_of_ble_eq_true rfl) (Nat.le_of_ble_eq_true rfl) (Nat.zero_le _) (Nat.zero_le _) (by omega) (by omega) dX4_leastUpTo_99 ?_
            refine lv_istore (lv' := [(4, .int (nI (min (min acc ((sl ((q1 * 18) + (2 * i))) + (sj (((2 * i) * 18) + q3)))) ((sl (((q1 * 18) + (2 * i)) + 1)) + (sj ((((2 * i) * 18) + q3) + 18)))))), (8, .int (nI (((2 * i) * 18) + q3))), (7, .int (nI ((q1 * 18) + (2 * i)))), (6, .int (nI (2 * i))), (0, .ref aS), (1, .int (nI q1)), (2, .int (nI q2)), (3, .int (nI q3)), (5, .int (nI i))]) hx hb dX4_leastUpTo_102 hl (by decide) rfl (fun ls hl => ?_)
            refine lv_iinc (v := (nI (i + 1))) (lv' := [(5, .int (nI (i + 1))), (4, .int (nI (min (min acc ((sl ((q1 * 18) + (2 * i))) + (sj (((2 * i) * 18) + q3)))) ((sl (((q1 * 18) + (2 * i)) + 1)) + (sj ((((2 * i) * 18) + q3) + 18)))))), (8, .int (nI (((2 * i) * 18) + q3))), (7, .int (nI ((q1 * 18) + (2 * i)))), (6, .int (nI (2 * i))), (0, .ref aS), (1, .int (nI q1)), (2, .int (nI q2)), (3, .int (nI q3))]) hx hb dX4_leastUpTo_104 hl (k := 8) rfl (by first | exact nI_1 _ | rfl) (by decide) rfl (fun ls hl => ?_)
            refine lv_goto (tgt := 13) hx hb dX4_leastUpTo_107 (by decide) ?_
            exact ih13 (i + 1) (min (min acc ((sl ((q1 * 18) + (2 * i))) + (sj (((2 * i) * 18) + q3)))) ((sl (((q1 * 18) + (2 * i)) + 1)) + (sj ((((2 * i) * 18) + q3) + 18)))) (by omega)  (by omega) (by rw [m_up, if_neg c_3, hacc]) (by omega) ls (lv_sub hl [5, 6, 7, 8, 1, 0] rfl)
    exact LP13 _ 0 1000000 (Nat.lt_succ_self _)  (Nat.zero_le _) rfl (by decide) ls (lv_sub hl [2, 3, 4, 5, 1, 0] rfl)
  · refine lv_iconst (v := nI 0) hx hb dX4_leastUpTo_4 (by decide) ?_
    exact W.iret (v := (nI 0)) hx hb hr (fun t ht hW => ⟨(nI 0), rfl, (by unfold m_upx; rw [if_pos c_1]), ht⟩) (fun _ h => by cases h) dX4_leastUpTo_5
theorem mX4_leastOf_0 : Cond.constant RX4 44 (1000000) ∈ wsX4_leastOf := by decide +kernel
theorem mX4_leastOf_1 : Cond.fieldLink RX4 40 "LeafOrder$Search" "count" "I" ∈ wsX4_leastOf := by decide +kernel
theorem mX4_leastOf_inX4 : ∀ w ∈ wsX40, w ∈ wsX4_leastOf := by decide +kernel
theorem mX4_leastOf_3 : Cond.fieldLink RX4 15 "LeafOrder$Search" "least" "[I" ∈ wsX4_leastOf := by decide +kernel
theorem mX4_leastOf_4 : Cond.methodLink RX4 93 Lib.Math.min.name ∈ wsX4_leastOf := by decide +kernel
theorem mX4_leastOf_5 : Cond.static Lib.Math.min.name ∈ wsX4_leastOf := by decide +kernel
theorem mX4_leastOf_6 : Cond.initialized "java/lang/Math" ∈ wsX4_leastOf := by decide +kernel
theorem mX4_leastOf_7 : Cond.code Lib.Math.min.name Lib.Math.min.code 2 (some .int) ∈ wsX4_leastOf := by decide +kernel
set_option maxHeartbeats 4000000 in
set_option maxRecDepth 100000 in
theorem k_X4_leastOf (l : Launch) (dC : Nat → ClassId) (dI : Nat → Nat → Nat) (cI cZ : ClassId) (aS aR aSj aSl aSs aSo : Nat) (sn : Nat) (st : Nat) (sb : Nat) (sx : Nat) (sl : Nat → Nat) (q1 : Nat) (bSl : ∀ k, sl k ≤ 1000000) (hn : sn ≤ 9) (h1 : q1 < 512) : Met l yX4_leastOf wsX4_leastOf { frames := 1, cells := 0, slots := 0, locals := 21 } (va_Pc [.ref aS, .int (nI q1)] (fun U => va_P (dC, dI) vwCl [(aS, .inr (4, [.ref aR, .ref aSj, .ref aSl, .ref aSs, .ref aSo, .int (nI sn), .int (nI st), .int (nI sb), .int (nI sx)])), (aSl, .inl (cI, 9216, .inl (nF sl)))] U.heap ∧ lK dC dI cI cZ U)) (vp_Si (fun r => r = (nI (m_of sl q1 (2 * sn))))) 0 0 (fun _ => False) := by
  refine Met.ofW (cc := cX4_leastOf) (maxL := 4) (ret := (some .int)) (by decide) rfl ?_
  intro p e s m args below meth c s₁ B hml hv
  obtain ⟨rfl, hP, hKK⟩ := hv
  have hK := hKK.1
  have hx := B.exec
  have hb := B.bytes
  have hr := B.returns
  have hts := atoms_spec (ws := wsX4_leastOf) B.pre
  have hown : s.vm.findClass RX4 = some m.cls := findClass_of_methodNamed B.named
  have hlocks := B.notSynchronized
  have hl := lv_entry ([.ref aS, .int (nI q1)]) (n := 4) (Nat.le_of_ble_eq_true rfl)
  rw [lg_entry_eq]
  generalize (lg_sl ([.ref aS, .int (nI q1)]) ++ List.replicate (4 - (lg_sl ([.ref aS, .int (nI q1)])).length) Slot.unset).toArray = ls at hl ⊢
  have hl : lv_has ls 4 [(0, .ref aS), (1, .int (nI q1))] := hl
  refine lv_ldc (v := nI 1000000) hx hb hown (hts (.constant RX4 44 (1000000)) mX4_leastOf_0) dX4_leastOf_0 ?_
  refine lv_istore_n (lv' := [(2, .int (nI 1000000)), (0, .ref aS), (1, .int (nI q1))]) hx hb dX4_leastOf_2 rfl hl (by decide) rfl (fun ls hl => ?_)
  refine lv_iconst (v := nI 0) hx hb dX4_leastOf_3 (by decide) ?_
  refine lv_istore_n (lv' := [(3, .int (nI 0)), (2, .int (nI 1000000)), (0, .ref aS), (1, .int (nI q1))]) hx hb dX4_leastOf_4 rfl hl (by decide) rfl (fun ls hl => ?_)
  have LP5 : ∀ (n5 : Nat) (i : Nat) (acc : Nat), 2 * sn - i < n5 → (i ≤ 2 * sn) → (acc = m_of sl q1 i) → (acc ≤ 1000000) → ∀ (ls : Array Slot), lv_has ls 4 [(0, .ref aS), (1, .int (nI q1)), (2, .int (nI acc)), (3, .int (nI i))] → W p l e { frames := 1, cells := 0, slots := 0, locals := 21 } s m [.ref aS, .int (nI q1)].toArray below meth c s.heap [] 0 0 (MQ below (vp_Si (fun r => r = (nI (m_of sl q1 (2 * sn))))) [.ref aS, .int (nI q1)].toArray s 0 0 (fun _ => False)) (F0 m 5 ls []) := by
    intro n5
    induction n5 with
    | zero =>
      intro i acc hm
      exact absurd hm (Nat.not_lt_zero _)
    | succ n5 ih5 =>
      intro i acc hm5  hi hacc ha ls hl
      refine lv_iload_n hx hb dX4_leastOf_5 rfl (lv_at hl 3 rfl) ?_
      refine lv_iconst (v := nI 2) hx hb dX4_leastOf_6 (by decide) ?_
      refine lv_aload_n hx hb dX4_leastOf_7 rfl (lv_at hl 0 rfl) ?_
      refine va_get (D := (dC, dI)) (ci := 4) (v := .int (nI sn)) (C := RX4) (T := TX4) (N := 9) hx hb hts mX4_leastOf_inX4 hown hK hP 0 rfl rfl 5 (by decide) (hts (.fieldLink RX4 40 "LeafOrder$Search" "count" "I") mX4_leastOf_1) (fun _ h9 => h9) rfl dX4_leastOf_8 ?_
      refine ln_imul hx hb dX4_leastOf_11 ?_
      refine ln_icmp_ge (tgt := 47) hx hb dX4_leastOf_12 (by decide) (by omega) (by omega) (fun c_1 => ?_) (fun c_1 => ?_)
      · refine lv_iload_n hx hb dX4_leastOf_47 rfl (lv_at hl 2 rfl) ?_
        exact W.iret (v := (nI acc)) hx hb hr (fun t ht hW => ⟨(nI acc), rfl, (by rw [hacc, show i = 2 * sn by omega]), ht⟩) (fun _ h => by cases h) dX4_leastOf_48
      · refine lv_iload_n hx hb dX4_leastOf_15 rfl (lv_at hl 1 rfl) ?_
        refine lv_iload_n hx hb dX4_leastOf_16 rfl (lv_at hl 3 rfl) ?_
        refine lv_iconst (v := nI 1) hx hb dX4_leastOf_17 (by decide) ?_
        refine ln_ishr hx hb dX4_leastOf_18 (by omega) (by omega) ?_
        refine ln_ishr hx hb dX4_leastOf_19 (by omega) (by omega) ?_
        refine lv_iconst (v := nI 1) hx hb dX4_leastOf_20 (by decide) ?_
        refine ln_iand hx hb dX4_leastOf_21 ?_
        refine ln_if_eq (tgt := 41) hx hb dX4_leastOf_22 (by decide) (ln_b31 _) (fun c_2 => ?_) (fun c_2 => ?_)
        · refine lv_iinc (v := (nI (i + 1))) (lv' := [(3, .int (nI (i + 1))), (0, .ref aS), (1, .int (nI q1)), (2, .int (nI acc))]) hx hb dX4_leastOf_41 hl (k := 3) rfl (by first | exact nI_1 _ | rfl) (by decide) rfl (fun ls hl => ?_)
          refine lv_goto (tgt := 5) hx hb dX4_leastOf_44 (by decide) ?_
          exact ih5 (i + 1) acc (by omega)  (by omega) (by rw [m_of, if_pos c_2, hacc]) (by omega) ls (lv_sub hl [1, 2, 3, 0] rfl)
        · refine lv_iload_n hx hb dX4_leastOf_25 rfl (lv_at hl 2 rfl) ?_
          refine lv_aload_n hx hb dX4_leastOf_26 rfl (lv_at hl 0 rfl) ?_
          refine va_get (D := (dC, dI)) (ci := 4) (v := .ref aSl) (C := RX4) (T := TX4) (N := 9) hx hb hts mX4_leastOf_inX4 hown hK hP 0 rfl rfl 2 (by decide) (hts (.fieldLink RX4 15 "LeafOrder$Search" "least" "[I") mX4_leastOf_3) (fun _ h9 => h9) rfl dX4_leastOf_27 ?_
          refine lv_iload_n hx hb dX4_leastOf_30 rfl (lv_at hl 1 rfl) ?_
          refine lv_bipush (v := nI 18) hx hb dX4_leastOf_31 (by decide) ?_
          refine ln_imul hx hb dX4_leastOf_33 ?_
          refine lv_iload_n hx hb dX4_leastOf_34 rfl (lv_at hl 3 rfl) ?_
          refine ln_iadd hx hb dX4_leastOf_35 ?_
          refine ln_iald (i := (q1 * 18) + i) hx hb hK hP 1 0 rfl rfl (by omega) (by decide) dX4_leastOf_36 ?_
          have b_3 := bSl ((q1 * 18) + i)
          refine ln_mmin (x := acc) (y := sl ((q1 * 18) + i)) hx hb (by rw [hml]; exact hl.1.symm) hown (hts (.methodLink RX4 93 Lib.Math.min.name) mX4_leastOf_4) (hts (.static Lib.Math.min.name) mX4_leastOf_5) (hts (.initialized "java/lang/Math") mX4_leastOf_6) (hts (.code Lib.Math.min.name Lib.Math.min.code 2 (some .int)) mX4_leastOf_7) (Nat.le_of_ble_eq_true rfl) (Nat.le_of_ble_eq_true rfl) (Nat.zero_le _) (Nat.zero_le _) (by omega) (by omega) dX4_leastOf_37 ?_
          refine lv_istore_n (lv' := [(2, .int (nI (min acc (sl ((q1 * 18) + i))))), (0, .ref aS), (1, .int (nI q1)), (3, .int (nI i))]) hx hb dX4_leastOf_40 rfl hl (by decide) rfl (fun ls hl => ?_)
          refine lv_iinc (v := (nI (i + 1))) (lv' := [(3, .int (nI (i + 1))), (2, .int (nI (min acc (sl ((q1 * 18) + i))))), (0, .ref aS), (1, .int (nI q1))]) hx hb dX4_leastOf_41 hl (k := 3) rfl (by first | exact nI_1 _ | rfl) (by decide) rfl (fun ls hl => ?_)
          refine lv_goto (tgt := 5) hx hb dX4_leastOf_44 (by decide) ?_
          exact ih5 (i + 1) (min acc (sl ((q1 * 18) + i))) (by omega)  (by omega) (by rw [m_of, if_neg c_2, hacc]) (by omega) ls (lv_sub hl [2, 3, 1, 0] rfl)
  exact LP5 _ 0 1000000 (Nat.lt_succ_self _)  (Nat.zero_le _) rfl (by decide) ls (lv_sub hl [2, 3, 1, 0] rfl)
