set_option maxHeartbeats 4000000 in
set_option maxRecDepth 100000 in
theorem k_X2_withBit (l : Launch) (dC : Nat → ClassId) (dI : Nat → Nat → Nat) (cI cZ : ClassId) (q1 : Nat) (q2 : Nat) (q3 : Nat) (h2 : q2 < 31) (h3 : q3 < 2) : Met l yX2_withBit wsX2_withBit { frames := 0, cells := 0, slots := 0, locals := 0 } (va_Pc [.int (nI q1), .int (nI q2), .int (nI q3)] (fun _ => True)) (vp_Si (fun r => r = (nI (wbit q1 q2 q3)))) 0 0 (fun _ => False) := by
  refine Met.ofW (cc := cX2_withBit) (maxL := 3) (ret := (some .int)) (by decide) rfl ?_
  intro p e s m args below meth c s₁ B hml hv
  obtain ⟨rfl, -⟩ := hv
  have hx := B.exec
  have hb := B.bytes
  have hr := B.returns
  have hts := atoms_spec (ws := wsX2_withBit) B.pre
  have hown : s.vm.findClass RX2 = some m.cls := findClass_of_methodNamed B.named
  have hlocks := B.notSynchronized
  have hl := lv_entry ([.int (nI q1), .int (nI q2), .int (nI q3)]) (n := 3) (Nat.le_of_ble_eq_true rfl)
  rw [lg_entry_eq]
  generalize (lg_sl ([.int (nI q1), .int (nI q2), .int (nI q3)]) ++ List.replicate (3 - (lg_sl ([.int (nI q1), .int (nI q2), .int (nI q3)])).length) Slot.unset).toArray = ls at hl ⊢
  have hl : lv_has ls 3 [(0, .int (nI q1)), (1, .int (nI q2)), (2, .int (nI q3))] := hl
  refine lv_iload_n hx hb dX2_withBit_0 rfl (lv_at hl 2 rfl) ?_
  refine ln_if_eq (tgt := 12) hx hb dX2_withBit_1 (by decide) (by omega) (fun c_1 => ?_) (fun c_1 => ?_)
  · refine lv_iload_n hx hb dX2_withBit_12 rfl (lv_at hl 0 rfl) ?_
    refine lv_iconst (v := nI 1) hx hb dX2_withBit_13 (by decide) ?_
    refine lv_iload_n hx hb dX2_withBit_14 rfl (lv_at hl 1 rfl) ?_
    refine ln_ishl1 hx hb dX2_withBit_15 (by omega) ?_
    refine lv_iconst (v := (-1)) hx hb dX2_withBit_16 (by decide) ?_
    refine lv_ixor hx hb dX2_withBit_17 ?_
    refine ln_iclr hx hb dX2_withBit_18 ?_
    exact W.iret (v := (nI (nclr q1 (2 ^ q2)))) hx hb hr (fun t ht hW => ⟨(nI (nclr q1 (2 ^ q2))), rfl, (by unfold wbit; first | rw [if_pos (by omega)] | rw [if_neg (by omega)]), ht⟩) (fun _ h => by cases h) dX2_withBit_19
  · refine lv_iload_n hx hb dX2_withBit_4 rfl (lv_at hl 0 rfl) ?_
    refine lv_iconst (v := nI 1) hx hb dX2_withBit_5 (by decide) ?_
    refine lv_iload_n hx hb dX2_withBit_6 rfl (lv_at hl 1 rfl) ?_
    refine ln_ishl1 hx hb dX2_withBit_7 (by omega) ?_
    refine ln_ior hx hb dX2_withBit_8 ?_
    refine lv_goto (tgt := 19) hx hb dX2_withBit_9 (by decide) ?_
    exact W.iret (v := (nI (q1 ||| (2 ^ q2)))) hx hb hr (fun t ht hW => ⟨(nI (q1 ||| (2 ^ q2))), rfl, (by unfold wbit; first | rw [if_pos (by omega)] | rw [if_neg (by omega)]), ht⟩) (fun _ h => by cases h) dX2_withBit_19
theorem mX2_putAhead_0 : Cond.fieldLink RX2 9 "LeafOrder$Rules" "behind" "[I" ∈ wsX2_putAhead := by decide +kernel
theorem mX2_putAhead_inX2 : ∀ w ∈ wsX20, w ∈ wsX2_putAhead := by decide +kernel
set_option maxHeartbeats 4000000 in
set_option maxRecDepth 100000 in
theorem k_X2_putAhead (l : Launch) (dC : Nat → ClassId) (dI : Nat → Nat → Nat) (cI cZ : ClassId) (aR aRb aRr aRa : Nat) (rb : Nat → Nat) (q1 : Nat) (q2 : Nat) (q3 : Nat) (sz : Nat) (bRb : ∀ k, rb k ≤ 511) (h1 : q1 < 9) (h2 : q2 < 9) (h3 : q3 < 2) : Met l yX2_putAhead wsX2_putAhead { frames := 1, cells := 0, slots := 0, locals := 22 } (va_Pc [.ref aR, .int (nI q1), .int (nI q2), .int (nI q3)] (fun U => U.heap.size = sz ∧ va_P (dC, dI) vwCl [(aR, .inr (2, [.ref aRb, .ref aRr, .ref aRa])), (aRb, .inl (cI, 9, .inl (nF rb)))] U.heap ∧ lK dC dI cI cZ U ∧ va_D (fun _ => True) [(aR, .inr (2, [.ref aRb, .ref aRr, .ref aRa])), (aRb, .inl (cI, 9, .inl (nF rb)))])) (va_Qv (fun (rbz : (Nat → Nat)) => rbz = upN rb q1 (wbit (rb q1) q2 q3) ∧ ∀ k, rbz k ≤ 511) (fun (rbz : (Nat → Nat)) (t : State) => va_P (dC, dI) vwCl [(aR, .inr (2, [.ref aRb, .ref aRr, .ref aRa])), (aRb, .inl (cI, 9, .inl (nF rbz)))] t.heap ∧ va_D (va_A [(aR, .inr (2, [.ref aRb, .ref aRr, .ref aRa])), (aRb, .inl (cI, 9, .inl (nF rb)))] sz) [(aR, .inr (2, [.ref aRb, .ref aRr, .ref aRa])), (aRb, .inl (cI, 9, .inl (nF rbz)))]) (va_A [(aR, .inr (2, [.ref aRb, .ref aRr, .ref aRa])), (aRb, .inl (cI, 9, .inl (nF rb)))] sz)) 0 0 (va_A [(aR, .inr (2, [.ref aRb, .ref aRr, .ref aRa])), (aRb, .inl (cI, 9, .inl (nF rb)))] sz) := by
  refine Met.ofW (cc := cX2_putAhead) (maxL := 4) (ret := none) (by decide) rfl ?_
  intro p e s m args below meth c s₁ B hml hv
  obtain ⟨rfl, hsz, hP, hKK, hD0⟩ := hv
  have hK := hKK.1
  have hx := B.exec
  have hb := B.bytes
  have hr := B.returns
  have hts := atoms_spec (ws := wsX2_putAhead) B.pre
  have hown : s.vm.findClass RX2 = some m.cls := findClass_of_methodNamed B.named
  have hlocks := B.notSynchronized
  subst hsz
  have hD := hD0.self (sz := s.heap.size)
  generalize hAe : va_A [(aR, .inr (2, [.ref aRb, .ref aRr, .ref aRa])), (aRb, .inl (cI, 9, .inl (nF rb)))] s.heap.size = A at hD ⊢
  have hA : ∀ q : Nat, s.heap.size ≤ q → A q := fun q h => by rw [← hAe]; exact Or.inr h
  have hS : va_S A s.heap s.heap [] := va_S.rf
  have hl := lv_entry ([.ref aR, .int (nI q1), .int (nI q2), .int (nI q3)]) (n := 4) (Nat.le_of_ble_eq_true rfl)
  rw [lg_entry_eq]
  generalize (lg_sl ([.ref aR, .int (nI q1), .int (nI q2), .int (nI q3)]) ++ List.replicate (4 - (lg_sl ([.ref aR, .int (nI q1), .int (nI q2), .int (nI q3)])).length) Slot.unset).toArray = ls at hl ⊢
  have hl : lv_has ls 4 [(0, .ref aR), (1, .int (nI q1)), (2, .int (nI q2)), (3, .int (nI q3))] := hl
  refine lv_aload_n hx hb dX2_putAhead_0 rfl (lv_at hl 0 rfl) ?_
  refine va_get (D := (dC, dI)) (ci := 2) (v := .ref aRb) (C := RX2) (T := TX2) (N := 3) hx hb hts mX2_putAhead_inX2 hown hK hP 0 rfl rfl 0 (by decide) (hts (.fieldLink RX2 9 "LeafOrder$Rules" "behind" "[I") mX2_putAhead_0) (fun _ h9 => h9) rfl dX2_putAhead_1 ?_
  refine lv_iload_n hx hb dX2_putAhead_4 rfl (lv_at hl 1 rfl) ?_
  refine lv_aload_n hx hb dX2_putAhead_5 rfl (lv_at hl 0 rfl) ?_
  refine va_get (D := (dC, dI)) (ci := 2) (v := .ref aRb) (C := RX2) (T := TX2) (N := 3) hx hb hts mX2_putAhead_inX2 hown hK hP 0 rfl rfl 0 (by decide) (hts (.fieldLink RX2 9 "LeafOrder$Rules" "behind" "[I") mX2_putAhead_0) (fun _ h9 => h9) rfl dX2_putAhead_6 ?_
  refine lv_iload_n hx hb dX2_putAhead_9 rfl (lv_at hl 1 rfl) ?_
  refine ln_iald (i := q1) hx hb hK hP 1 0 rfl rfl (by omega) (by decide) dX2_putAhead_10 ?_
  have b_1 := bRb q1
  refine lv_iload_n hx hb dX2_putAhead_11 rfl (lv_at hl 2 rfl) ?_
  refine lv_iload_n hx hb dX2_putAhead_12 rfl (lv_at hl 3 rfl) ?_
  refine vp_callSi (W.runS (As := [.int (nI (rb q1)), .int (nI q2), .int (nI q3)]) (rest := [.int (nI q1), .ref aRb]) ⟨hx, hb, hml, hown, hts⟩ (k_X2_withBit l dC dI cI cZ (rb q1) q2 q3 (by omega) (by omega)) (va_cwS 3 hts gX2_putAhead_X2_withBit rfl rfl rfl (by decide +kernel) ⟨Nat.le_of_ble_eq_true rfl, Nat.le_of_ble_eq_true rfl⟩) ln_preS0 rfl rfl hl.1 rfl (lv_room (Nat.le_of_ble_eq_true rfl)) dX2_putAhead_13 ⟨Nat.le_of_ble_eq_true rfl, Nat.le_of_ble_eq_true rfl⟩) (fun r_2 w_3 => ?_)
  subst w_3
  refine ln_iast (i := q1) hx hb hK hP hD hS 1 0 rfl rfl (by omega) (by decide) dX2_putAhead_16 (fun H locs hP hD hS => ?_)
  have b_4 : ∀ k, (upN rb q1 (wbit (rb q1) q2 q3)) k ≤ 511 := upN_le bRb (Nat.le_of_lt_succ (wbit_lt (Nat.lt_succ_of_le (bRb _)) h2))
  have hP : va_P (dC, dI) vwCl [(aR, .inr (2, [.ref aRb, .ref aRr, .ref aRa])), (aRb, .inl (cI, 9, .inl (nF (upN rb q1 (wbit (rb q1) q2 q3)))))] H := hP
  have hD : va_D A [(aR, .inr (2, [.ref aRb, .ref aRr, .ref aRa])), (aRb, .inl (cI, 9, .inl (nF (upN rb q1 (wbit (rb q1) q2 q3)))))] := hD
  exact W.vret hx hb hr (fun t ht hW => ⟨⟨(upN rb q1 (wbit (rb q1) q2 q3)), rfl, ⟨rfl, b_4⟩, by rw [ht]; exact hP, hD⟩, hS.F ht⟩) hS.2.2 dX2_putAhead_17
theorem mX2_putJoined_0 : Cond.fieldLink RX2 15 "LeafOrder$Rules" "rightBehind" "[I" ∈ wsX2_putJoined := by decide +kernel
theorem mX2_putJoined_inX2 : ∀ w ∈ wsX20, w ∈ wsX2_putJoined := by decide +kernel
theorem mX2_putJoined_2 : Cond.fieldLink RX2 18 "LeafOrder$Rules" "rightAhead" "[I" ∈ wsX2_putJoined := by decide +kernel
set_option maxHeartbeats 4000000 in
set_option maxRecDepth 100000 in
theorem k_X2_putJoined (l : Launch) (dC : Nat → ClassId) (dI : Nat → Nat → Nat) (cI cZ : ClassId) (aR aRb aRr aRa : Nat) (rr : Nat → Nat) (ra : Nat → Nat) (q1 : Nat) (q2 : Nat) (q3 : Nat) (sz : Nat) (bRr : ∀ k, rr k ≤ 511) (bRa : ∀ k, ra k ≤ 511) (h1 : q1 < 9) (h2 : q2 < 9) (h3 : q3 < 2) : Met l yX2_putJoined wsX2_putJoined { frames := 1, cells := 0, slots := 0, locals := 22 } (va_Pc [.ref aR, .int (nI q1), .int (nI q2), .int (nI q3)] (fun U => U.heap.size = sz ∧ va_P (dC, dI) vwCl [(aR, .inr (2, [.ref aRb, .ref aRr, .ref aRa])), (aRr, .inl (cI, 9, .inl (nF rr))), (aRa, .inl (cI, 9, .inl (nF ra)))] U.heap ∧ lK dC dI cI cZ U ∧ va_D (fun _ => True) [(aR, .inr (2, [.ref aRb, .ref aRr, .ref aRa])), (aRr, .inl (cI, 9, .inl (nF rr))), (aRa, .inl (cI, 9, .inl (nF ra)))])) (va_Qv (fun (u : (Nat → Nat) × (Nat → Nat)) => match u with | (rrz, raz) => rrz = upN rr q1 (wbit (rr q1) q2 q3) ∧ raz = upN ra q2 (wbit (ra q2) q1 q3) ∧ (∀ k, rrz k ≤ 511) ∧ (∀ k, raz k ≤ 511)) (fun (u : (Nat → Nat) × (Nat → Nat)) (t : State) => match u with | (rrz, raz) => va_P (dC, dI) vwCl [(aR, .inr (2, [.ref aRb, .ref aRr, .ref aRa])), (aRr, .inl (cI, 9, .inl (nF rrz))), (aRa, .inl (cI, 9, .inl (nF raz)))] t.heap ∧ va_D (va_A [(aR, .inr (2, [.ref aRb, .ref aRr, .ref aRa])), (aRr, .inl (cI, 9, .inl (nF rr))), (aRa, .inl (cI, 9, .inl (nF ra)))] sz) [(aR, .inr (2, [.ref aRb, .ref aRr, .ref aRa])), (aRr, .inl (cI, 9, .inl (nF rrz))), (aRa, .inl (cI, 9, .inl (nF raz)))]) (va_A [(aR, .inr (2, [.ref aRb, .ref aRr, .ref aRa])), (aRr, .inl (cI, 9, .inl (nF rr))), (aRa, .inl (cI, 9, .inl (nF ra)))] sz)) 0 0 (va_A [(aR, .inr (2, [.ref aRb, .ref aRr, .ref aRa])), (aRr, .inl (cI, 9, .inl (nF rr))), (aRa, .inl (cI, 9, .inl (nF ra)))] sz) := by
  refine Met.ofW (cc := cX2_putJoined) (maxL := 4) (ret := none) (by decide) rfl ?_
  intro p e s m args below meth c s₁ B hml hv
  obtain ⟨rfl, hsz, hP, hKK, hD0⟩ := hv
  have hK := hKK.1
  have hx := B.exec
  have hb := B.bytes
  have hr := B.returns
  have hts := atoms_spec (ws := wsX2_putJoined) B.pre
  have hown : s.vm.findClass RX2 = some m.cls := findClass_of_methodNamed B.named
  have hlocks := B.notSynchronized
  subst hsz
  have hD := hD0.self (sz := s.heap.size)
  generalize hAe : va_A [(aR, .inr (2, [.ref aRb, .ref aRr, .ref aRa])), (aRr, .inl (cI, 9, .inl (nF rr))), (aRa, .inl (cI, 9, .inl (nF ra)))] s.heap.size = A at hD ⊢
  have hA : ∀ q : Nat, s.heap.size ≤ q → A q := fun q h => by rw [← hAe]; exact Or.inr h
  have hS : va_S A s.heap s.heap [] := va_S.rf
  have hl := lv_entry ([.ref aR, .int (nI q1), .int (nI q2), .int (nI q3)]) (n := 4) (Nat.le_of_ble_eq_true rfl)
  rw [lg_entry_eq]
  generalize (lg_sl ([.ref aR, .int (nI q1), .int (nI q2), .int (nI q3)]) ++ List.replicate (4 - (lg_sl ([.ref aR, .int (nI q1), .int (nI q2), .int (nI q3)])).length) Slot.unset).toArray = ls at hl ⊢
  have hl : lv_has ls 4 [(0, .ref aR), (1, .int (nI q1)), (2, .int (nI q2)), (3, .int (nI q3))] := hl
  refine lv_aload_n hx hb dX2_putJoined_0 rfl (lv_at hl 0 rfl) ?_
  refine va_get (D := (dC, dI)) (ci := 2) (v := .ref aRr) (C := RX2) (T := TX2) (N := 3) hx hb hts mX2_putJoined_inX2 hown hK hP 0 rfl rfl 1 (by decide) (hts (.fieldLink RX2 15 "LeafOrder$Rules" "rightBehind" "[I") mX2_putJoined_0) (fun _ h9 => h9) rfl dX2_putJoined_1 ?_
  refine lv_iload_n hx hb dX2_putJoined_4 rfl (lv_at hl 1 rfl) ?_
  refine lv_aload_n hx hb dX2_putJoined_5 rfl (lv_at hl 0 rfl) ?_
  refine va_get (D := (dC, dI)) (ci := 2) (v := .ref aRr) (C := RX2) (T := TX2) (N := 3) hx hb hts mX2_putJoined_inX2 hown hK hP 0 rfl rfl 1 (by decide) (hts (.fieldLink RX2 15 "LeafOrder$Rules" "rightBehind" "[I") mX2_putJoined_0) (fun _ h9 => h9) rfl dX2_putJoined_6 ?_
  refine lv_iload_n hx hb dX2_putJoined_9 rfl (lv_at hl 1 rfl) ?_
  refine ln_iald (i := q1) hx hb hK hP 1 0 rfl rfl (by omega) (by decide) dX2_putJoined_10 ?_
  have b_1 := bRr q1
  refine lv_iload_n hx hb dX2_putJoined_11 rfl (lv_at hl 2 rfl) ?_
  refine lv_iload_n hx hb dX2_putJoined_12 rfl (lv_at hl 3 rfl) ?_
  refine vp_callSi (W.runS (As := [.int (nI (rr q1)), .int (nI q2), .int (nI q3)]) (rest := [.int (nI q1), .ref aRr]) ⟨hx, hb, hml, hown, hts⟩ (k_X2_withBit l dC dI cI cZ (rr q1) q2 q3 (by omega) (by omega)) (va_cwS 3 hts gX2_putJoined_X2_withBit rfl rfl rfl (by decide +kernel) ⟨Nat.le_of_ble_eq_true rfl, Nat.le_of_ble_eq_true rfl⟩) ln_preS0 rfl rfl hl.1 rfl (lv_room (Nat.le_of_ble_eq_true rfl)) dX2_putJoined_13 ⟨Nat.le_of_ble_eq_true rfl, Nat.le_of_ble_eq_true rfl⟩) (fun r_2 w_3 => ?_)
  subst w_3
  refine ln_iast (i := q1) hx hb hK hP hD hS 1 0 rfl rfl (by omega) (by decide) dX2_putJoined_16 (fun H locs hP hD hS => ?_)
  have b_4 : ∀ k, (upN rr q1 (wbit (rr q1) q2 q3)) k ≤ 511 := upN_le bRr (Nat.le_of_lt_succ (wbit_lt (Nat.lt_succ_of_le (bRr _)) h2))
  have hP : va_P (dC, dI) vwCl [(aR, .inr (2, [.ref aRb, .ref aRr, .ref aRa])), (aRr, .inl (cI, 9, .inl (nF (upN rr q1 (wbit (rr q1) q2 q3))))), (aRa, .inl (cI, 9, .inl (nF ra)))] H := hP
  have hD : va_D A [(aR, .inr (2, [.ref aRb, .ref aRr, .ref aRa])), (aRr, .inl (cI, 9, .inl (nF (upN rr q1 (wbit (rr q1) q2 q3))))), (aRa, .inl (cI, 9, .inl (nF ra)))] := hD
  refine lv_aload_n hx hb dX2_putJoined_17 rfl (lv_at hl 0 rfl) ?_
  refine va_get (D := (dC, dI)) (ci := 2) (v := .ref aRa) (C := RX2) (T := TX2) (N := 3) hx hb hts mX2_putJoined_inX2 hown hK hP 0 rfl rfl 2 (by decide) (hts (.fieldLink RX2 18 "LeafOrder$Rules" "rightAhead" "[I") mX2_putJoined_2) (fun _ h9 => h9) rfl dX2_putJoined_18 ?_
  refine lv_iload_n hx hb dX2_putJoined_21 rfl (lv_at hl 2 rfl) ?_
  refine lv_aload_n hx hb dX2_putJoined_22 rfl (lv_at hl 0 rfl) ?_
  refine va_get (D := (dC, dI)) (ci := 2) (v := .ref aRa) (C := RX2) (T := TX2) (N := 3) hx hb hts mX2_putJoined_inX2 hown hK hP 0 rfl rfl 2 (by decide) (hts (.fieldLink RX2 18 "LeafOrder$Rules" "rightAhead" "[I") mX2_putJoined_2) (fun _ h9 => h9) rfl dX2_putJoined_23 ?_
  refine lv_iload_n hx hb dX2_putJoined_26 rfl (lv_at hl 2 rfl) ?_
  refine ln_iald (i := q2) hx hb hK hP 2 0 rfl rfl (by omega) (by decide) dX2_putJoined_27 ?_
  have b_5 := bRa q2
  refine lv_iload_n hx hb dX2_putJoined_28 rfl (lv_at hl 1 rfl) ?_
  refine lv_iload_n hx hb dX2_putJoined_29 rfl (lv_at hl 3 rfl) ?_
  refine vp_callSi (W.runS (As := [.int (nI (ra q2)), .int (nI q1), .int (nI q3)]) (rest := [.int (nI q2), .ref aRa]) ⟨hx, hb, hml, hown, hts⟩ (k_X2_withBit l dC dI cI cZ (ra q2) q1 q3 (by omega) (by omega)) (va_cwS 3 hts gX2_putJoined_X2_withBit rfl rfl rfl (by decide +kernel) ⟨Nat.le_of_ble_eq_true rfl, Nat.le_of_ble_eq_true rfl⟩) ln_preS0 rfl rfl hl.1 rfl (lv_room (Nat.le_of_ble_eq_true rfl)) dX2_putJoined_30 ⟨Nat.le_of_ble_eq_true rfl, Nat.le_of_ble_eq_true rfl⟩) (fun r_6 w_7 => ?_)
  subst w_7
  refine ln_iast (i := q2) hx hb hK hP hD hS 2 0 rfl rfl (by omega) (by decide) dX2_putJoined_33 (fun H locs hP hD hS => ?_)
  have b_8 : ∀ k, (upN ra q2 (wbit (ra q2) q1 q3)) k ≤ 511 := upN_le bRa (Nat.le_of_lt_succ (wbit_lt (Nat.lt_succ_of_le (bRa _)) h1))
  have hP : va_P (dC, dI) vwCl [(aR, .inr (2, [.ref aRb, .ref aRr, .ref aRa])), (aRr, .inl (cI, 9, .inl (nF (upN rr q1 (wbit (rr q1) q2 q3))))), (aRa, .inl (cI, 9, .inl (nF (upN ra q2 (wbit (ra q2) q1 q3)))))] H := hP
  have hD : va_D A [(aR, .inr (2, [.ref aRb, .ref aRr, .ref aRa])), (aRr, .inl (cI, 9, .inl (nF (upN rr q1 (wbit (rr q1) q2 q3))))), (aRa, .inl (cI, 9, .inl (nF (upN ra q2 (wbit (ra q2) q1 q3)))))] := hD
  exact W.vret hx hb hr (fun t ht hW => ⟨⟨(upN rr q1 (wbit (rr q1) q2 q3), upN ra q2 (wbit (ra q2) q1 q3)), rfl, ⟨rfl, rfl, b_4, b_8⟩, by rw [ht]; exact hP, hD⟩, hS.F ht⟩) hS.2.2 dX2_putJoined_34
set_option maxHeartbeats 4000000 in
set_option maxRecDepth 100000 in
theorem k_X5_isWithin (l : Launch) (dC : Nat → ClassId) (dI : Nat → Nat → Nat) (cI cZ : ClassId) (x1 : Int32) (k1 : Nat) (hk1 : k1 < 2147483647) : Met l yX5_isWithin wsX5_isWithin { frames := 0, cells := 0, slots := 0, locals := 0 } (va_Pc [.int x1, .int (nI k1)] (fun _ => True)) (vp_Si (fun r => (r = nI 1 ∧ (isN x1 (k1 + 1))) ∨ (r = nI 0 ∧ ¬ (isN x1 (k1 + 1))))) 0 0 (fun _ => False) := by
  refine Met.ofW (cc := cX5_isWithin) (maxL := 2) (ret := (some .boolean)) (by decide) rfl ?_
  intro p e s m args below meth c s₁ B hml hv
  obtain ⟨rfl, -⟩ := hv
  have hx := B.exec
  have hb := B.bytes
  have hr := B.returns
  have hts := atoms_spec (ws := wsX5_isWithin) B.pre
  have hown : s.vm.findClass RX5 = some m.cls := findClass_of_methodNamed B.named
  have hlocks := B.notSynchronized
  have hl := lv_entry ([.int x1, .int (nI k1)]) (n := 2) (Nat.le_of_ble_eq_true rfl)
  rw [lg_entry_eq]
  generalize (lg_sl ([.int x1, .int (nI k1)]) ++ List.replicate (2 - (lg_sl ([.int x1, .int (nI k1)])).length) Slot.unset).toArray = ls at hl ⊢
  have hl : lv_has ls 2 [(0, .int x1), (1, .int (nI k1))] := hl
  refine lv_iload_n hx hb dX5_isWithin_0 rfl (lv_at hl 0 rfl) ?_
  refine lv_if_lt (tgt := 13) hx hb dX5_isWithin_1 (by decide) (fun c_1 => ?_) (fun c_1 => ?_)
  · refine lv_iconst (v := nI 0) hx hb dX5_isWithin_13 (by decide) ?_
    exact W.zret (v := (nI 0)) hx hb hr (by decide) (fun t ht hW => ⟨(nI 0), rfl, Or.inr ⟨rfl, (by first | exact isN_n0 (by assumption) (by omega) | exact isN_n1 (by assumption) (by omega))⟩, ht⟩) (fun _ h => by cases h) dX5_isWithin_14
  · refine lv_iload_n hx hb dX5_isWithin_4 rfl (lv_at hl 0 rfl) ?_
    refine lv_iload_n hx hb dX5_isWithin_5 rfl (lv_at hl 1 rfl) ?_
    refine lv_icmp_gt (tgt := 13) hx hb dX5_isWithin_6 (by decide) (fun c_2 => ?_) (fun c_2 => ?_)
    · refine lv_iconst (v := nI 0) hx hb dX5_isWithin_13 (by decide) ?_
      exact W.zret (v := (nI 0)) hx hb hr (by decide) (fun t ht hW => ⟨(nI 0), rfl, Or.inr ⟨rfl, (by first | exact isN_n0 (by assumption) (by omega) | exact isN_n1 (by assumption) (by omega))⟩, ht⟩) (fun _ h => by cases h) dX5_isWithin_14
    · refine lv_iconst (v := nI 1) hx hb dX5_isWithin_9 (by decide) ?_
      refine lv_goto (tgt := 14) hx hb dX5_isWithin_10 (by decide) ?_
      exact W.zret (v := (nI 1)) hx hb hr (by decide) (fun t ht hW => ⟨(nI 1), rfl, Or.inl ⟨rfl, isN_y (by assumption) (by assumption) (by omega)⟩, ht⟩) (fun _ h => by cases h) dX5_isWithin_14
set_option maxHeartbeats 4000000 in
set_option maxRecDepth 100000 in
theorem k_X5_isMark (l : Launch) (dC : Nat → ClassId) (dI : Nat → Nat → Nat) (cI cZ : ClassId) (x1 : Int32) : Met l yX5_isMark wsX5_isMark { frames := 1, cells := 0, slots := 0, locals := 21 } (va_Pc [.int x1] (fun _ => True)) (vp_Si (fun r => (r = nI 1 ∧ (isN x1 100)) ∨ (r = nI 0 ∧ ¬ (isN x1 100)))) 0 0 (fun _ => False) := by
  refine Met.ofW (cc := cX5_isMark) (maxL := 1) (ret := (some .boolean)) (by decide) rfl ?_
  intro p e s m args below meth c s₁ B hml hv
  obtain ⟨rfl, -⟩ := hv
  have hx := B.exec
  have hb := B.bytes
  have hr := B.returns
  have hts := atoms_spec (ws := wsX5_isMark) B.pre
  have hown : s.vm.findClass RX5 = some m.cls := findClass_of_methodNamed B.named
  have hlocks := B.notSynchronized
  have hl := lv_entry ([.int x1]) (n := 1) (Nat.le_of_ble_eq_true rfl)
  rw [lg_entry_eq]
  generalize (lg_sl ([.int x1]) ++ List.replicate (1 - (lg_sl ([.int x1])).length) Slot.unset).toArray = ls at hl ⊢
  have hl : lv_has ls 1 [(0, .int x1)] := hl
  refine lv_iload_n hx hb dX5_isMark_0 rfl (lv_at hl 0 rfl) ?_
  refine lv_bipush (v := nI 99) hx hb dX5_isMark_1 (by decide) ?_
  refine vp_callSi (W.runS (As := [.int x1, .int (nI 99)]) (rest := []) ⟨hx, hb, hml, hown, hts⟩ (k_X5_isWithin l dC dI cI cZ x1 99 (by decide)) (va_cwS 2 hts gX5_isMark_X5_isWithin rfl rfl rfl (by decide +kernel) ⟨Nat.le_of_ble_eq_true rfl, Nat.le_of_ble_eq_true rfl⟩) ln_preS0 rfl rfl hl.1 rfl (lv_room (Nat.le_of_ble_eq_true rfl)) dX5_isMark_3 ⟨Nat.le_of_ble_eq_true rfl, Nat.le_of_ble_eq_true rfl⟩) (fun r_1 w_2 => ?_)
  rcases w_2 with ⟨rfl, c_3⟩ | ⟨rfl, c_3⟩
  · exact W.zret (v := (nI 1)) hx hb hr (by decide) (fun t ht hW => ⟨(nI 1), rfl, Or.inl ⟨rfl, (by assumption)⟩, ht⟩) (fun _ h => by cases h) dX5_isMark_6
  · exact W.zret (v := (nI 0)) hx hb hr (by decide) (fun t ht hW => ⟨(nI 0), rfl, Or.inr ⟨rfl, (by assumption)⟩, ht⟩) (fun _ h => by cases h) dX5_isMark_6
set_option maxHeartbeats 4000000 in
set_option maxRecDepth 100000 in
theorem k_X5_standOf (l : Launch) (dC : Nat → ClassId) (dI : Nat → Nat → Nat) (cI cZ : ClassId) (q1 : Nat) (q2 : Nat) (h2 : q2 < 2) : Met l yX5_standOf wsX5_standOf { frames := 0, cells := 0, slots := 0, locals := 0 } (va_Pc [.int (nI q1), .int (nI q2)] (fun _ => True)) (vp_Si (fun r => r = (nI (2 * q1 + q2)))) 0 0 (fun _ => False) := by
  refine Met.ofW (cc := cX5_standOf) (maxL := 2) (ret := (some .int)) (by decide) rfl ?_
  intro p e s m args below meth c s₁ B hml hv
  obtain ⟨rfl, -⟩ := hv
  have hx := B.exec
  have hb := B.bytes
  have hr := B.returns
  have hts := atoms_spec (ws := wsX5_standOf) B.pre
  have hown : s.vm.findClass RX5 = some m.cls := findClass_of_methodNamed B.named
  have hlocks := B.notSynchronized
  have hl := lv_entry ([.int (nI q1), .int (nI q2)]) (n := 2) (Nat.le_of_ble_eq_true rfl)
  rw [lg_entry_eq]
  generalize (lg_sl ([.int (nI q1), .int (nI q2)]) ++ List.replicate (2 - (lg_sl ([.int (nI q1), .int (nI q2)])).length) Slot.unset).toArray = ls at hl ⊢
  have hl : lv_has ls 2 [(0, .int (nI q1)), (1, .int (nI q2))] := hl
  refine lv_iconst (v := nI 2) hx hb dX5_standOf_0 (by decide) ?_
  refine lv_iload_n hx hb dX5_standOf_1 rfl (lv_at hl 0 rfl) ?_
  refine ln_imul hx hb dX5_standOf_2 ?_
  refine lv_iload_n hx hb dX5_standOf_3 rfl (lv_at hl 1 rfl) ?_
  refine ln_if_eq (tgt := 11) hx hb dX5_standOf_4 (by decide) (by omega) (fun c_1 => ?_) (fun c_1 => ?_)
  · refine lv_iconst (v := nI 0) hx hb dX5_standOf_11 (by decide) ?_
    refine ln_iadd hx hb dX5_standOf_12 ?_
    exact W.iret (v := (nI ((2 * q1) + 0))) hx hb hr (fun t ht hW => ⟨(nI ((2 * q1) + 0)), rfl, (by first | (rw [show q2 = 1 by omega]) | (rw [show q2 = 0 by omega])), ht⟩) (fun _ h => by cases h) dX5_standOf_13
  · refine lv_iconst (v := nI 1) hx hb dX5_standOf_7 (by decide) ?_
    refine lv_goto (tgt := 12) hx hb dX5_standOf_8 (by decide) ?_
    refine ln_iadd hx hb dX5_standOf_12 ?_
    exact W.iret (v := (nI ((2 * q1) + 1))) hx hb hr (fun t ht hW => ⟨(nI ((2 * q1) + 1)), rfl, (by first | (rw [show q2 = 1 by omega]) | (rw [show q2 = 0 by omega])), ht⟩) (fun _ h => by cases h) dX5_standOf_13
theorem mX5_costOrNone_0 : Cond.constant RX5 123 (1000000) ∈ wsX5_costOrNone := by decide +kernel
set_option maxHeartbeats 4000000 in
set_option maxRecDepth 100000 in
theorem k_X5_costOrNone (l : Launch) (dC : Nat → ClassId) (dI : Nat → Nat → Nat) (cI cZ : ClassId) (q1 : Nat) (h1 : q1 < 2147483648) : Met l yX5_costOrNone wsX5_costOrNone { frames := 0, cells := 0, slots := 0, locals := 0 } (va_Pc [.int (nI q1)] (fun _ => True)) (vp_Si (fun r => r = (if q1 < 1000000 then nI q1 else (-1)))) 0 0 (fun _ => False) := by
  refine Met.ofW (cc := cX5_costOrNone) (maxL := 1) (ret := (some .int)) (by decide) rfl ?_
  intro p e s m args below meth c s₁ B hml hv
  obtain ⟨rfl, -⟩ := hv
  have hx := B.exec
  have hb := B.bytes
  have hr := B.returns
  have hts := atoms_spec (ws := wsX5_costOrNone) B.pre
  have hown : s.vm.findClass RX5 = some m.cls := findClass_of_methodNamed B.named
  have hlocks := B.notSynchronized
  have hl := lv_entry ([.int (nI q1)]) (n := 1) (Nat.le_of_ble_eq_true rfl)
  rw [lg_entry_eq]
  generalize (lg_sl ([.int (nI q1)]) ++ List.replicate (1 - (lg_sl ([.int (nI q1)])).length) Slot.unset).toArray = ls at hl ⊢
  have hl : lv_has ls 1 [(0, .int (nI q1))] := hl
  refine lv_iload_n hx hb dX5_costOrNone_0 rfl (lv_at hl 0 rfl) ?_
  refine lv_ldc (v := nI 1000000) hx hb hown (hts (.constant RX5 123 (1000000)) mX5_costOrNone_0) dX5_costOrNone_1 ?_
  refine ln_icmp_ge (tgt := 10) hx hb dX5_costOrNone_3 (by decide) (by omega) (by decide) (fun c_1 => ?_) (fun c_1 => ?_)
  · refine lv_iconst (v := (-1)) hx hb dX5_costOrNone_10 (by decide) ?_
    exact W.iret (v := (-1)) hx hb hr (fun t ht hW => ⟨(-1), rfl, (by first | rw [if_pos (by omega)] | rw [if_neg (by omega)]), ht⟩) (fun _ h => by cases h) dX5_costOrNone_11
  · refine lv_iload_n hx hb dX5_costOrNone_6 rfl (lv_at hl 0 rfl) ?_
    refine lv_goto (tgt := 11) hx hb dX5_costOrNone_7 (by decide) ?_
    exact W.iret (v := (nI q1)) hx hb hr (fun t ht hW => ⟨(nI q1), rfl, (by first | rw [if_pos (by omega)] | rw [if_neg (by omega)]), ht⟩) (fun _ h => by cases h) dX5_costOrNone_11
theorem mX1_has_0 : Cond.fieldLink RX1 30 "LeafOrder$Leaves" "count" "I" ∈ wsX1_has := by decide +kernel
theorem mX1_has_inX1 : ∀ w ∈ wsX10, w ∈ wsX1_has := by decide +kernel
set_option maxHeartbeats 4000000 in
set_option maxRecDepth 100000 in
theorem k_X1_has (l : Launch) (dC : Nat → ClassId) (dI : Nat → Nat → Nat) (cI cZ : ClassId) (aL aLb aLe aLw aLc aLd aLs : Nat) (nL : Nat) (x1 : Int32) (hn : nL ≤ 9) : Met l yX1_has wsX1_has { frames := 0, cells := 0, slots := 0, locals := 0 } (va_Pc [.ref aL, .int x1] (fun U => va_P (dC, dI) vwCl [(aL, .inr (1, [.int (nI nL), .ref aLb, .ref aLe, .ref aLw, .ref aLc, .ref aLd, .ref aLs]))] U.heap ∧ lK dC dI cI cZ U)) (vp_Si (fun r => (r = nI 1 ∧ (isN x1 nL)) ∨ (r = nI 0 ∧ ¬ (isN x1 nL)))) 0 0 (fun _ => False) := by
  refine Met.ofW (cc := cX1_has) (maxL := 2) (ret := (some .boolean)) (by decide) rfl ?_
  intro p e s m args below meth c s₁ B hml hv
  obtain ⟨rfl, hP, hKK⟩ := hv
  have hK := hKK.1
  have hx := B.exec
  have hb := B.bytes
  have hr := B.returns
  have hts := atoms_spec (ws := wsX1_has) B.pre
  have hown : s.vm.findClass RX1 = some m.cls := findClass_of_methodNamed B.named
  have hlocks := B.notSynchronized
  have hl := lv_entry ([.ref aL, .int x1]) (n := 2) (Nat.le_of_ble_eq_true rfl)
  rw [lg_entry_eq]
  generalize (lg_sl ([.ref aL, .int x1]) ++ List.replicate (2 - (lg_sl ([.ref aL, .int x1])).length) Slot.unset).toArray = ls at hl ⊢
  have hl : lv_has ls 2 [(0, .ref aL), (1, .int x1)] := hl
  refine lv_iload_n hx hb dX1_has_0 rfl (lv_at hl 1 rfl) ?_
  refine lv_if_lt (tgt := 16) hx hb dX1_has_1 (by decide) (fun c_1 => ?_) (fun c_1 => ?_)
  · refine lv_iconst (v := nI 0) hx hb dX1_has_16 (by decide) ?_
    exact W.zret (v := (nI 0)) hx hb hr (by decide) (fun t ht hW => ⟨(nI 0), rfl, Or.inr ⟨rfl, (by first | exact isN_n0 (by assumption) (by omega) | exact isN_n2 (by assumption) (by omega))⟩, ht⟩) (fun _ h => by cases h) dX1_has_17
  · refine lv_iload_n hx hb dX1_has_4 rfl (lv_at hl 1 rfl) ?_
    refine lv_aload_n hx hb dX1_has_5 rfl (lv_at hl 0 rfl) ?_
    refine va_get (D := (dC, dI)) (ci := 1) (v := .int (nI nL)) (C := RX1) (T := TX1) (N := 7) hx hb hts mX1_has_inX1 hown hK hP 0 rfl rfl 0 (by decide) (hts (.fieldLink RX1 30 "LeafOrder$Leaves" "count" "I") mX1_has_0) (fun _ h9 => h9) rfl dX1_has_6 ?_
    refine lv_icmp_ge (tgt := 16) hx hb dX1_has_9 (by decide) (fun c_2 => ?_) (fun c_2 => ?_)
    · refine lv_iconst (v := nI 0) hx hb dX1_has_16 (by decide) ?_
      exact W.zret (v := (nI 0)) hx hb hr (by decide) (fun t ht hW => ⟨(nI 0), rfl, Or.inr ⟨rfl, (by first | exact isN_n0 (by assumption) (by omega) | exact isN_n2 (by assumption) (by omega))⟩, ht⟩) (fun _ h => by cases h) dX1_has_17
    · refine lv_iconst (v := nI 1) hx hb dX1_has_12 (by decide) ?_
      refine lv_goto (tgt := 17) hx hb dX1_has_13 (by decide) ?_
      exact W.zret (v := (nI 1)) hx hb hr (by decide) (fun t ht hW => ⟨(nI 1), rfl, Or.inl ⟨rfl, isN_y2 (by assumption) (by assumption) (by omega)⟩, ht⟩) (fun _ h => by cases h) dX1_has_17
theorem mX1_hasSide_0 : Cond.initialized RX5 ∈ wsX1_hasSide := by decide +kernel
theorem mX1_hasSide_1 : Cond.static yX5_isWithin ∈ wsX1_hasSide := by decide +kernel
set_option maxHeartbeats 4000000 in
set_option maxRecDepth 100000 in
theorem k_X1_hasSide (l : Launch) (dC : Nat → ClassId) (dI : Nat → Nat → Nat) (cI cZ : ClassId) (aL aLb aLe aLw aLc aLd aLs : Nat) (nL : Nat) (x1 : Int32) (x2 : Int32) (hn : nL ≤ 9) : Met l yX1_hasSide wsX1_hasSide { frames := 1, cells := 0, slots := 0, locals := 21 } (va_Pc [.ref aL, .int x1, .int x2] (fun U => va_P (dC, dI) vwCl [(aL, .inr (1, [.int (nI nL), .ref aLb, .ref aLe, .ref aLw, .ref aLc, .ref aLd, .ref aLs]))] U.heap ∧ lK dC dI cI cZ U)) (vp_Si (fun r => (r = nI 1 ∧ (isN x1 nL ∧ isN x2 2)) ∨ (r = nI 0 ∧ ¬ (isN x1 nL ∧ isN x2 2)))) 0 0 (fun _ => False) := by
  refine Met.ofW (cc := cX1_hasSide) (maxL := 3) (ret := (some .boolean)) (by decide) rfl ?_
  intro p e s m args below meth c s₁ B hml hv
  obtain ⟨rfl, hP, hKK⟩ := hv
  have hK := hKK.1
  have hx := B.exec
  have hb := B.bytes
  have hr := B.returns
  have hts := atoms_spec (ws := wsX1_hasSide) B.pre
  have hown : s.vm.findClass RX1 = some m.cls := findClass_of_methodNamed B.named
  have hlocks := B.notSynchronized
  have hl := lv_entry ([.ref aL, .int x1, .int x2]) (n := 3) (Nat.le_of_ble_eq_true rfl)
  rw [lg_entry_eq]
  generalize (lg_sl ([.ref aL, .int x1, .int x2]) ++ List.replicate (3 - (lg_sl ([.ref aL, .int x1, .int x2])).length) Slot.unset).toArray = ls at hl ⊢
  have hl : lv_has ls 3 [(0, .ref aL), (1, .int x1), (2, .int x2)] := hl
  refine lv_aload_n hx hb dX1_hasSide_0 rfl (lv_at hl 0 rfl) ?_
  refine lv_iload_n hx hb dX1_hasSide_1 rfl (lv_at hl 1 rfl) ?_
  have hPc := hP.sub (ws' := [(aL, .inr (1, [.int (nI nL), .ref aLb, .ref aLe, .ref aLw, .ref aLc, .ref aLd, .ref aLs]))]) [0] rfl
  refine vp_callSi (W.runV (As := [.int x1]) (rest := []) ⟨hx, hb, hml, hown, hts⟩ (k_X1_has l dC dI cI cZ aL aLb aLe aLw aLc aLd aLs nL x1 (by omega)) (cwV 1 hts gX1_hasSide_X1_has rfl rfl rfl (by decide +kernel) ⟨Nat.le_of_ble_eq_true rfl, Nat.le_of_ble_eq_true rfl⟩) (ln_preV (q0 := 0) (ci := 1) hPc hKK rfl rfl) rfl rfl hl.1 rfl (lv_room (Nat.le_of_ble_eq_true rfl)) dX1_hasSide_2 ⟨Nat.le_of_ble_eq_true rfl, Nat.le_of_ble_eq_true rfl⟩) (fun r_1 w_2 => ?_)
  rcases w_2 with ⟨rfl, c_3⟩ | ⟨rfl, c_3⟩
  · refine ln_if_eqF (tgt := 20) hx hb dX1_hasSide_5 (by decide) (by decide) ?_
    refine lv_iload_n hx hb dX1_hasSide_8 rfl (lv_at hl 2 rfl) ?_
    refine lv_iconst (v := nI 1) hx hb dX1_hasSide_9 (by decide) ?_
    refine vp_callSi (ln_run (va_runSN (As := [.int x2, .int (nI 1)]) (rest := []) ⟨hx, hb, hml, hown, hts⟩ (k_X5_isWithin l dC dI cI cZ x2 1 (by decide)) ⟨va_cnB 2 hts gX1_hasSide_X5_isWithin_n38 rfl rfl rfl hKK.2.1 (hts (.initialized RX5) mX1_hasSide_0) (by decide +kernel) ⟨Nat.le_of_ble_eq_true rfl, Nat.le_of_ble_eq_true rfl⟩, (hts (.static yX5_isWithin) mX1_hasSide_1), trivial⟩ ln_preS0 rfl rfl hl.1 rfl (lv_room (Nat.le_of_ble_eq_true rfl)) dX1_hasSide_10 ⟨Nat.le_of_ble_eq_true rfl, Nat.le_of_ble_eq_true rfl⟩)) (fun r_4 w_5 => ?_)
    rcases w_5 with ⟨rfl, c_6⟩ | ⟨rfl, c_6⟩
    · refine ln_if_eqF (tgt := 20) hx hb dX1_hasSide_13 (by decide) (by decide) ?_
      refine lv_iconst (v := nI 1) hx hb dX1_hasSide_16 (by decide) ?_
      refine lv_goto (tgt := 21) hx hb dX1_hasSide_17 (by decide) ?_
      exact W.zret (v := (nI 1)) hx hb hr (by decide) (fun t ht hW => ⟨(nI 1), rfl, Or.inl ⟨rfl, c_3, c_6⟩, ht⟩) (fun _ h => by cases h) dX1_hasSide_21
    · refine ln_if_eqT (tgt := 20) hx hb dX1_hasSide_13 (by decide) (by decide) ?_
      refine lv_iconst (v := nI 0) hx hb dX1_hasSide_20 (by decide) ?_
      exact W.zret (v := (nI 0)) hx hb hr (by decide) (fun t ht hW => ⟨(nI 0), rfl, Or.inr ⟨rfl, (fun q => c_6 q.2)⟩, ht⟩) (fun _ h => by cases h) dX1_hasSide_21
  · refine ln_if_eqT (tgt := 20) hx hb dX1_hasSide_5 (by decide) (by decide) ?_
    refine lv_iconst (v := nI 0) hx hb dX1_hasSide_20 (by decide) ?_
    exact W.zret (v := (nI 0)) hx hb hr (by decide) (fun t ht hW => ⟨(nI 0), rfl, Or.inr ⟨rfl, (fun q => c_3 q.1)⟩, ht⟩) (fun _ h => by cases h) dX1_hasSide_21
theorem mX1_add_0 : Cond.fieldLink RX1 30 "LeafOrder$Leaves" "count" "I" ∈ wsX1_add := by decide +kernel
theorem mX1_add_inX1 : ∀ w ∈ wsX10, w ∈ wsX1_add := by decide +kernel
theorem mX1_add_2 : Cond.fieldLink RX1 9 "LeafOrder$Leaves" "begins" "[I" ∈ wsX1_add := by decide +kernel
theorem mX1_add_3 : Cond.fieldLink RX1 15 "LeafOrder$Leaves" "ends" "[I" ∈ wsX1_add := by decide +kernel
theorem mX1_add_4 : Cond.fieldLink RX1 18 "LeafOrder$Leaves" "words" "[I" ∈ wsX1_add := by decide +kernel
set_option maxHeartbeats 4000000 in
set_option maxRecDepth 100000 in
theorem k_X1_add (l : Launch) (dC : Nat → ClassId) (dI : Nat → Nat → Nat) (cI cZ : ClassId) (aL aLb aLe aLw aLc aLd aLs : Nat) (nL : Nat) (fb : Nat → Nat) (fe : Nat → Nat) (fw : Nat → Int32) (q1 : Nat) (q2 : Nat) (q3 : Nat) (q4 : Nat) (sz : Nat) (bLb : ∀ k, fb k ≤ 99) (bLe : ∀ k, fe k ≤ 99) (hn : nL < 9) (h1 : q1 ≤ 99) (h2 : q2 ≤ 99) (h3 : q3 ≤ 99) (h4 : q4 ≤ 99) : Met l yX1_add wsX1_add { frames := 0, cells := 0, slots := 0, locals := 0 } (va_Pc [.ref aL, .int (nI q1), .int (nI q2), .int (nI q3), .int (nI q4)] (fun U => U.heap.size = sz ∧ va_P (dC, dI) vwCl [(aL, .inr (1, [.int (nI nL), .ref aLb, .ref aLe, .ref aLw, .ref aLc, .ref aLd, .ref aLs])), (aLb, .inl (cI, 18, .inl (nF fb))), (aLe, .inl (cI, 18, .inl (nF fe))), (aLw, .inl (cI, 18, .inl fw))] U.heap ∧ lK dC dI cI cZ U ∧ va_D (fun _ => True) [(aL, .inr (1, [.int (nI nL), .ref aLb, .ref aLe, .ref aLw, .ref aLc, .ref aLd, .ref aLs])), (aLb, .inl (cI, 18, .inl (nF fb))), (aLe, .inl (cI, 18, .inl (nF fe))), (aLw, .inl (cI, 18, .inl fw))])) (va_Qi (fun (r : Int32) (u : (Nat) × (Nat → Nat) × (Nat → Nat) × (Nat → Int32)) => match u with | (nz, fbz, fez, fwz) => r = nI nL ∧ nz = nL + 1 ∧ fbz = upN (upN fb (2 * nL) q1) (2 * nL + 1) q3 ∧ fez = upN (upN fe (2 * nL) q2) (2 * nL + 1) q4 ∧ fwz = upd (upd fw (2 * nL) (-1)) (2 * nL + 1) (-1) ∧ (∀ k, fbz k ≤ 99) ∧ (∀ k, fez k ≤ 99)) (fun (u : (Nat) × (Nat → Nat) × (Nat → Nat) × (Nat → Int32)) (t : State) => match u with | (nz, fbz, fez, fwz) => va_P (dC, dI) vwCl [(aL, .inr (1, [.int (nI nz), .ref aLb, .ref aLe, .ref aLw, .ref aLc, .ref aLd, .ref aLs])), (aLb, .inl (cI, 18, .inl (nF fbz))), (aLe, .inl (cI, 18, .inl (nF fez))), (aLw, .inl (cI, 18, .inl fwz))] t.heap ∧ va_D (va_A [(aL, .inr (1, [.int (nI nL), .ref aLb, .ref aLe, .ref aLw, .ref aLc, .ref aLd, .ref aLs])), (aLb, .inl (cI, 18, .inl (nF fb))), (aLe, .inl (cI, 18, .inl (nF fe))), (aLw, .inl (cI, 18, .inl fw))] sz) [(aL, .inr (1, [.int (nI nz), .ref aLb, .ref aLe, .ref aLw, .ref aLc, .ref aLd, .ref aLs])), (aLb, .inl (cI, 18, .inl (nF fbz))), (aLe, .inl (cI, 18, .inl (nF fez))), (aLw, .inl (cI, 18, .inl fwz))]) (va_A [(aL, .inr (1, [.int (nI nL), .ref aLb, .ref aLe, .ref aLw, .ref aLc, .ref aLd, .ref aLs])), (aLb, .inl (cI, 18, .inl (nF fb))), (aLe, .inl (cI, 18, .inl (nF fe))), (aLw, .inl (cI, 18, .inl fw))] sz)) 0 0 (va_A [(aL, .inr (1, [.int (nI nL), .ref aLb, .ref aLe, .ref aLw, .ref aLc, .ref aLd, .ref aLs])), (aLb, .inl (cI, 18, .inl (nF fb))), (aLe, .inl (cI, 18, .inl (nF fe))), (aLw, .inl (cI, 18, .inl fw))] sz) := by
  refine Met.ofW (cc := cX1_add) (maxL := 6) (ret := (some .int)) (by decide) rfl ?_
  intro p e s m args below meth c s₁ B hml hv
  obtain ⟨rfl, hsz, hP, hKK, hD0⟩ := hv
  have hK := hKK.1
  have hx := B.exec
  have hb := B.bytes
  have hr := B.returns
  have hts := atoms_spec (ws := wsX1_add) B.pre
  have hown : s.vm.findClass RX1 = some m.cls := findClass_of_methodNamed B.named
  have hlocks := B.notSynchronized
  subst hsz
  have hD := hD0.self (sz := s.heap.size)
  generalize hAe : va_A [(aL, .inr (1, [.int (nI nL), .ref aLb, .ref aLe, .ref aLw, .ref aLc, .ref aLd, .ref aLs])), (aLb, .inl (cI, 18, .inl (nF fb))), (aLe, .inl (cI, 18, .inl (nF fe))), (aLw, .inl (cI, 18, .inl fw))] s.heap.size = A at hD ⊢
  have hA : ∀ q : Nat, s.heap.size ≤ q → A q := fun q h => by rw [← hAe]; exact Or.inr h
  have hS : va_S A s.heap s.heap [] := va_S.rf
  have hl := lv_entry ([.ref aL, .int (nI q1), .int (nI q2), .int (nI q3), .int (nI q4)]) (n := 6) (Nat.le_of_ble_eq_true rfl)
  rw [lg_entry_eq]
  generalize (lg_sl ([.ref aL, .int (nI q1), .int (nI q2), .int (nI q3), .int (nI q4)]) ++ List.replicate (6 - (lg_sl ([.ref aL, .int (nI q1), .int (nI q2), .int (nI q3), .int (nI q4)])).length) Slot.unset).toArray = ls at hl ⊢
  have hl : lv_has ls 6 [(0, .ref aL), (1, .int (nI q1)), (2, .int (nI q2)), (3, .int (nI q3)), (4, .int (nI q4))] := hl
  refine lv_iconst (v := nI 2) hx hb dX1_add_0 (by decide) ?_
  refine lv_aload_n hx hb dX1_add_1 rfl (lv_at hl 0 rfl) ?_
  refine va_get (D := (dC, dI)) (ci := 1) (v := .int (nI nL)) (C := RX1) (T := TX1) (N := 7) hx hb hts mX1_add_inX1 hown hK hP 0 rfl rfl 0 (by decide) (hts (.fieldLink RX1 30 "LeafOrder$Leaves" "count" "I") mX1_add_0) (fun _ h9 => h9) rfl dX1_add_2 ?_
  refine ln_imul hx hb dX1_add_5 ?_
  refine lv_istore (lv' := [(5, .int (nI (2 * nL))), (0, .ref aL), (1, .int (nI q1)), (2, .int (nI q2)), (3, .int (nI q3)), (4, .int (nI q4))]) hx hb dX1_add_6 hl (by decide) rfl (fun ls hl => ?_)
  refine lv_aload_n hx hb dX1_add_8 rfl (lv_at hl 1 rfl) ?_
  refine va_get (D := (dC, dI)) (ci := 1) (v := .ref aLb) (C := RX1) (T := TX1) (N := 7) hx hb hts mX1_add_inX1 hown hK hP 0 rfl rfl 1 (by decide) (hts (.fieldLink RX1 9 "LeafOrder$Leaves" "begins" "[I") mX1_add_2) (fun _ h9 => h9) rfl dX1_add_9 ?_
  refine lv_iload hx hb dX1_add_12 (lv_at hl 0 rfl) ?_
  refine lv_iload_n hx hb dX1_add_14 rfl (lv_at hl 2 rfl) ?_
  refine ln_iast (i := 2 * nL) hx hb hK hP hD hS 1 0 rfl rfl (by omega) (by decide) dX1_add_15 (fun H locs hP hD hS => ?_)
  have b_1 : ∀ k, (upN fb (2 * nL) q1) k ≤ 99 := upN_le bLb (by omega)
  have hP : va_P (dC, dI) vwCl [(aL, .inr (1, [.int (nI nL), .ref aLb, .ref aLe, .ref aLw, .ref aLc, .ref aLd, .ref aLs])), (aLb, .inl (cI, 18, .inl (nF (upN fb (2 * nL) q1)))), (aLe, .inl (cI, 18, .inl (nF fe))), (aLw, .inl (cI, 18, .inl fw))] H := hP
  have hD : va_D A [(aL, .inr (1, [.int (nI nL), .ref aLb, .ref aLe, .ref aLw, .ref aLc, .ref aLd, .ref aLs])), (aLb, .inl (cI, 18, .inl (nF (upN fb (2 * nL) q1)))), (aLe, .inl (cI, 18, .inl (nF fe))), (aLw, .inl (cI, 18, .inl fw))] := hD
  refine lv_aload_n hx hb dX1_add_16 rfl (lv_at hl 1 rfl) ?_
  refine va_get (D := (dC, dI)) (ci := 1) (v := .ref aLe) (C := RX1) (T := TX1) (N := 7) hx hb hts mX1_add_inX1 hown hK hP 0 rfl rfl 2 (by decide) (hts (.fieldLink RX1 15 "LeafOrder$Leaves" "ends" "[I") mX1_add_3) (fun _ h9 => h9) rfl dX1_add_17 ?_
  refine lv_iload hx hb dX1_add_20 (lv_at hl 0 rfl) ?_
  refine lv_iload_n hx hb dX1_add_22 rfl (lv_at hl 3 rfl) ?_
  refine ln_iast (i := 2 * nL) hx hb hK hP hD hS 2 0 rfl rfl (by omega) (by decide) dX1_add_23 (fun H locs hP hD hS => ?_)
  have b_2 : ∀ k, (upN fe (2 * nL) q2) k ≤ 99 := upN_le bLe (by omega)
  have hP : va_P (dC, dI) vwCl [(aL, .inr (1, [.int (nI nL), .ref aLb, .ref aLe, .ref aLw, .ref aLc, .ref aLd, .ref aLs])), (aLb, .inl (cI, 18, .inl (nF (upN fb (2 * nL) q1)))), (aLe, .inl (cI, 18, .inl (nF (upN fe (2 * nL) q2)))), (aLw, .inl (cI, 18, .inl fw))] H := hP
  have hD : va_D A [(aL, .inr (1, [.int (nI nL), .ref aLb, .ref aLe, .ref aLw, .ref aLc, .ref aLd, .ref aLs])), (aLb, .inl (cI, 18, .inl (nF (upN fb (2 * nL) q1)))), (aLe, .inl (cI, 18, .inl (nF (upN fe (2 * nL) q2)))), (aLw, .inl (cI, 18, .inl fw))] := hD
  refine lv_aload_n hx hb dX1_add_24 rfl (lv_at hl 1 rfl) ?_
  refine va_get (D := (dC, dI)) (ci := 1) (v := .ref aLw) (C := RX1) (T := TX1) (N := 7) hx hb hts mX1_add_inX1 hown hK hP 0 rfl rfl 3 (by decide) (hts (.fieldLink RX1 18 "LeafOrder$Leaves" "words" "[I") mX1_add_4) (fun _ h9 => h9) rfl dX1_add_25 ?_
  refine lv_iload hx hb dX1_add_28 (lv_at hl 0 rfl) ?_
  refine lv_iconst (v := (-1)) hx hb dX1_add_30 (by decide) ?_
  refine ln_iastI (i := 2 * nL) hx hb hK hP hD hS 3 0 rfl rfl (by omega) (by decide) dX1_add_31 (fun H locs hP hD hS => ?_)
  have hP : va_P (dC, dI) vwCl [(aL, .inr (1, [.int (nI nL), .ref aLb, .ref aLe, .ref aLw, .ref aLc, .ref aLd, .ref aLs])), (aLb, .inl (cI, 18, .inl (nF (upN fb (2 * nL) q1)))), (aLe, .inl (cI, 18, .inl (nF (upN fe (2 * nL) q2)))), (aLw, .inl (cI, 18, .inl (upd fw (2 * nL) (-1))))] H := hP
  have hD : va_D A [(aL, .inr (1, [.int (nI nL), .ref aLb, .ref aLe, .ref aLw, .ref aLc, .ref aLd, .ref aLs])), (aLb, .inl (cI, 18, .inl (nF (upN fb (2 * nL) q1)))), (aLe, .inl (cI, 18, .inl (nF (upN fe (2 * nL) q2)))), (aLw, .inl (cI, 18, .inl (upd fw (2 * nL) (-1))))] := hD
  refine lv_aload_n hx hb dX1_add_32 rfl (lv_at hl 1 rfl) ?_
  refine va_get (D := (dC, dI)) (ci := 1) (v := .ref aLb) (C := RX1) (T := TX1) (N := 7) hx hb hts mX1_add_inX1 hown hK hP 0 rfl rfl 1 (by decide) (hts (.fieldLink RX1 9 "LeafOrder$Leaves" "begins" "[I") mX1_add_2) (fun _ h9 => h9) rfl dX1_add_33 ?_
  refine lv_iload hx hb dX1_add_36 (lv_at hl 0 rfl) ?_
  refine lv_iconst (v := nI 1) hx hb dX1_add_38 (by decide) ?_
  refine ln_iadd hx hb dX1_add_39 ?_
  refine lv_iload_n hx hb dX1_add_40 rfl (lv_at hl 4 rfl) ?_
  refine ln_iast (i := (2 * nL) + 1) hx hb hK hP hD hS 1 0 rfl rfl (by omega) (by decide) dX1_add_41 (fun H locs hP hD hS => ?_)
  have b_3 : ∀ k, (upN (upN fb (2 * nL) q1) ((2 * nL) + 1) q3) k ≤ 99 := upN_le b_1 (by omega)
  have hP : va_P (dC, dI) vwCl [(aL, .inr (1, [.int (nI nL), .ref aLb, .ref aLe, .ref aLw, .ref aLc, .ref aLd, .ref aLs])), (aLb, .inl (cI, 18, .inl (nF (upN (upN fb (2 * nL) q1) ((2 * nL) + 1) q3)))), (aLe, .inl (cI, 18, .inl (nF (upN fe (2 * nL) q2)))), (aLw, .inl (cI, 18, .inl (upd fw (2 * nL) (-1))))] H := hP
  have hD : va_D A [(aL, .inr (1, [.int (nI nL), .ref aLb, .ref aLe, .ref aLw, .ref aLc, .ref aLd, .ref aLs])), (aLb, .inl (cI, 18, .inl (nF (upN (upN fb (2 * nL) q1) ((2 * nL) + 1) q3)))), (aLe, .inl (cI, 18, .inl (nF (upN fe (2 * nL) q2)))), (aLw, .inl (cI, 18, .inl (upd fw (2 * nL) (-1))))] := hD
  refine lv_aload_n hx hb dX1_add_42 rfl (lv_at hl 1 rfl) ?_
  refine va_get (D := (dC, dI)) (ci := 1) (v := .ref aLe) (C := RX1) (T := TX1) (N := 7) hx hb hts mX1_add_inX1 hown hK hP 0 rfl rfl 2 (by decide) (hts (.fieldLink RX1 15 "LeafOrder$Leaves" "ends" "[I") mX1_add_3) (fun _ h9 => h9) rfl dX1_add_43 ?_
  refine lv_iload hx hb dX1_add_46 (lv_at hl 0 rfl) ?_
  refine lv_iconst (v := nI 1) hx hb dX1_add_48 (by decide) ?_
  refine ln_iadd hx hb dX1_add_49 ?_
  refine lv_iload hx hb dX1_add_50 (lv_at hl 5 rfl) ?_
  refine ln_iast (i := (2 * nL) + 1) hx hb hK hP hD hS 2 0 rfl rfl (by omega) (by decide) dX1_add_52 (fun H locs hP hD hS => ?_)
  have b_4 : ∀ k, (upN (upN fe (2 * nL) q2) ((2 * nL) + 1) q4) k ≤ 99 := upN_le b_2 (by omega)
  have hP : va_P (dC, dI) vwCl [(aL, .inr (1, [.int (nI nL), .ref aLb, .ref aLe, .ref aLw, .ref aLc, .ref aLd, .ref aLs])), (aLb, .inl (cI, 18, .inl (nF (upN (upN fb (2 * nL) q1) ((2 * nL) + 1) q3)))), (aLe, .inl (cI, 18, .inl (nF (upN (upN fe (2 * nL) q2) ((2 * nL) + 1) q4)))), (aLw, .inl (cI, 18, .inl (upd fw (2 * nL) (-1))))] H := hP
  have hD : va_D A [(aL, .inr (1, [.int (nI nL), .ref aLb, .ref aLe, .ref aLw, .ref aLc, .ref aLd, .ref aLs])), (aLb, .inl (cI, 18, .inl (nF (upN (upN fb (2 * nL) q1) ((2 * nL) + 1) q3)))), (aLe, .inl (cI, 18, .inl (nF (upN (upN fe (2 * nL) q2) ((2 * nL) + 1) q4)))), (aLw, .inl (cI, 18, .inl (upd fw (2 * nL) (-1))))] := hD
  refine lv_aload_n hx hb dX1_add_53 rfl (lv_at hl 1 rfl) ?_
  refine va_get (D := (dC, dI)) (ci := 1) (v := .ref aLw) (C := RX1) (T := TX1) (N := 7) hx hb hts mX1_add_inX1 hown hK hP 0 rfl rfl 3 (by decide) (hts (.fieldLink RX1 18 "LeafOrder$Leaves" "words" "[I") mX1_add_4) (fun _ h9 => h9) rfl dX1_add_54 ?_
  refine lv_iload hx hb dX1_add_57 (lv_at hl 0 rfl) ?_
  refine lv_iconst (v := nI 1) hx hb dX1_add_59 (by decide) ?_
  refine ln_iadd hx hb dX1_add_60 ?_
  refine lv_iconst (v := (-1)) hx hb dX1_add_61 (by decide) ?_
  refine ln_iastI (i := (2 * nL) + 1) hx hb hK hP hD hS 3 0 rfl rfl (by omega) (by decide) dX1_add_62 (fun H locs hP hD hS => ?_)
  have hP : va_P (dC, dI) vwCl [(aL, .inr (1, [.int (nI nL), .ref aLb, .ref aLe, .ref aLw, .ref aLc, .ref aLd, .ref aLs])), (aLb, .inl (cI, 18, .inl (nF (upN (upN fb (2 * nL) q1) ((2 * nL) + 1) q3)))), (aLe, .inl (cI, 18, .inl (nF (upN (upN fe (2 * nL) q2) ((2 * nL) + 1) q4)))), (aLw, .inl (cI, 18, .inl (upd (upd fw (2 * nL) (-1)) ((2 * nL) + 1) (-1))))] H := hP
  have hD : va_D A [(aL, .inr (1, [.int (nI nL), .ref aLb, .ref aLe, .ref aLw, .ref aLc, .ref aLd, .ref aLs])), (aLb, .inl (cI, 18, .inl (nF (upN (upN fb (2 * nL) q1) ((2 * nL) + 1) q3)))), (aLe, .inl (cI, 18, .inl (nF (upN (upN fe (2 * nL) q2) ((2 * nL) + 1) q4)))), (aLw, .inl (cI, 18, .inl (upd (upd fw (2 * nL) (-1)) ((2 * nL) + 1) (-1))))] := hD
  refine lv_aload_n hx hb dX1_add_63 rfl (lv_at hl 1 rfl) ?_
  refine lv_dup hx hb dX1_add_64 rfl ?_
  refine va_get (D := (dC, dI)) (ci := 1) (v := .int (nI nL)) (C := RX1) (T := TX1) (N := 7) hx hb hts mX1_add_inX1 hown hK hP 0 rfl rfl 0 (by decide) (hts (.fieldLink RX1 30 "LeafOrder$Leaves" "count" "I") mX1_add_0) (fun _ h9 => h9) rfl dX1_add_65 ?_
  refine lv_iconst (v := nI 1) hx hb dX1_add_68 (by decide) ?_
  refine ln_iadd hx hb dX1_add_69 ?_
  refine va_put (D := (dC, dI)) (ci := 1) (v := .int (nI (nL + 1))) (ty := .int) (C := RX1) (T := TX1) (N := 7) hx hb hts mX1_add_inX1 tyX1 tyX1_ok nmX1 hown hK hP hD hS 0 rfl rfl 0 (by decide) (hts (.fieldLink RX1 30 "LeafOrder$Leaves" "count" "I") mX1_add_0) (fun _ h9 => h9) rfl (by decide +kernel) rfl rfl (Nat.le_of_ble_eq_true rfl) dX1_add_70 (fun H locs hP hD hS => ?_)
  have hP : va_P (dC, dI) vwCl [(aL, .inr (1, [.int (nI (nL + 1)), .ref aLb, .ref aLe, .ref aLw, .ref aLc, .ref aLd, .ref aLs])), (aLb, .inl (cI, 18, .inl (nF (upN (upN fb (2 * nL) q1) ((2 * nL) + 1) q3)))), (aLe, .inl (cI, 18, .inl (nF (upN (upN fe (2 * nL) q2) ((2 * nL) + 1) q4)))), (aLw, .inl (cI, 18, .inl (upd (upd fw (2 * nL) (-1)) ((2 * nL) + 1) (-1))))] H := hP
  have hD : va_D A [(aL, .inr (1, [.int (nI (nL + 1)), .ref aLb, .ref aLe, .ref aLw, .ref aLc, .ref aLd, .ref aLs])), (aLb, .inl (cI, 18, .inl (nF (upN (upN fb (2 * nL) q1) ((2 * nL) + 1) q3)))), (aLe, .inl (cI, 18, .inl (nF (upN (upN fe (2 * nL) q2) ((2 * nL) + 1) q4)))), (aLw, .inl (cI, 18, .inl (upd (upd fw (2 * nL) (-1)) ((2 * nL) + 1) (-1))))] := hD
  refine lv_aload_n hx hb dX1_add_73 rfl (lv_at hl 1 rfl) ?_
  refine va_get (D := (dC, dI)) (ci := 1) (v := .int (nI (nL + 1))) (C := RX1) (T := TX1) (N := 7) hx hb hts mX1_add_inX1 hown hK hP 0 rfl rfl 0 (by decide) (hts (.fieldLink RX1 30 "LeafOrder$Leaves" "count" "I") mX1_add_0) (fun _ h9 => h9) rfl dX1_add_74 ?_
  refine lv_iconst (v := nI 1) hx hb dX1_add_77 (by decide) ?_
  refine ln_isub hx hb dX1_add_78 (by omega) ?_
  exact W.iret (v := (nI ((nL + 1) - 1))) hx hb hr (fun t ht hW => ⟨⟨(nI ((nL + 1) - 1)), (nL + 1, upN (upN fb (2 * nL) q1) ((2 * nL) + 1) q3, upN (upN fe (2 * nL) q2) ((2 * nL) + 1) q4, upd (upd fw (2 * nL) (-1)) ((2 * nL) + 1) (-1)), rfl, ⟨rfl, rfl, rfl, rfl, rfl, b_3, b_4⟩, by rw [ht]; exact hP, hD⟩, hS.F ht⟩) hS.2.2 dX1_add_79
theorem mX5_leaf_0 : Cond.fieldLink RX5 12 "LeafOrder" "pile" "LLeafOrder$Leaves;" ∈ wsX5_leaf := by decide +kernel
theorem mX5_leaf_inX5 : ∀ w ∈ wsX50, w ∈ wsX5_leaf := by decide +kernel
theorem mX5_leaf_2 : Cond.fieldLink RX5 61 "LeafOrder$Leaves" "count" "I" ∈ wsX5_leaf := by decide +kernel
theorem mX5_leaf_inX1 : ∀ w ∈ wsX10, w ∈ wsX5_leaf := by decide +kernel
theorem mX5_leaf_4 : Cond.fieldLink RX5 54 "LeafOrder" "stale" "Z" ∈ wsX5_leaf := by decide +kernel
set_option maxHeartbeats 4000000 in
set_option maxRecDepth 100000 in
theorem k_X5_leaf (l : Launch) (dC : Nat → ClassId) (dI : Nat → Nat → Nat) (cI cZ : ClassId) (aX aL aC aR aS aB aLb aLe aLw aLc aLd aLs : Nat) (mt : Nat) (sa : Nat) (nL : Nat) (fb : Nat → Nat) (fe : Nat → Nat) (fw : Nat → Int32) (x1 : Int32) (x2 : Int32) (x3 : Int32) (x4 : Int32) (sz : Nat) (bLb : ∀ k, fb k ≤ 99) (bLe : ∀ k, fe k ≤ 99) (hn : nL ≤ 9) : Met l yX5_leaf wsX5_leaf { frames := 2, cells := 0, slots := 0, locals := 41 } (va_Pc [.ref aX, .int x1, .int x2, .int x3, .int x4] (fun U => U.heap.size = sz ∧ va_P (dC, dI) vwCl [(aX, .inr (5, [.ref aL, .ref aC, .ref aR, .ref aS, .ref aB, .int (nI mt), .int (nI sa)])), (aL, .inr (1, [.int (nI nL), .ref aLb, .ref aLe, .ref aLw, .ref aLc, .ref aLd, .ref aLs])), (aLb, .inl (cI, 18, .inl (nF fb))), (aLe, .inl (cI, 18, .inl (nF fe))), (aLw, .inl (cI, 18, .inl fw))] U.heap ∧ lK dC dI cI cZ U ∧ va_D (fun _ => True) [(aX, .inr (5, [.ref aL, .ref aC, .ref aR, .ref aS, .ref aB, .int (nI mt), .int (nI sa)])), (aL, .inr (1, [.int (nI nL), .ref aLb, .ref aLe, .ref aLw, .ref aLc, .ref aLd, .ref aLs])), (aLb, .inl (cI, 18, .inl (nF fb))), (aLe, .inl (cI, 18, .inl (nF fe))), (aLw, .inl (cI, 18, .inl fw))])) (va_Qi (fun (r : Int32) (u : (Nat) × (Nat) × (Nat → Nat) × (Nat → Nat) × (Nat → Int32)) => match u with | (saz, nz, fbz, fez, fwz) => r = cif (pc_leaf nL x1 x2 x3 x4) (nI nL) (-1) ∧ nz = cif (pc_leaf nL x1 x2 x3 x4) (nL + 1) nL ∧ fbz = cif (pc_leaf nL x1 x2 x3 x4) (upN (upN fb (2 * nL) (tn x1)) (2 * nL + 1) (tn x3)) fb ∧ fez = cif (pc_leaf nL x1 x2 x3 x4) (upN (upN fe (2 * nL) (tn x2)) (2 * nL + 1) (tn x4)) fe ∧ fwz = cif (pc_leaf nL x1 x2 x3 x4) (upd (upd fw (2 * nL) (-1)) (2 * nL + 1) (-1)) fw ∧ saz = cif (pc_leaf nL x1 x2 x3 x4) 1 sa ∧ (∀ k, fbz k ≤ 99) ∧ (∀ k, fez k ≤ 99)) (fun (u : (Nat) × (Nat) × (Nat → Nat) × (Nat → Nat) × (Nat → Int32)) (t : State) => match u with | (saz, nz, fbz, fez, fwz) => va_P (dC, dI) vwCl [(aX, .inr (5, [.ref aL, .ref aC, .ref aR, .ref aS, .ref aB, .int (nI mt), .int (nI saz)])), (aL, .inr (1, [.int (nI nz), .ref aLb, .ref aLe, .ref aLw, .ref aLc, .ref aLd, .ref aLs])), (aLb, .inl (cI, 18, .inl (nF fbz))), (aLe, .inl (cI, 18, .inl (nF fez))), (aLw, .inl (cI, 18, .inl fwz))] t.heap ∧ va_D (va_A [(aX, .inr (5, [.ref aL, .ref aC, .ref aR, .ref aS, .ref aB, .int (nI mt), .int (nI sa)])), (aL, .inr (1, [.int (nI nL), .ref aLb, .ref aLe, .ref aLw, .ref aLc, .ref aLd, .ref aLs])), (aLb, .inl (cI, 18, .inl (nF fb))), (aLe, .inl (cI, 18, .inl (nF fe))), (aLw, .inl (cI, 18, .inl fw))] sz) [(aX, .inr (5, [.ref aL, .ref aC, .ref aR, .ref aS, .ref aB, .int (nI mt), .int (nI saz)])), (aL, .inr (1, [.int (nI nz), .ref aLb, .ref aLe, .ref aLw, .ref aLc, .ref aLd, .ref aLs])), (aLb, .inl (cI, 18, .inl (nF fbz))), (aLe, .inl (cI, 18, .inl (nF fez))), (aLw, .inl (cI, 18, .inl fwz))]) (va_A [(aX, .inr (5, [.ref aL, .ref aC, .ref aR, .ref aS, .ref aB, .int (nI mt), .int (nI sa)])), (aL, .inr (1, [.int (nI nL), .ref aLb, .ref aLe, .ref aLw, .ref aLc, .ref aLd, .ref aLs])), (aLb, .inl (cI, 18, .inl (nF fb))), (aLe, .inl (cI, 18, .inl (nF fe))), (aLw, .inl (cI, 18, .inl fw))] sz)) 0 0 (va_A [(aX, .inr (5, [.ref aL, .ref aC, .ref aR, .ref aS, .ref aB, .int (nI mt), .int (nI sa)])), (aL, .inr (1, [.int (nI nL), .ref aLb, .ref aLe, .ref aLw, .ref aLc, .ref aLd, .ref aLs])), (aLb, .inl (cI, 18, .inl (nF fb))), (aLe, .inl (cI, 18, .inl (nF fe))), (aLw, .inl (cI, 18, .inl fw))] sz) := by
  refine Met.ofW (cc := cX5_leaf) (maxL := 6) (ret := (some .int)) (by decide) rfl ?_
  intro p e s m args below meth c s₁ B hml hv
  obtain ⟨rfl, hsz, hP, hKK, hD0⟩ := hv
  have hK := hKK.1
  have hx := B.exec
  have hb := B.bytes
  have hr := B.returns
  have hts := atoms_spec (ws := wsX5_leaf) B.pre
  have hown : s.vm.findClass RX5 = some m.cls := findClass_of_methodNamed B.named
  have hlocks := B.notSynchronized
  subst hsz
  have hD := hD0.self (sz := s.heap.size)
  generalize hAe : va_A [(aX, .inr (5, [.ref aL, .ref aC, .ref aR, .ref aS, .ref aB, .int (nI mt), .int (nI sa)])), (aL, .inr (1, [.int (nI nL), .ref aLb, .ref aLe, .ref aLw, .ref aLc, .ref aLd, .ref aLs])), (aLb, .inl (cI, 18, .inl (nF fb))), (aLe, .inl (cI, 18, .inl (nF fe))), (aLw, .inl (cI, 18, .inl fw))] s.heap.size = A at hD ⊢
  have hA : ∀ q : Nat, s.heap.size ≤ q → A q := fun q h => by rw [← hAe]; exact Or.inr h
  have hS : va_S A s.heap s.heap [] := va_S.rf
  have hl := lv_entry ([.ref aX, .int x1, .int x2, .int x3, .int x4]) (n := 6) (Nat.le_of_ble_eq_true rfl)
  rw [lg_entry_eq]
  generalize (lg_sl ([.ref aX, .int x1, .int x2, .int x3, .int x4]) ++ List.replicate (6 - (lg_sl ([.ref aX, .int x1, .int x2, .int x3, .int x4])).length) Slot.unset).toArray = ls at hl ⊢
  have hl : lv_has ls 6 [(0, .ref aX), (1, .int x1), (2, .int x2), (3, .int x3), (4, .int x4)] := hl
  refine lv_iload_n hx hb dX5_leaf_0 rfl (lv_at hl 1 rfl) ?_
  refine vp_callSi (W.runS (As := [.int x1]) (rest := []) ⟨hx, hb, hml, hown, hts⟩ (k_X5_isMark l dC dI cI cZ x1) (va_cwS 1 hts gX5_leaf_X5_isMark rfl rfl rfl (by decide +kernel) ⟨Nat.le_of_ble_eq_true rfl, Nat.le_of_ble_eq_true rfl⟩) ln_preS0 rfl rfl hl.1 rfl (lv_room (Nat.le_of_ble_eq_true rfl)) dX5_leaf_1 ⟨Nat.le_of_ble_eq_true rfl, Nat.le_of_ble_eq_true rfl⟩) (fun r_1 w_2 => ?_)
  rcases w_2 with ⟨rfl, c_3⟩ | ⟨rfl, c_3⟩
  · obtain ⟨k1, hk1, rfl⟩ := c_3
    refine ln_if_eqF (tgt := 33) hx hb dX5_leaf_4 (by decide) (by decide) ?_
    refine lv_iload_n hx hb dX5_leaf_7 rfl (lv_at hl 2 rfl) ?_
    refine vp_callSi (W.runS (As := [.int x2]) (rest := []) ⟨hx, hb, hml, hown, hts⟩ (k_X5_isMark l dC dI cI cZ x2) (va_cwS 1 hts gX5_leaf_X5_isMark rfl rfl rfl (by decide +kernel) ⟨Nat.le_of_ble_eq_true rfl, Nat.le_of_ble_eq_true rfl⟩) ln_preS0 rfl rfl hl.1 rfl (lv_room (Nat.le_of_ble_eq_true rfl)) dX5_leaf_8 ⟨Nat.le_of_ble_eq_true rfl, Nat.le_of_ble_eq_true rfl⟩) (fun r_4 w_5 => ?_)
    rcases w_5 with ⟨rfl, c_6⟩ | ⟨rfl, c_6⟩
    · obtain ⟨k2, hk2, rfl⟩ := c_6
      refine ln_if_eqF (tgt := 33) hx hb dX5_leaf_11 (by decide) (by decide) ?_
      refine lv_iload_n hx hb dX5_leaf_14 rfl (lv_at hl 3 rfl) ?_
      refine vp_callSi (W.runS (As := [.int x3]) (rest := []) ⟨hx, hb, hml, hown, hts⟩ (k_X5_isMark l dC dI cI cZ x3) (va_cwS 1 hts gX5_leaf_X5_isMark rfl rfl rfl (by decide +kernel) ⟨Nat.le_of_ble_eq_true rfl, Nat.le_of_ble_eq_true rfl⟩) ln_preS0 rfl rfl hl.1 rfl (lv_room (Nat.le_of_ble_eq_true rfl)) dX5_leaf_15 ⟨Nat.le_of_ble_eq_true rfl, Nat.le_of_ble_eq_true rfl⟩) (fun r_7 w_8 => ?_)
      rcases w_8 with ⟨rfl, c_9⟩ | ⟨rfl, c_9⟩
      · obtain ⟨k3, hk3, rfl⟩ := c_9
        refine ln_if_eqF (tgt := 33) hx hb dX5_leaf_18 (by decide) (by decide) ?_
        refine lv_iload hx hb dX5_leaf_21 (lv_at hl 4 rfl) ?_
        refine vp_callSi (W.runS (As := [.int x4]) (rest := []) ⟨hx, hb, hml, hown, hts⟩ (k_X5_isMark l dC dI cI cZ x4) (va_cwS 1 hts gX5_leaf_X5_isMark rfl rfl rfl (by decide +kernel) ⟨Nat.le_of_ble_eq_true rfl, Nat.le_of_ble_eq_true rfl⟩) ln_preS0 rfl rfl hl.1 rfl (lv_room (Nat.le_of_ble_eq_true rfl)) dX5_leaf_23 ⟨Nat.le_of_ble_eq_true rfl, Nat.le_of_ble_eq_true rfl⟩) (fun r_10 w_11 => ?_)
        rcases w_11 with ⟨rfl, c_12⟩ | ⟨rfl, c_12⟩
        · obtain ⟨k4, hk4, rfl⟩ := c_12
          refine ln_if_eqF (tgt := 33) hx hb dX5_leaf_26 (by decide) (by decide) ?_
          refine lv_iconst (v := nI 1) hx hb dX5_leaf_29 (by decide) ?_
          refine lv_goto (tgt := 34) hx hb dX5_leaf_30 (by decide) ?_
          refine lv_istore (lv' := [(5, .int (nI 1)), (0, .ref aX), (1, .int (nI k1)), (2, .int (nI k2)), (3, .int (nI k3)), (4, .int (nI k4))]) hx hb dX5_leaf_34 hl (by decide) rfl (fun ls hl => ?_)
          refine lv_iload hx hb dX5_leaf_36 (lv_at hl 0 rfl) ?_
          refine ln_if_eqF (tgt := 53) hx hb dX5_leaf_38 (by decide) (by decide) ?_
          refine lv_aload_n hx hb dX5_leaf_41 rfl (lv_at hl 1 rfl) ?_
          refine va_get (D := (dC, dI)) (ci := 5) (v := .ref aL) (C := RX5) (T := TX5) (N := 7) hx hb hts mX5_leaf_inX5 hown hK hP 0 rfl rfl 0 (by decide) (hts (.fieldLink RX5 12 "LeafOrder" "pile" "LLeafOrder$Leaves;") mX5_leaf_0) (fun _ h9 => h9) rfl dX5_leaf_42 ?_
          refine va_get (D := (dC, dI)) (ci := 1) (v := .int (nI nL)) (C := RX1) (T := TX1) (N := 7) hx hb hts mX5_leaf_inX1 hown hK hP 1 rfl rfl 0 (by decide) (hts (.fieldLink RX5 61 "LeafOrder$Leaves" "count" "I") mX5_leaf_2) (fun _ h9 => h9) rfl dX5_leaf_45 ?_
          refine lv_bipush (v := nI 9) hx hb dX5_leaf_48 (by decide) ?_
          refine ln_icmp_lt (tgt := 55) hx hb dX5_leaf_50 (by decide) (by omega) (by decide) (fun c_13 => ?_) (fun c_13 => ?_)
          · refine lv_aload_n hx hb dX5_leaf_55 rfl (lv_at hl 1 rfl) ?_
            refine lv_iconst (v := nI 1) hx hb dX5_leaf_56 (by decide) ?_
            refine va_put (D := (dC, dI)) (ci := 5) (v := .int (nI 1)) (ty := .boolean) (C := RX5) (T := TX5) (N := 7) hx hb hts mX5_leaf_inX5 tyX5 tyX5_ok nmX5 hown hK hP hD hS 0 rfl rfl 6 (by decide) (hts (.fieldLink RX5 54 "LeafOrder" "stale" "Z") mX5_leaf_4) (fun _ h9 => h9) rfl (by decide +kernel) rfl rfl (Nat.le_of_ble_eq_true rfl) dX5_leaf_57 (fun H locs hP hD hS => ?_)
            have hP : va_P (dC, dI) vwCl [(aX, .inr (5, [.ref aL, .ref aC, .ref aR, .ref aS, .ref aB, .int (nI mt), .int (nI 1)])), (aL, .inr (1, [.int (nI nL), .ref aLb, .ref aLe, .ref aLw, .ref aLc, .ref aLd, .ref aLs])), (aLb, .inl (cI, 18, .inl (nF fb))), (aLe, .inl (cI, 18, .inl (nF fe))), (aLw, .inl (cI, 18, .inl fw))] H := hP
            have hD : va_D A [(aX, .inr (5, [.ref aL, .ref aC, .ref aR, .ref aS, .ref aB, .int (nI mt), .int (nI 1)])), (aL, .inr (1, [.int (nI nL), .ref aLb, .ref aLe, .ref aLw, .ref aLc, .ref aLd, .ref aLs])), (aLb, .inl (cI, 18, .inl (nF fb))), (aLe, .inl (cI, 18, .inl (nF fe))), (aLw, .inl (cI, 18, .inl fw))] := hD
            refine lv_aload_n hx hb dX5_leaf_60 rfl (lv_at hl 1 rfl) ?_
            refine va_get (D := (dC, dI)) (ci := 5) (v := .ref aL) (C := RX5) (T := TX5) (N := 7) hx hb hts mX5_leaf_inX5 hown hK hP 0 rfl rfl 0 (by decide) (hts (.fieldLink RX5 12 "LeafOrder" "pile" "LLeafOrder$Leaves;") mX5_leaf_0) (fun _ h9 => h9) rfl dX5_leaf_61 ?_
            refine lv_iload_n hx hb dX5_leaf_64 rfl (lv_at hl 2 rfl) ?_
            refine lv_iload_n hx hb dX5_leaf_65 rfl (lv_at hl 3 rfl) ?_
            refine lv_iload_n hx hb dX5_leaf_66 rfl (lv_at hl 4 rfl) ?_
            refine lv_iload hx hb dX5_leaf_67 (lv_at hl 5 rfl) ?_
            have hPc := hP.sub (ws' := [(aL, .inr (1, [.int (nI nL), .ref aLb, .ref aLe, .ref aLw, .ref aLc, .ref aLd, .ref aLs])), (aLb, .inl (cI, 18, .inl (nF fb))), (aLe, .inl (cI, 18, .inl (nF fe))), (aLw, .inl (cI, 18, .inl fw))]) [1, 2, 3, 4] rfl
            have hDc := hD.sub (ws' := [(aL, .inr (1, [.int (nI nL), .ref aLb, .ref aLe, .ref aLw, .ref aLc, .ref aLd, .ref aLs])), (aLb, .inl (cI, 18, .inl (nF fb))), (aLe, .inl (cI, 18, .inl (nF fe))), (aLw, .inl (cI, 18, .inl fw))]) [1, 2, 3, 4] (by decide) rfl
            have hFc := va_free (wc := [(aL, .inr (1, [.int (nI nL), .ref aLb, .ref aLe, .ref aLw, .ref aLc, .ref aLd, .ref aLs])), (aLb, .inl (cI, 18, .inl (nF fb))), (aLe, .inl (cI, 18, .inl (nF fe))), (aLw, .inl (cI, 18, .inl fw))]) hD hS hA [1, 2, 3, 4] rfl
            refine va_calli (va_runV (As := [.int (nI k1), .int (nI k2), .int (nI k3), .int (nI k4)]) (rest := []) ⟨hx, hb, hml, hown, hts⟩ (k_X1_add l dC dI cI cZ aL aLb aLe aLw aLc aLd aLs nL fb fe fw k1 k2 k3 k4 H.size bLb bLe (by omega) (by omega) (by omega) (by omega) (by omega)) (cwV 4 hts gX5_leaf_X1_add rfl rfl rfl (by decide +kernel) ⟨Nat.le_of_ble_eq_true rfl, Nat.le_of_ble_eq_true rfl⟩) (ln_preVM (q0 := 0) (ci := 1) hPc hKK hDc rfl rfl) rfl rfl hl.1 rfl (lv_room (Nat.le_of_ble_eq_true rfl)) dX5_leaf_69 ⟨Nat.le_of_ble_eq_true rfl, Nat.le_of_ble_eq_true rfl⟩) hS (fun q _ h => hFc q h) hFc (fun r_14 u t H1 locs ht hvm w_15 hB hzH hkH hS => ?_)
            obtain ⟨nz_16, fbz_17, fez_18, fwz_19⟩ := u
            obtain ⟨hP1, hD1⟩ := hB
            rw [ht] at hP1
            try dsimp only at w_15
            obtain ⟨hP, hD⟩ := va_join (wr := [(aX, .inr (5, [.ref aL, .ref aC, .ref aR, .ref aS, .ref aB, .int (nI mt), .int (nI 1)]))]) (w1 := [(aL, .inr (1, [.int (nI nz_16), .ref aLb, .ref aLe, .ref aLw, .ref aLc, .ref aLd, .ref aLs])), (aLb, .inl (cI, 18, .inl (nF fbz_17))), (aLe, .inl (cI, 18, .inl (nF fez_18))), (aLw, .inl (cI, 18, .inl fwz_19))]) hP hD [1, 2, 3, 4] [0] rfl rfl (by decide) (by decide) hkH hFc hP1 hD1
            generalize H1 = H at hP hS ⊢
            have hP := hP.sub (ws' := [(aX, .inr (5, [.ref aL, .ref aC, .ref aR, .ref aS, .ref aB, .int (nI mt), .int (nI 1)])), (aL, .inr (1, [.int (nI nz_16), .ref aLb, .ref aLe, .ref aLw, .ref aLc, .ref aLd, .ref aLs])), (aLb, .inl (cI, 18, .inl (nF fbz_17))), (aLe, .inl (cI, 18, .inl (nF fez_18))), (aLw, .inl (cI, 18, .inl fwz_19))]) [0, 1, 2, 3, 4] rfl
            have hD := hD.sub (ws' := [(aX, .inr (5, [.ref aL, .ref aC, .ref aR, .ref aS, .ref aB, .int (nI mt), .int (nI 1)])), (aL, .inr (1, [.int (nI nz_16), .ref aLb, .ref aLe, .ref aLw, .ref aLc, .ref aLd, .ref aLs])), (aLb, .inl (cI, 18, .inl (nF fbz_17))), (aLe, .inl (cI, 18, .inl (nF fez_18))), (aLw, .inl (cI, 18, .inl fwz_19))]) [0, 1, 2, 3, 4] (by decide) rfl
            obtain ⟨rfl, ha1, ha2, ha3, ha4, ha5, ha6⟩ := w_15
            have hC : pc_leaf nL (nI k1) (nI k2) (nI k3) (nI k4) := ⟨⟨k1, hk1, rfl⟩, ⟨k2, hk2, rfl⟩, ⟨k3, hk3, rfl⟩, ⟨k4, hk4, rfl⟩, by omega⟩
            exact W.iret (v := (nI nL)) hx hb hr (fun t ht hW => ⟨⟨(nI nL), (1, nz_16, fbz_17, fez_18, fwz_19), rfl, ⟨(cif_t hC).symm, (by rw [cif_t hC]; exact ha1), (by rw [cif_t hC, tn_nI (show k1 < 2 ^ 31 by omega), tn_nI (show k3 < 2 ^ 31 by omega)]; exact ha2), (by rw [cif_t hC, tn_nI (show k2 < 2 ^ 31 by omega), tn_nI (show k4 < 2 ^ 31 by omega)]; exact ha3), (by rw [cif_t hC]; exact ha4), (cif_t hC).symm, ha5, ha6⟩, by rw [ht]; exact hP, hD⟩, hS.F ht⟩) hS.2.2 dX5_leaf_72
          · refine lv_iconst (v := (-1)) hx hb dX5_leaf_53 (by decide) ?_
            have hC : ¬ pc_leaf nL (nI k1) (nI k2) (nI k3) (nI k4) := (fun q => absurd q.2.2.2.2 (by omega))
            exact W.iret (v := (-1)) hx hb hr (fun t ht hW => ⟨⟨(-1), (sa, nL, fb, fe, fw), rfl, ⟨(cif_f hC).symm, (cif_f hC).symm, (cif_f hC).symm, (cif_f hC).symm, (cif_f hC).symm, (cif_f hC).symm, bLb, bLe⟩, by rw [ht]; exact hP, hD⟩, hS.F ht⟩) hS.2.2 dX5_leaf_54
        · refine ln_if_eqT (tgt := 33) hx hb dX5_leaf_26 (by decide) (by decide) ?_
          refine lv_iconst (v := nI 0) hx hb dX5_leaf_33 (by decide) ?_
          refine lv_istore (lv' := [(5, .int (nI 0)), (0, .ref aX), (1, .int (nI k1)), (2, .int (nI k2)), (3, .int (nI k3)), (4, .int x4)]) hx hb dX5_leaf_34 hl (by decide) rfl (fun ls hl => ?_)
          refine lv_iload hx hb dX5_leaf_36 (lv_at hl 0 rfl) ?_
          refine ln_if_eqT (tgt := 53) hx hb dX5_leaf_38 (by decide) (by decide) ?_
          refine lv_iconst (v := (-1)) hx hb dX5_leaf_53 (by decide) ?_
          have hC : ¬ pc_leaf nL (nI k1) (nI k2) (nI k3) x4 := (fun q => c_12 q.2.2.2.1)
          exact W.iret (v := (-1)) hx hb hr (fun t ht hW => ⟨⟨(-1), (sa, nL, fb, fe, fw), rfl, ⟨(cif_f hC).symm, (cif_f hC).symm, (cif_f hC).symm, (cif_f hC).symm, (cif_f hC).symm, (cif_f hC).symm, bLb, bLe⟩, by rw [ht]; exact hP, hD⟩, hS.F ht⟩) hS.2.2 dX5_leaf_54
      · refine ln_if_eqT (tgt := 33) hx hb dX5_leaf_18 (by decide) (by decide) ?_
        refine lv_iconst (v := nI 0) hx hb dX5_leaf_33 (by decide) ?_
        refine lv_istore (lv' := [(5, .int (nI 0)), (0, .ref aX), (1, .int (nI k1)), (2, .int (nI k2)), (3, .int x3), (4, .int x4)]) hx hb dX5_leaf_34 hl (by decide) rfl (fun ls hl => ?_)
        refine lv_iload hx hb dX5_leaf_36 (lv_at hl 0 rfl) ?_
        refine ln_if_eqT (tgt := 53) hx hb dX5_leaf_38 (by decide) (by decide) ?_
        refine lv_iconst (v := (-1)) hx hb dX5_leaf_53 (by decide) ?_
        have hC : ¬ pc_leaf nL (nI k1) (nI k2) x3 x4 := (fun q => c_9 q.2.2.1)
        exact W.iret (v := (-1)) hx hb hr (fun t ht hW => ⟨⟨(-1), (sa, nL, fb, fe, fw), rfl, ⟨(cif_f hC).symm, (cif_f hC).symm, (cif_f hC).symm, (cif_f hC).symm, (cif_f hC).symm, (cif_f hC).symm, bLb, bLe⟩, by rw [ht]; exact hP, hD⟩, hS.F ht⟩) hS.2.2 dX5_leaf_54
    · refine ln_if_eqT (tgt := 33) hx hb dX5_leaf_11 (by decide) (by decide) ?_
      refine lv_iconst (v := nI 0) hx hb dX5_leaf_33 (by decide) ?_
      refine lv_istore (lv' := [(5, .int (nI 0)), (0, .ref aX), (1, .int (nI k1)), (2, .int x2), (3, .int x3), (4, .int x4)]) hx hb dX5_leaf_34 hl (by decide) rfl (fun ls hl => ?_)
      refine lv_iload hx hb dX5_leaf_36 (lv_at hl 0 rfl) ?_
      refine ln_if_eqT (tgt := 53) hx hb dX5_leaf_38 (by decide) (by decide) ?_
      refine lv_iconst (v := (-1)) hx hb dX5_leaf_53 (by decide) ?_
      have hC : ¬ pc_leaf nL (nI k1) x2 x3 x4 := (fun q => c_6 q.2.1)
      exact W.iret (v := (-1)) hx hb hr (fun t ht hW => ⟨⟨(-1), (sa, nL, fb, fe, fw), rfl, ⟨(cif_f hC).symm, (cif_f hC).symm, (cif_f hC).symm, (cif_f hC).symm, (cif_f hC).symm, (cif_f hC).symm, bLb, bLe⟩, by rw [ht]; exact hP, hD⟩, hS.F ht⟩) hS.2.2 dX5_leaf_54
  · refine ln_if_eqT (tgt := 33) hx hb dX5_leaf_4 (by decide) (by decide) ?_
    refine lv_iconst (v := nI 0) hx hb dX5_leaf_33 (by decide) ?_
    refine lv_istore (lv' := [(5, .int (nI 0)), (0, .ref aX), (1, .int x1), (2, .int x2), (3, .int x3), (4, .int x4)]) hx hb dX5_leaf_34 hl (by decide) rfl (fun ls hl => ?_)
    refine lv_iload hx hb dX5_leaf_36 (lv_at hl 0 rfl) ?_
    refine ln_if_eqT (tgt := 53) hx hb dX5_leaf_38 (by decide) (by decide) ?_
    refine lv_iconst (v := (-1)) hx hb dX5_leaf_53 (by decide) ?_
    have hC : ¬ pc_leaf nL x1 x2 x3 x4 := (fun q => c_3 q.1)
    exact W.iret (v := (-1)) hx hb hr (fun t ht hW => ⟨⟨(-1), (sa, nL, fb, fe, fw), rfl, ⟨(cif_f hC).symm, (cif_f hC).symm, (cif_f hC).symm, (cif_f hC).symm, (cif_f hC).symm, (cif_f hC).symm, bLb, bLe⟩, by rw [ht]; exact hP, hD⟩, hS.F ht⟩) hS.2.2 dX5_leaf_54
theorem mX5_catchword_0 : Cond.fieldLink RX5 12 "LeafOrder" "pile" "LLeafOrder$Leaves;" ∈ wsX5_catchword := by decide +kernel
theorem mX5_catchword_inX5 : ∀ w ∈ wsX50, w ∈ wsX5_catchword := by decide +kernel
theorem mX5_catchword_2 : Cond.fieldLink RX5 73 "LeafOrder$Leaves" "words" "[I" ∈ wsX5_catchword := by decide +kernel
theorem mX5_catchword_inX1 : ∀ w ∈ wsX10, w ∈ wsX5_catchword := by decide +kernel
theorem mX5_catchword_4 : Cond.fieldLink RX5 54 "LeafOrder" "stale" "Z" ∈ wsX5_catchword := by decide +kernel
set_option maxHeartbeats 4000000 in
set_option maxRecDepth 100000 in
theorem k_X5_catchword (l : Launch) (dC : Nat → ClassId) (dI : Nat → Nat → Nat) (cI cZ : ClassId) (aX aL aC aR aS aB aLb aLe aLw aLc aLd aLs : Nat) (mt : Nat) (sa : Nat) (nL : Nat) (fw : Nat → Int32) (x1 : Int32) (x2 : Int32) (x3 : Int32) (sz : Nat) (hn : nL ≤ 9) : Met l yX5_catchword wsX5_catchword { frames := 2, cells := 0, slots := 0, locals := 43 } (va_Pc [.ref aX, .int x1, .int x2, .int x3] (fun U => U.heap.size = sz ∧ va_P (dC, dI) vwCl [(aX, .inr (5, [.ref aL, .ref aC, .ref aR, .ref aS, .ref aB, .int (nI mt), .int (nI sa)])), (aL, .inr (1, [.int (nI nL), .ref aLb, .ref aLe, .ref aLw, .ref aLc, .ref aLd, .ref aLs])), (aLw, .inl (cI, 18, .inl fw))] U.heap ∧ lK dC dI cI cZ U ∧ va_D (fun _ => True) [(aX, .inr (5, [.ref aL, .ref aC, .ref aR, .ref aS, .ref aB, .int (nI mt), .int (nI sa)])), (aL, .inr (1, [.int (nI nL), .ref aLb, .ref aLe, .ref aLw, .ref aLc, .ref aLd, .ref aLs])), (aLw, .inl (cI, 18, .inl fw))])) (va_Qi (fun (r : Int32) (u : (Nat) × (Nat → Int32)) => match u with | (saz, fwz) => r = cif (pc_word nL x1 x2 x3) (nI 1) (nI 0) ∧ fwz = cif (pc_word nL x1 x2 x3) (upd fw (2 * tn x1 + tn x2) x3) fw ∧ saz = cif (pc_word nL x1 x2 x3) 1 sa) (fun (u : (Nat) × (Nat → Int32)) (t : State) => match u with | (saz, fwz) => va_P (dC, dI) vwCl [(aX, .inr (5, [.ref aL, .ref aC, .ref aR, .ref aS, .ref aB, .int (nI mt), .int (nI saz)])), (aL, .inr (1, [.int (nI nL), .ref aLb, .ref aLe, .ref aLw, .ref aLc, .ref aLd, .ref aLs])), (aLw, .inl (cI, 18, .inl fwz))] t.heap ∧ va_D (va_A [(aX, .inr (5, [.ref aL, .ref aC, .ref aR, .ref aS, .ref aB, .int (nI mt), .int (nI sa)])), (aL, .inr (1, [.int (nI nL), .ref aLb, .ref aLe, .ref aLw, .ref aLc, .ref aLd, .ref aLs])), (aLw, .inl (cI, 18, .inl fw))] sz) [(aX, .inr (5, [.ref aL, .ref aC, .ref aR, .ref aS, .ref aB, .int (nI mt), .int (nI saz)])), (aL, .inr (1, [.int (nI nL), .ref aLb, .ref aLe, .ref aLw, .ref aLc, .ref aLd, .ref aLs])), (aLw, .inl (cI, 18, .inl fwz))]) (va_A [(aX, .inr (5, [.ref aL, .ref aC, .ref aR, .ref aS, .ref aB, .int (nI mt), .int (nI sa)])), (aL, .inr (1, [.int (nI nL), .ref aLb, .ref aLe, .ref aLw, .ref aLc, .ref aLd, .ref aLs])), (aLw, .inl (cI, 18, .inl fw))] sz)) 0 0 (va_A [(aX, .inr (5, [.ref aL, .ref aC, .ref aR, .ref aS, .ref aB, .int (nI mt), .int (nI sa)])), (aL, .inr (1, [.int (nI nL), .ref aLb, .ref aLe, .ref aLw, .ref aLc, .ref aLd, .ref aLs])), (aLw, .inl (cI, 18, .inl fw))] sz) := by
  refine Met.ofW (cc := cX5_catchword) (maxL := 4) (ret := (some .boolean)) (by decide) rfl ?_
  intro p e s m args below meth c s₁ B hml hv
  obtain ⟨rfl, hsz, hP, hKK, hD0⟩ := hv
  have hK := hKK.1
  have hx := B.exec
  have hb := B.bytes
  have hr := B.returns
  have hts := atoms_spec (ws := wsX5_catchword) B.pre
  have hown : s.vm.findClass RX5 = some m.cls := findClass_of_methodNamed B.named
  have hlocks := B.notSynchronized
  subst hsz
  have hD := hD0.self (sz := s.heap.size)
  generalize hAe : va_A [(aX, .inr (5, [.ref aL, .ref aC, .ref aR, .ref aS, .ref aB, .int (nI mt), .int (nI sa)])), (aL, .inr (1, [.int (nI nL), .ref aLb, .ref aLe, .ref aLw, .ref aLc, .ref aLd, .ref aLs])), (aLw, .inl (cI, 18, .inl fw))] s.heap.size = A at hD ⊢
  have hA : ∀ q : Nat, s.heap.size ≤ q → A q := fun q h => by rw [← hAe]; exact Or.inr h
  have hS : va_S A s.heap s.heap [] := va_S.rf
  have hl := lv_entry ([.ref aX, .int x1, .int x2, .int x3]) (n := 4) (Nat.le_of_ble_eq_true rfl)
  rw [lg_entry_eq]
  generalize (lg_sl ([.ref aX, .int x1, .int x2, .int x3]) ++ List.replicate (4 - (lg_sl ([.ref aX, .int x1, .int x2, .int x3])).length) Slot.unset).toArray = ls at hl ⊢
  have hl : lv_has ls 4 [(0, .ref aX), (1, .int x1), (2, .int x2), (3, .int x3)] := hl
  refine lv_aload_n hx hb dX5_catchword_0 rfl (lv_at hl 0 rfl) ?_
  refine va_get (D := (dC, dI)) (ci := 5) (v := .ref aL) (C := RX5) (T := TX5) (N := 7) hx hb hts mX5_catchword_inX5 hown hK hP 0 rfl rfl 0 (by decide) (hts (.fieldLink RX5 12 "LeafOrder" "pile" "LLeafOrder$Leaves;") mX5_catchword_0) (fun _ h9 => h9) rfl dX5_catchword_1 ?_
  refine lv_iload_n hx hb dX5_catchword_4 rfl (lv_at hl 1 rfl) ?_
  refine lv_iload_n hx hb dX5_catchword_5 rfl (lv_at hl 2 rfl) ?_
  have hPc := hP.sub (ws' := [(aL, .inr (1, [.int (nI nL), .ref aLb, .ref aLe, .ref aLw, .ref aLc, .ref aLd, .ref aLs]))]) [1] rfl
  refine vp_callSi (W.runV (As := [.int x1, .int x2]) (rest := []) ⟨hx, hb, hml, hown, hts⟩ (k_X1_hasSide l dC dI cI cZ aL aLb aLe aLw aLc aLd aLs nL x1 x2 (by omega)) (cwV 2 hts gX5_catchword_X1_hasSide rfl rfl rfl (by decide +kernel) ⟨Nat.le_of_ble_eq_true rfl, Nat.le_of_ble_eq_true rfl⟩) (ln_preV (q0 := 0) (ci := 1) hPc hKK rfl rfl) rfl rfl hl.1 rfl (lv_room (Nat.le_of_ble_eq_true rfl)) dX5_catchword_6 ⟨Nat.le_of_ble_eq_true rfl, Nat.le_of_ble_eq_true rfl⟩) (fun r_1 w_2 => ?_)
  rcases w_2 with ⟨rfl, c_3⟩ | ⟨rfl, c_3⟩
  · obtain ⟨⟨k1, hk1, rfl⟩, ⟨k2, hk2, rfl⟩⟩ := c_3
    refine ln_if_eqF (tgt := 24) hx hb dX5_catchword_9 (by decide) (by decide) ?_
    refine lv_iload_n hx hb dX5_catchword_12 rfl (lv_at hl 3 rfl) ?_
    refine lv_iconst (v := (-1)) hx hb dX5_catchword_13 (by decide) ?_
    refine lv_icmp_eq (tgt := 26) hx hb dX5_catchword_14 (by decide) (fun c_4 => ?_) (fun c_4 => ?_)
    · refine lv_aload_n hx hb dX5_catchword_26 rfl (lv_at hl 0 rfl) ?_
      refine va_get (D := (dC, dI)) (ci := 5) (v := .ref aL) (C := RX5) (T := TX5) (N := 7) hx hb hts mX5_catchword_inX5 hown hK hP 0 rfl rfl 0 (by decide) (hts (.fieldLink RX5 12 "LeafOrder" "pile" "LLeafOrder$Leaves;") mX5_catchword_0) (fun _ h9 => h9) rfl dX5_catchword_27 ?_
      refine va_get (D := (dC, dI)) (ci := 1) (v := .ref aLw) (C := RX1) (T := TX1) (N := 7) hx hb hts mX5_catchword_inX1 hown hK hP 1 rfl rfl 3 (by decide) (hts (.fieldLink RX5 73 "LeafOrder$Leaves" "words" "[I") mX5_catchword_2) (fun _ h9 => h9) rfl dX5_catchword_30 ?_
      refine lv_iconst (v := nI 2) hx hb dX5_catchword_33 (by decide) ?_
      refine lv_iload_n hx hb dX5_catchword_34 rfl (lv_at hl 1 rfl) ?_
      refine ln_imul hx hb dX5_catchword_35 ?_
      refine lv_iload_n hx hb dX5_catchword_36 rfl (lv_at hl 2 rfl) ?_
      refine ln_iadd hx hb dX5_catchword_37 ?_
      refine lv_iload_n hx hb dX5_catchword_38 rfl (lv_at hl 3 rfl) ?_
      refine ln_iastI (i := (2 * k1) + k2) hx hb hK hP hD hS 2 0 rfl rfl (by omega) (by decide) dX5_catchword_39 (fun H locs hP hD hS => ?_)
      have hP : va_P (dC, dI) vwCl [(aX, .inr (5, [.ref aL, .ref aC, .ref aR, .ref aS, .ref aB, .int (nI mt), .int (nI sa)])), (aL, .inr (1, [.int (nI nL), .ref aLb, .ref aLe, .ref aLw, .ref aLc, .ref aLd, .ref aLs])), (aLw, .inl (cI, 18, .inl (upd fw ((2 * k1) + k2) x3)))] H := hP
      have hD : va_D A [(aX, .inr (5, [.ref aL, .ref aC, .ref aR, .ref aS, .ref aB, .int (nI mt), .int (nI sa)])), (aL, .inr (1, [.int (nI nL), .ref aLb, .ref aLe, .ref aLw, .ref aLc, .ref aLd, .ref aLs])), (aLw, .inl (cI, 18, .inl (upd fw ((2 * k1) + k2) x3)))] := hD
      refine lv_aload_n hx hb dX5_catchword_40 rfl (lv_at hl 0 rfl) ?_
      refine lv_iconst (v := nI 1) hx hb dX5_catchword_41 (by decide) ?_
      refine va_put (D := (dC, dI)) (ci := 5) (v := .int (nI 1)) (ty := .boolean) (C := RX5) (T := TX5) (N := 7) hx hb hts mX5_catchword_inX5 tyX5 tyX5_ok nmX5 hown hK hP hD hS 0 rfl rfl 6 (by decide) (hts (.fieldLink RX5 54 "LeafOrder" "stale" "Z") mX5_catchword_4) (fun _ h9 => h9) rfl (by decide +kernel) rfl rfl (Nat.le_of_ble_eq_true rfl) dX5_catchword_42 (fun H locs hP hD hS => ?_)
      have hP : va_P (dC, dI) vwCl [(aX, .inr (5, [.ref aL, .ref aC, .ref aR, .ref aS, .ref aB, .int (nI mt), .int (nI 1)])), (aL, .inr (1, [.int (nI nL), .ref aLb, .ref aLe, .ref aLw, .ref aLc, .ref aLd, .ref aLs])), (aLw, .inl (cI, 18, .inl (upd fw ((2 * k1) + k2) x3)))] H := hP
      have hD : va_D A [(aX, .inr (5, [.ref aL, .ref aC, .ref aR, .ref aS, .ref aB, .int (nI mt), .int (nI 1)])), (aL, .inr (1, [.int (nI nL), .ref aLb, .ref aLe, .ref aLw, .ref aLc, .ref aLd, .ref aLs])), (aLw, .inl (cI, 18, .inl (upd fw ((2 * k1) + k2) x3)))] := hD
      refine lv_iconst (v := nI 1) hx hb dX5_catchword_45 (by decide) ?_
      have hC : pc_word nL (nI k1) (nI k2) x3 := ⟨⟨k1, hk1, rfl⟩, ⟨k2, hk2, rfl⟩, Or.inl c_4⟩
      exact W.zret (v := (nI 1)) hx hb hr (by decide) (fun t ht hW => ⟨⟨(nI 1), (1, upd fw ((2 * k1) + k2) x3), rfl, ⟨(cif_t hC).symm, (by rw [cif_t hC, tn_nI (show k1 < 2 ^ 31 by omega), tn_nI (show k2 < 2 ^ 31 by omega)]), (cif_t hC).symm⟩, by rw [ht]; exact hP, hD⟩, hS.F ht⟩) hS.2.2 dX5_catchword_46
    · refine lv_iload_n hx hb dX5_catchword_17 rfl (lv_at hl 3 rfl) ?_
      refine vp_callSi (W.runS (As := [.int x3]) (rest := []) ⟨hx, hb, hml, hown, hts⟩ (k_X5_isMark l dC dI cI cZ x3) (va_cwS 1 hts gX5_catchword_X5_isMark rfl rfl rfl (by decide +kernel) ⟨Nat.le_of_ble_eq_true rfl, Nat.le_of_ble_eq_true rfl⟩) ln_preS0 rfl rfl hl.1 rfl (lv_room (Nat.le_of_ble_eq_true rfl)) dX5_catchword_18 ⟨Nat.le_of_ble_eq_true rfl, Nat.le_of_ble_eq_true rfl⟩) (fun r_5 w_6 => ?_)
      rcases w_6 with ⟨rfl, c_7⟩ | ⟨rfl, c_7⟩
      · refine ln_if_neT (tgt := 26) hx hb dX5_catchword_21 (by decide) (by decide) ?_
        refine lv_aload_n hx hb dX5_catchword_26 rfl (lv_at hl 0 rfl) ?_
        refine va_get (D := (dC, dI)) (ci := 5) (v := .ref aL) (C := RX5) (T := TX5) (N := 7) hx hb hts mX5_catchword_inX5 hown hK hP 0 rfl rfl 0 (by decide) (hts (.fieldLink RX5 12 "LeafOrder" "pile" "LLeafOrder$Leaves;") mX5_catchword_0) (fun _ h9 => h9) rfl dX5_catchword_27 ?_
        refine va_get (D := (dC, dI)) (ci := 1) (v := .ref aLw) (C := RX1) (T := TX1) (N := 7) hx hb hts mX5_catchword_inX1 hown hK hP 1 rfl rfl 3 (by decide) (hts (.fieldLink RX5 73 "LeafOrder$Leaves" "words" "[I") mX5_catchword_2) (fun _ h9 => h9) rfl dX5_catchword_30 ?_
        refine lv_iconst (v := nI 2) hx hb dX5_catchword_33 (by decide) ?_
        refine lv_iload_n hx hb dX5_catchword_34 rfl (lv_at hl 1 rfl) ?_
        refine ln_imul hx hb dX5_catchword_35 ?_
        refine lv_iload_n hx hb dX5_catchword_36 rfl (lv_at hl 2 rfl) ?_
        refine ln_iadd hx hb dX5_catchword_37 ?_
        refine lv_iload_n hx hb dX5_catchword_38 rfl (lv_at hl 3 rfl) ?_
        refine ln_iastI (i := (2 * k1) + k2) hx hb hK hP hD hS 2 0 rfl rfl (by omega) (by decide) dX5_catchword_39 (fun H locs hP hD hS => ?_)
        have hP : va_P (dC, dI) vwCl [(aX, .inr (5, [.ref aL, .ref aC, .ref aR, .ref aS, .ref aB, .int (nI mt), .int (nI sa)])), (aL, .inr (1, [.int (nI nL), .ref aLb, .ref aLe, .ref aLw, .ref aLc, .ref aLd, .ref aLs])), (aLw, .inl (cI, 18, .inl (upd fw ((2 * k1) + k2) x3)))] H := hP
        have hD : va_D A [(aX, .inr (5, [.ref aL, .ref aC, .ref aR, .ref aS, .ref aB, .int (nI mt), .int (nI sa)])), (aL, .inr (1, [.int (nI nL), .ref aLb, .ref aLe, .ref aLw, .ref aLc, .ref aLd, .ref aLs])), (aLw, .inl (cI, 18, .inl (upd fw ((2 * k1) + k2) x3)))] := hD
        refine lv_aload_n hx hb dX5_catchword_40 rfl (lv_at hl 0 rfl) ?_
        refine lv_iconst (v := nI 1) hx hb dX5_catchword_41 (by decide) ?_
        refine va_put (D := (dC, dI)) (ci := 5) (v := .int (nI 1)) (ty := .boolean) (C := RX5) (T := TX5) (N := 7) hx hb hts mX5_catchword_inX5 tyX5 tyX5_ok nmX5 hown hK hP hD hS 0 rfl rfl 6 (by decide) (hts (.fieldLink RX5 54 "LeafOrder" "stale" "Z") mX5_catchword_4) (fun _ h9 => h9) rfl (by decide +kernel) rfl rfl (Nat.le_of_ble_eq_true rfl) dX5_catchword_42 (fun H locs hP hD hS => ?_)
        have hP : va_P (dC, dI) vwCl [(aX, .inr (5, [.ref aL, .ref aC, .ref aR, .ref aS, .ref aB, .int (nI mt), .int (nI 1)])), (aL, .inr (1, [.int (nI nL), .ref aLb, .ref aLe, .ref aLw, .ref aLc, .ref aLd, .ref aLs])), (aLw, .inl (cI, 18, .inl (upd fw ((2 * k1) + k2) x3)))] H := hP
        have hD : va_D A [(aX, .inr (5, [.ref aL, .ref aC, .ref aR, .ref aS, .ref aB, .int (nI mt), .int (nI 1)])), (aL, .inr (1, [.int (nI nL), .ref aLb, .ref aLe, .ref aLw, .ref aLc, .ref aLd, .ref aLs])), (aLw, .inl (cI, 18, .inl (upd fw ((2 * k1) + k2) x3)))] := hD
        refine lv_iconst (v := nI 1) hx hb dX5_catchword_45 (by decide) ?_
        have hC : pc_word nL (nI k1) (nI k2) x3 := ⟨⟨k1, hk1, rfl⟩, ⟨k2, hk2, rfl⟩, Or.inr c_7⟩
        exact W.zret (v := (nI 1)) hx hb hr (by decide) (fun t ht hW => ⟨⟨(nI 1), (1, upd fw ((2 * k1) + k2) x3), rfl, ⟨(cif_t hC).symm, (by rw [cif_t hC, tn_nI (show k1 < 2 ^ 31 by omega), tn_nI (show k2 < 2 ^ 31 by omega)]), (cif_t hC).symm⟩, by rw [ht]; exact hP, hD⟩, hS.F ht⟩) hS.2.2 dX5_catchword_46
      · refine ln_if_neF (tgt := 26) hx hb dX5_catchword_21 (by decide) (by decide) ?_
        refine lv_iconst (v := nI 0) hx hb dX5_catchword_24 (by decide) ?_
        have hC : ¬ pc_word nL (nI k1) (nI k2) x3 := (fun q => q.2.2.elim c_4 c_7)
        exact W.zret (v := (nI 0)) hx hb hr (by decide) (fun t ht hW => ⟨⟨(nI 0), (sa, fw), rfl, ⟨(cif_f hC).symm, (cif_f hC).symm, (cif_f hC).symm⟩, by rw [ht]; exact hP, hD⟩, hS.F ht⟩) hS.2.2 dX5_catchword_25
  · refine ln_if_eqT (tgt := 24) hx hb dX5_catchword_9 (by decide) (by decide) ?_
    refine lv_iconst (v := nI 0) hx hb dX5_catchword_24 (by decide) ?_
    have hC : ¬ pc_word nL x1 x2 x3 := (fun q => c_3 ⟨q.1, q.2.1⟩)
    exact W.zret (v := (nI 0)) hx hb hr (by decide) (fun t ht hW => ⟨⟨(nI 0), (sa, fw), rfl, ⟨(cif_f hC).symm, (cif_f hC).symm, (cif_f hC).symm⟩, by rw [ht]; exact hP, hD⟩, hS.F ht⟩) hS.2.2 dX5_catchword_25
theorem mX5_cut_0 : Cond.fieldLink RX5 12 "LeafOrder" "pile" "LLeafOrder$Leaves;" ∈ wsX5_cut := by decide +kernel
theorem mX5_cut_inX5 : ∀ w ∈ wsX50, w ∈ wsX5_cut := by decide +kernel
theorem mX5_cut_2 : Cond.fieldLink RX5 77 "LeafOrder$Leaves" "cutBegins" "[I" ∈ wsX5_cut := by decide +kernel
theorem mX5_cut_inX1 : ∀ w ∈ wsX10, w ∈ wsX5_cut := by decide +kernel
theorem mX5_cut_4 : Cond.fieldLink RX5 80 "LeafOrder$Leaves" "cutEnds" "[I" ∈ wsX5_cut := by decide +kernel
theorem mX5_cut_5 : Cond.fieldLink RX5 54 "LeafOrder" "stale" "Z" ∈ wsX5_cut := by decide +kernel
set_option maxHeartbeats 4000000 in
set_option maxRecDepth 100000 in
theorem k_X5_cut (l : Launch) (dC : Nat → ClassId) (dI : Nat → Nat → Nat) (cI cZ : ClassId) (aX aL aC aR aS aB aLb aLe aLw aLc aLd aLs : Nat) (mt : Nat) (sa : Nat) (nL : Nat) (fc : Nat → Nat) (fd : Nat → Nat) (x1 : Int32) (x2 : Int32) (x3 : Int32) (x4 : Int32) (sz : Nat) (bLc : ∀ k, fc k ≤ 99) (bLd : ∀ k, fd k ≤ 99) (hn : nL ≤ 9) : Met l yX5_cut wsX5_cut { frames := 2, cells := 0, slots := 0, locals := 43 } (va_Pc [.ref aX, .int x1, .int x2, .int x3, .int x4] (fun U => U.heap.size = sz ∧ va_P (dC, dI) vwCl [(aX, .inr (5, [.ref aL, .ref aC, .ref aR, .ref aS, .ref aB, .int (nI mt), .int (nI sa)])), (aL, .inr (1, [.int (nI nL), .ref aLb, .ref aLe, .ref aLw, .ref aLc, .ref aLd, .ref aLs])), (aLc, .inl (cI, 18, .inl (nF fc))), (aLd, .inl (cI, 18, .inl (nF fd)))] U.heap ∧ lK dC dI cI cZ U ∧ va_D (fun _ => True) [(aX, .inr (5, [.ref aL, .ref aC, .ref aR, .ref aS, .ref aB, .int (nI mt), .int (nI sa)])), (aL, .inr (1, [.int (nI nL), .ref aLb, .ref aLe, .ref aLw, .ref aLc, .ref aLd, .ref aLs])), (aLc, .inl (cI, 18, .inl (nF fc))), (aLd, .inl (cI, 18, .inl (nF fd)))])) (va_Qi (fun (r : Int32) (u : (Nat) × (Nat → Nat) × (Nat → Nat)) => match u with | (saz, fcz, fdz) => r = cif (pc_cut nL x1 x2 x3 x4) (nI 1) (nI 0) ∧ fcz = cif (pc_cut nL x1 x2 x3 x4) (upN fc (2 * tn x1 + tn x2) (tn x3)) fc ∧ fdz = cif (pc_cut nL x1 x2 x3 x4) (upN fd (2 * tn x1 + tn x2) (tn x4)) fd ∧ saz = cif (pc_cut nL x1 x2 x3 x4) 1 sa ∧ (∀ k, fcz k ≤ 99) ∧ (∀ k, fdz k ≤ 99)) (fun (u : (Nat) × (Nat → Nat) × (Nat → Nat)) (t : State) => match u with | (saz, fcz, fdz) => va_P (dC, dI) vwCl [(aX, .inr (5, [.ref aL, .ref aC, .ref aR, .ref aS, .ref aB, .int (nI mt), .int (nI saz)])), (aL, .inr (1, [.int (nI nL), .ref aLb, .ref aLe, .ref aLw, .ref aLc, .ref aLd, .ref aLs])), (aLc, .inl (cI, 18, .inl (nF fcz))), (aLd, .inl (cI, 18, .inl (nF fdz)))] t.heap ∧ va_D (va_A [(aX, .inr (5, [.ref aL, .ref aC, .ref aR, .ref aS, .ref aB, .int (nI mt), .int (nI sa)])), (aL, .inr (1, [.int (nI nL), .ref aLb, .ref aLe, .ref aLw, .ref aLc, .ref aLd, .ref aLs])), (aLc, .inl (cI, 18, .inl (nF fc))), (aLd, .inl (cI, 18, .inl (nF fd)))] sz) [(aX, .inr (5, [.ref aL, .ref aC, .ref aR, .ref aS, .ref aB, .int (nI mt), .int (nI saz)])), (aL, .inr (1, [.int (nI nL), .ref aLb, .ref aLe, .ref aLw, .ref aLc, .ref aLd, .ref aLs])), (aLc, .inl (cI, 18, .inl (nF fcz))), (aLd, .inl (cI, 18, .inl (nF fdz)))]) (va_A [(aX, .inr (5, [.ref aL, .ref aC, .ref aR, .ref aS, .ref aB, .int (nI mt), .int (nI sa)])), (aL, .inr (1, [.int (nI nL), .ref aLb, .ref aLe, .ref aLw, .ref aLc, .ref aLd, .ref aLs])), (aLc, .inl (cI, 18, .inl (nF fc))), (aLd, .inl (cI, 18, .inl (nF fd)))] sz)) 0 0 (va_A [(aX, .inr (5, [.ref aL, .ref aC, .ref aR, .ref aS, .ref aB, .int (nI mt), .int (nI sa)])), (aL, .inr (1, [.int (nI nL), .ref aLb, .ref aLe, .ref aLw, .ref aLc, .ref aLd, .ref aLs])), (aLc, .inl (cI, 18, .inl (nF fc))), (aLd, .inl (cI, 18, .inl (nF fd)))] sz) := by
  refine Met.ofW (cc := cX5_cut) (maxL := 5) (ret := (some .boolean)) (by decide) rfl ?_
  intro p e s m args below meth c s₁ B hml hv
  obtain ⟨rfl, hsz, hP, hKK, hD0⟩ := hv
  have hK := hKK.1
  have hx := B.exec
  have hb := B.bytes
  have hr := B.returns
  have hts := atoms_spec (ws := wsX5_cut) B.pre
  have hown : s.vm.findClass RX5 = some m.cls := findClass_of_methodNamed B.named
  have hlocks := B.notSynchronized
  subst hsz
  have hD := hD0.self (sz := s.heap.size)
  generalize hAe : va_A [(aX, .inr (5, [.ref aL, .ref aC, .ref aR, .ref aS, .ref aB, .int (nI mt), .int (nI sa)])), (aL, .inr (1, [.int (nI nL), .ref aLb, .ref aLe, .ref aLw, .ref aLc, .ref aLd, .ref aLs])), (aLc, .inl (cI, 18, .inl (nF fc))), (aLd, .inl (cI, 18, .inl (nF fd)))] s.heap.size = A at hD ⊢
  have hA : ∀ q : Nat, s.heap.size ≤ q → A q := fun q h => by rw [← hAe]; exact Or.inr h
  have hS : va_S A s.heap s.heap [] := va_S.rf
  have hl := lv_entry ([.ref aX, .int x1, .int x2, .int x3, .int x4]) (n := 5) (Nat.le_of_ble_eq_true rfl)
  rw [lg_entry_eq]
  generalize (lg_sl ([.ref aX, .int x1, .int x2, .int x3, .int x4]) ++ List.replicate (5 - (lg_sl ([.ref aX, .int x1, .int x2, .int x3, .int x4])).length) Slot.unset).toArray = ls at hl ⊢
  have hl : lv_has ls 5 [(0, .ref aX), (1, .int x1), (2, .int x2), (3, .int x3), (4, .int x4)] := hl
  refine lv_aload_n hx hb dX5_cut_0 rfl (lv_at hl 0 rfl) ?_
  refine va_get (D := (dC, dI)) (ci := 5) (v := .ref aL) (C := RX5) (T := TX5) (N := 7) hx hb hts mX5_cut_inX5 hown hK hP 0 rfl rfl 0 (by decide) (hts (.fieldLink RX5 12 "LeafOrder" "pile" "LLeafOrder$Leaves;") mX5_cut_0) (fun _ h9 => h9) rfl dX5_cut_1 ?_
  refine lv_iload_n hx hb dX5_cut_4 rfl (lv_at hl 1 rfl) ?_
  refine lv_iload_n hx hb dX5_cut_5 rfl (lv_at hl 2 rfl) ?_
  have hPc := hP.sub (ws' := [(aL, .inr (1, [.int (nI nL), .ref aLb, .ref aLe, .ref aLw, .ref aLc, .ref aLd, .ref aLs]))]) [1] rfl
  refine vp_callSi (W.runV (As := [.int x1, .int x2]) (rest := []) ⟨hx, hb, hml, hown, hts⟩ (k_X1_hasSide l dC dI cI cZ aL aLb aLe aLw aLc aLd aLs nL x1 x2 (by omega)) (cwV 2 hts gX5_cut_X1_hasSide rfl rfl rfl (by decide +kernel) ⟨Nat.le_of_ble_eq_true rfl, Nat.le_of_ble_eq_true rfl⟩) (ln_preV (q0 := 0) (ci := 1) hPc hKK rfl rfl) rfl rfl hl.1 rfl (lv_room (Nat.le_of_ble_eq_true rfl)) dX5_cut_6 ⟨Nat.le_of_ble_eq_true rfl, Nat.le_of_ble_eq_true rfl⟩) (fun r_1 w_2 => ?_)
  rcases w_2 with ⟨rfl, c_3⟩ | ⟨rfl, c_3⟩
  · obtain ⟨⟨k1, hk1, rfl⟩, ⟨k2, hk2, rfl⟩⟩ := c_3
    refine ln_if_eqF (tgt := 27) hx hb dX5_cut_9 (by decide) (by decide) ?_
    refine lv_iload_n hx hb dX5_cut_12 rfl (lv_at hl 3 rfl) ?_
    refine vp_callSi (W.runS (As := [.int x3]) (rest := []) ⟨hx, hb, hml, hown, hts⟩ (k_X5_isMark l dC dI cI cZ x3) (va_cwS 1 hts gX5_cut_X5_isMark rfl rfl rfl (by decide +kernel) ⟨Nat.le_of_ble_eq_true rfl, Nat.le_of_ble_eq_true rfl⟩) ln_preS0 rfl rfl hl.1 rfl (lv_room (Nat.le_of_ble_eq_true rfl)) dX5_cut_13 ⟨Nat.le_of_ble_eq_true rfl, Nat.le_of_ble_eq_true rfl⟩) (fun r_4 w_5 => ?_)
    rcases w_5 with ⟨rfl, c_6⟩ | ⟨rfl, c_6⟩
    · obtain ⟨k3, hk3, rfl⟩ := c_6
      refine ln_if_eqF (tgt := 27) hx hb dX5_cut_16 (by decide) (by decide) ?_
      refine lv_iload hx hb dX5_cut_19 (lv_at hl 4 rfl) ?_
      refine vp_callSi (W.runS (As := [.int x4]) (rest := []) ⟨hx, hb, hml, hown, hts⟩ (k_X5_isMark l dC dI cI cZ x4) (va_cwS 1 hts gX5_cut_X5_isMark rfl rfl rfl (by decide +kernel) ⟨Nat.le_of_ble_eq_true rfl, Nat.le_of_ble_eq_true rfl⟩) ln_preS0 rfl rfl hl.1 rfl (lv_room (Nat.le_of_ble_eq_true rfl)) dX5_cut_21 ⟨Nat.le_of_ble_eq_true rfl, Nat.le_of_ble_eq_true rfl⟩) (fun r_7 w_8 => ?_)
      rcases w_8 with ⟨rfl, c_9⟩ | ⟨rfl, c_9⟩
      · obtain ⟨k4, hk4, rfl⟩ := c_9
        refine ln_if_neT (tgt := 29) hx hb dX5_cut_24 (by decide) (by decide) ?_
        refine lv_aload_n hx hb dX5_cut_29 rfl (lv_at hl 0 rfl) ?_
        refine va_get (D := (dC, dI)) (ci := 5) (v := .ref aL) (C := RX5) (T := TX5) (N := 7) hx hb hts mX5_cut_inX5 hown hK hP 0 rfl rfl 0 (by decide) (hts (.fieldLink RX5 12 "LeafOrder" "pile" "LLeafOrder$Leaves;") mX5_cut_0) (fun _ h9 => h9) rfl dX5_cut_30 ?_
        refine va_get (D := (dC, dI)) (ci := 1) (v := .ref aLc) (C := RX1) (T := TX1) (N := 7) hx hb hts mX5_cut_inX1 hown hK hP 1 rfl rfl 4 (by decide) (hts (.fieldLink RX5 77 "LeafOrder$Leaves" "cutBegins" "[I") mX5_cut_2) (fun _ h9 => h9) rfl dX5_cut_33 ?_
        refine lv_iconst (v := nI 2) hx hb dX5_cut_36 (by decide) ?_
        refine lv_iload_n hx hb dX5_cut_37 rfl (lv_at hl 1 rfl) ?_
        refine ln_imul hx hb dX5_cut_38 ?_
        refine lv_iload_n hx hb dX5_cut_39 rfl (lv_at hl 2 rfl) ?_
        refine ln_iadd hx hb dX5_cut_40 ?_
        refine lv_iload_n hx hb dX5_cut_41 rfl (lv_at hl 3 rfl) ?_
        refine ln_iast (i := (2 * k1) + k2) hx hb hK hP hD hS 2 0 rfl rfl (by omega) (by decide) dX5_cut_42 (fun H locs hP hD hS => ?_)
        have b_10 : ∀ k, (upN fc ((2 * k1) + k2) k3) k ≤ 99 := upN_le bLc (by omega)
        have hP : va_P (dC, dI) vwCl [(aX, .inr (5, [.ref aL, .ref aC, .ref aR, .ref aS, .ref aB, .int (nI mt), .int (nI sa)])), (aL, .inr (1, [.int (nI nL), .ref aLb, .ref aLe, .ref aLw, .ref aLc, .ref aLd, .ref aLs])), (aLc, .inl (cI, 18, .inl (nF (upN fc ((2 * k1) + k2) k3)))), (aLd, .inl (cI, 18, .inl (nF fd)))] H := hP
        have hD : va_D A [(aX, .inr (5, [.ref aL, .ref aC, .ref aR, .ref aS, .ref aB, .int (nI mt), .int (nI sa)])), (aL, .inr (1, [.int (nI nL), .ref aLb, .ref aLe, .ref aLw, .ref aLc, .ref aLd, .ref aLs])), (aLc, .inl (cI, 18, .inl (nF (upN fc ((2 * k1) + k2) k3)))), (aLd, .inl (cI, 18, .inl (nF fd)))] := hD
        refine lv_aload_n hx hb dX5_cut_43 rfl (lv_at hl 0 rfl) ?_
        refine va_get (D := (dC, dI)) (ci := 5) (v := .ref aL) (C := RX5) (T := TX5) (N := 7) hx hb hts mX5_cut_inX5 hown hK hP 0 rfl rfl 0 (by decide) (hts (.fieldLink RX5 12 "LeafOrder" "pile" "LLeafOrder$Leaves;") mX5_cut_0) (fun _ h9 => h9) rfl dX5_cut_44 ?_
        refine va_get (D := (dC, dI)) (ci := 1) (v := .ref aLd) (C := RX1) (T := TX1) (N := 7) hx hb hts mX5_cut_inX1 hown hK hP 1 rfl rfl 5 (by decide) (hts (.fieldLink RX5 80 "LeafOrder$Leaves" "cutEnds" "[I") mX5_cut_4) (fun _ h9 => h9) rfl dX5_cut_47 ?_
        refine lv_iconst (v := nI 2) hx hb dX5_cut_50 (by decide) ?_
        refine lv_iload_n hx hb dX5_cut_51 rfl (lv_at hl 1 rfl) ?_
        refine ln_imul hx hb dX5_cut_52 ?_
        refine lv_iload_n hx hb dX5_cut_53 rfl (lv_at hl 2 rfl) ?_
        refine ln_iadd hx hb dX5_cut_54 ?_
        refine lv_iload hx hb dX5_cut_55 (lv_at hl 4 rfl) ?_
        refine ln_iast (i := (2 * k1) + k2) hx hb hK hP hD hS 3 0 rfl rfl (by omega) (by decide) dX5_cut_57 (fun H locs hP hD hS => ?_)
        have b_11 : ∀ k, (upN fd ((2 * k1) + k2) k4) k ≤ 99 := upN_le bLd (by omega)
        have hP : va_P (dC, dI) vwCl [(aX, .inr (5, [.ref aL, .ref aC, .ref aR, .ref aS, .ref aB, .int (nI mt), .int (nI sa)])), (aL, .inr (1, [.int (nI nL), .ref aLb, .ref aLe, .ref aLw, .ref aLc, .ref aLd, .ref aLs])), (aLc, .inl (cI, 18, .inl (nF (upN fc ((2 * k1) + k2) k3)))), (aLd, .inl (cI, 18, .inl (nF (upN fd ((2 * k1) + k2) k4))))] H := hP
        have hD : va_D A [(aX, .inr (5, [.ref aL, .ref aC, .ref aR, .ref aS, .ref aB, .int (nI mt), .int (nI sa)])), (aL, .inr (1, [.int (nI nL), .ref aLb, .ref aLe, .ref aLw, .ref aLc, .ref aLd, .ref aLs])), (aLc, .inl (cI, 18, .inl (nF (upN fc ((2 * k1) + k2) k3)))), (aLd, .inl (cI, 18, .inl (nF (upN fd ((2 * k1) + k2) k4))))] := hD
        refine lv_aload_n hx hb dX5_cut_58 rfl (lv_at hl 0 rfl) ?_
        refine lv_iconst (v := nI 1) hx hb dX5_cut_59 (by decide) ?_
        refine va_put (D := (dC, dI)) (ci := 5) (v := .int (nI 1)) (ty := .boolean) (C := RX5) (T := TX5) (N := 7) hx hb hts mX5_cut_inX5 tyX5 tyX5_ok nmX5 hown hK hP hD hS 0 rfl rfl 6 (by decide) (hts (.fieldLink RX5 54 "LeafOrder" "stale" "Z") mX5_cut_5) (fun _ h9 => h9) rfl (by decide +kernel) rfl rfl (Nat.le_of_ble_eq_true rfl) dX5_cut_60 (fun H locs hP hD hS => ?_)
        have hP : va_P (dC, dI) vwCl [(aX, .inr (5, [.ref aL, .ref aC, .ref aR, .ref aS, .ref aB, .int (nI mt), .int (nI 1)])), (aL, .inr (1, [.int (nI nL), .ref aLb, .ref aLe, .ref aLw, .ref aLc, .ref aLd, .ref aLs])), (aLc, .inl (cI, 18, .inl (nF (upN fc ((2 * k1) + k2) k3)))), (aLd, .inl (cI, 18, .inl (nF (upN fd ((2 * k1) + k2) k4))))] H := hP
        have hD : va_D A [(aX, .inr (5, [.ref aL, .ref aC, .ref aR, .ref aS, .ref aB, .int (nI mt), .int (nI 1)])), (aL, .inr (1, [.int (nI nL), .ref aLb, .ref aLe, .ref aLw, .ref aLc, .ref aLd, .ref aLs])), (aLc, .inl (cI, 18, .inl (nF (upN fc ((2 * k1) + k2) k3)))), (aLd, .inl (cI, 18, .inl (nF (upN fd ((2 * k1) + k2) k4))))] := hD
        refine lv_iconst (v := nI 1) hx hb dX5_cut_63 (by decide) ?_
        have hC : pc_cut nL (nI k1) (nI k2) (nI k3) (nI k4) := ⟨⟨k1, hk1, rfl⟩, ⟨k2, hk2, rfl⟩, ⟨k3, hk3, rfl⟩, ⟨k4, hk4, rfl⟩⟩
        exact W.zret (v := (nI 1)) hx hb hr (by decide) (fun t ht hW => ⟨⟨(nI 1), (1, upN fc ((2 * k1) + k2) k3, upN fd ((2 * k1) + k2) k4), rfl, ⟨(cif_t hC).symm, (by rw [cif_t hC, tn_nI (show k1 < 2 ^ 31 by omega), tn_nI (show k2 < 2 ^ 31 by omega), tn_nI (show k3 < 2 ^ 31 by omega)]), (by rw [cif_t hC, tn_nI (show k1 < 2 ^ 31 by omega), tn_nI (show k2 < 2 ^ 31 by omega), tn_nI (show k4 < 2 ^ 31 by omega)]), (cif_t hC).symm, b_10, b_11⟩, by rw [ht]; exact hP, hD⟩, hS.F ht⟩) hS.2.2 dX5_cut_64
      · refine ln_if_neF (tgt := 29) hx hb dX5_cut_24 (by decide) (by decide) ?_
        refine lv_iconst (v := nI 0) hx hb dX5_cut_27 (by decide) ?_
        have hC : ¬ pc_cut nL (nI k1) (nI k2) (nI k3) x4 := (fun q => c_9 q.2.2.2)
        exact W.zret (v := (nI 0)) hx hb hr (by decide) (fun t ht hW => ⟨⟨(nI 0), (sa, fc, fd), rfl, ⟨(cif_f hC).symm, (cif_f hC).symm, (cif_f hC).symm, (cif_f hC).symm, bLc, bLd⟩, by rw [ht]; exact hP, hD⟩, hS.F ht⟩) hS.2.2 dX5_cut_28
    · refine ln_if_eqT (tgt := 27) hx hb dX5_cut_16 (by decide) (by decide) ?_
      refine lv_iconst (v := nI 0) hx hb dX5_cut_27 (by decide) ?_
      have hC : ¬ pc_cut nL (nI k1) (nI k2) x3 x4 := (fun q => c_6 q.2.2.1)
      exact W.zret (v := (nI 0)) hx hb hr (by decide) (fun t ht hW => ⟨⟨(nI 0), (sa, fc, fd), rfl, ⟨(cif_f hC).symm, (cif_f hC).symm, (cif_f hC).symm, (cif_f hC).symm, bLc, bLd⟩, by rw [ht]; exact hP, hD⟩, hS.F ht⟩) hS.2.2 dX5_cut_28
  · refine ln_if_eqT (tgt := 27) hx hb dX5_cut_9 (by decide) (by decide) ?_
    refine lv_iconst (v := nI 0) hx hb dX5_cut_27 (by decide) ?_
    have hC : ¬ pc_cut nL x1 x2 x3 x4 := (fun q => c_3 ⟨q.1, q.2.1⟩)
    exact W.zret (v := (nI 0)) hx hb hr (by decide) (fun t ht hW => ⟨⟨(nI 0), (sa, fc, fd), rfl, ⟨(cif_f hC).symm, (cif_f hC).symm, (cif_f hC).symm, (cif_f hC).symm, bLc, bLd⟩, by rw [ht]; exact hP, hD⟩, hS.F ht⟩) hS.2.2 dX5_cut_28
theorem mX5_stain_0 : Cond.fieldLink RX5 12 "LeafOrder" "pile" "LLeafOrder$Leaves;" ∈ wsX5_stain := by decide +kernel
theorem mX5_stain_inX5 : ∀ w ∈ wsX50, w ∈ wsX5_stain := by decide +kernel
theorem mX5_stain_2 : Cond.fieldLink RX5 89 "LeafOrder$Leaves" "stains" "[I" ∈ wsX5_stain := by decide +kernel
theorem mX5_stain_inX1 : ∀ w ∈ wsX10, w ∈ wsX5_stain := by decide +kernel
theorem mX5_stain_4 : Cond.fieldLink RX5 54 "LeafOrder" "stale" "Z" ∈ wsX5_stain := by decide +kernel
set_option maxHeartbeats 4000000 in
set_option maxRecDepth 100000 in
theorem k_X5_stain (l : Launch) (dC : Nat → ClassId) (dI : Nat → Nat → Nat) (cI cZ : ClassId) (aX aL aC aR aS aB aLb aLe aLw aLc aLd aLs : Nat) (mt : Nat) (sa : Nat) (nL : Nat) (fs : Nat → Nat) (x1 : Int32) (x2 : Int32) (x3 : Int32) (sz : Nat) (bLs : ∀ k, fs k ≤ 99) (hn : nL ≤ 9) : Met l yX5_stain wsX5_stain { frames := 2, cells := 0, slots := 0, locals := 41 } (va_Pc [.ref aX, .int x1, .int x2, .int x3] (fun U => U.heap.size = sz ∧ va_P (dC, dI) vwCl [(aX, .inr (5, [.ref aL, .ref aC, .ref aR, .ref aS, .ref aB, .int (nI mt), .int (nI sa)])), (aL, .inr (1, [.int (nI nL), .ref aLb, .ref aLe, .ref aLw, .ref aLc, .ref aLd, .ref aLs])), (aLs, .inl (cI, 27, .inl (nF fs)))] U.heap ∧ lK dC dI cI cZ U ∧ va_D (fun _ => True) [(aX, .inr (5, [.ref aL, .ref aC, .ref aR, .ref aS, .ref aB, .int (nI mt), .int (nI sa)])), (aL, .inr (1, [.int (nI nL), .ref aLb, .ref aLe, .ref aLw, .ref aLc, .ref aLd, .ref aLs])), (aLs, .inl (cI, 27, .inl (nF fs)))])) (va_Qi (fun (r : Int32) (u : (Nat) × (Nat → Nat)) => match u with | (saz, fsz) => r = cif (pc_stain nL x1 x2 x3) (nI 1) (nI 0) ∧ fsz = cif (pc_stain nL x1 x2 x3) (upN fs (3 * tn x1 + tn x2) (tn x3)) fs ∧ saz = cif (pc_stain nL x1 x2 x3) 1 sa ∧ (∀ k, fsz k ≤ 99)) (fun (u : (Nat) × (Nat → Nat)) (t : State) => match u with | (saz, fsz) => va_P (dC, dI) vwCl [(aX, .inr (5, [.ref aL, .ref aC, .ref aR, .ref aS, .ref aB, .int (nI mt), .int (nI saz)])), (aL, .inr (1, [.int (nI nL), .ref aLb, .ref aLe, .ref aLw, .ref aLc, .ref aLd, .ref aLs])), (aLs, .inl (cI, 27, .inl (nF fsz)))] t.heap ∧ va_D (va_A [(aX, .inr (5, [.ref aL, .ref aC, .ref aR, .ref aS, .ref aB, .int (nI mt), .int (nI sa)])), (aL, .inr (1, [.int (nI nL), .ref aLb, .ref aLe, .ref aLw, .ref aLc, .ref aLd, .ref aLs])), (aLs, .inl (cI, 27, .inl (nF fs)))] sz) [(aX, .inr (5, [.ref aL, .ref aC, .ref aR, .ref aS, .ref aB, .int (nI mt), .int (nI saz)])), (aL, .inr (1, [.int (nI nL), .ref aLb, .ref aLe, .ref aLw, .ref aLc, .ref aLd, .ref aLs])), (aLs, .inl (cI, 27, .inl (nF fsz)))]) (va_A [(aX, .inr (5, [.ref aL, .ref aC, .ref aR, .ref aS, .ref aB, .int (nI mt), .int (nI sa)])), (aL, .inr (1, [.int (nI nL), .ref aLb, .ref aLe, .ref aLw, .ref aLc, .ref aLd, .ref aLs])), (aLs, .inl (cI, 27, .inl (nF fs)))] sz)) 0 0 (va_A [(aX, .inr (5, [.ref aL, .ref aC, .ref aR, .ref aS, .ref aB, .int (nI mt), .int (nI sa)])), (aL, .inr (1, [.int (nI nL), .ref aLb, .ref aLe, .ref aLw, .ref aLc, .ref aLd, .ref aLs])), (aLs, .inl (cI, 27, .inl (nF fs)))] sz) := by
  refine Met.ofW (cc := cX5_stain) (maxL := 4) (ret := (some .boolean)) (by decide) rfl ?_
  intro p e s m args below meth c s₁ B hml hv
  obtain ⟨rfl, hsz, hP, hKK, hD0⟩ := hv
  have hK := hKK.1
  have hx := B.exec
  have hb := B.bytes
  have hr := B.returns
  have hts := atoms_spec (ws := wsX5_stain) B.pre
  have hown : s.vm.findClass RX5 = some m.cls := findClass_of_methodNamed B.named
  have hlocks := B.notSynchronized
  subst hsz
  have hD := hD0.self (sz := s.heap.size)
  generalize hAe : va_A [(aX, .inr (5, [.ref aL, .ref aC, .ref aR, .ref aS, .ref aB, .int (nI mt), .int (nI sa)])), (aL, .inr (1, [.int (nI nL), .ref aLb, .ref aLe, .ref aLw, .ref aLc, .ref aLd, .ref aLs])), (aLs, .inl (cI, 27, .inl (nF fs)))] s.heap.size = A at hD ⊢
  have hA : ∀ q : Nat, s.heap.size ≤ q → A q := fun q h => by rw [← hAe]; exact Or.inr h
  have hS : va_S A s.heap s.heap [] := va_S.rf
  have hl := lv_entry ([.ref aX, .int x1, .int x2, .int x3]) (n := 4) (Nat.le_of_ble_eq_true rfl)
  rw [lg_entry_eq]
  generalize (lg_sl ([.ref aX, .int x1, .int x2, .int x3]) ++ List.replicate (4 - (lg_sl ([.ref aX, .int x1, .int x2, .int x3])).length) Slot.unset).toArray = ls at hl ⊢
  have hl : lv_has ls 4 [(0, .ref aX), (1, .int x1), (2, .int x2), (3, .int x3)] := hl
  refine lv_aload_n hx hb dX5_stain_0 rfl (lv_at hl 0 rfl) ?_
  refine va_get (D := (dC, dI)) (ci := 5) (v := .ref aL) (C := RX5) (T := TX5) (N := 7) hx hb hts mX5_stain_inX5 hown hK hP 0 rfl rfl 0 (by decide) (hts (.fieldLink RX5 12 "LeafOrder" "pile" "LLeafOrder$Leaves;") mX5_stain_0) (fun _ h9 => h9) rfl dX5_stain_1 ?_
  refine lv_iload_n hx hb dX5_stain_4 rfl (lv_at hl 1 rfl) ?_
  have hPc := hP.sub (ws' := [(aL, .inr (1, [.int (nI nL), .ref aLb, .ref aLe, .ref aLw, .ref aLc, .ref aLd, .ref aLs]))]) [1] rfl
  refine vp_callSi (W.runV (As := [.int x1]) (rest := []) ⟨hx, hb, hml, hown, hts⟩ (k_X1_has l dC dI cI cZ aL aLb aLe aLw aLc aLd aLs nL x1 (by omega)) (cwV 1 hts gX5_stain_X1_has rfl rfl rfl (by decide +kernel) ⟨Nat.le_of_ble_eq_true rfl, Nat.le_of_ble_eq_true rfl⟩) (ln_preV (q0 := 0) (ci := 1) hPc hKK rfl rfl) rfl rfl hl.1 rfl (lv_room (Nat.le_of_ble_eq_true rfl)) dX5_stain_5 ⟨Nat.le_of_ble_eq_true rfl, Nat.le_of_ble_eq_true rfl⟩) (fun r_1 w_2 => ?_)
  rcases w_2 with ⟨rfl, c_3⟩ | ⟨rfl, c_3⟩
  · obtain ⟨k1, hk1, rfl⟩ := c_3
    refine ln_if_eqF (tgt := 26) hx hb dX5_stain_8 (by decide) (by decide) ?_
    refine lv_iload_n hx hb dX5_stain_11 rfl (lv_at hl 2 rfl) ?_
    refine lv_iconst (v := nI 2) hx hb dX5_stain_12 (by decide) ?_
    refine vp_callSi (W.runS (As := [.int x2, .int (nI 2)]) (rest := []) ⟨hx, hb, hml, hown, hts⟩ (k_X5_isWithin l dC dI cI cZ x2 2 (by decide)) (va_cwS 2 hts gX5_stain_X5_isWithin rfl rfl rfl (by decide +kernel) ⟨Nat.le_of_ble_eq_true rfl, Nat.le_of_ble_eq_true rfl⟩) ln_preS0 rfl rfl hl.1 rfl (lv_room (Nat.le_of_ble_eq_true rfl)) dX5_stain_13 ⟨Nat.le_of_ble_eq_true rfl, Nat.le_of_ble_eq_true rfl⟩) (fun r_4 w_5 => ?_)
    rcases w_5 with ⟨rfl, c_6⟩ | ⟨rfl, c_6⟩
    · obtain ⟨k2, hk2, rfl⟩ := c_6
      refine ln_if_eqF (tgt := 26) hx hb dX5_stain_16 (by decide) (by decide) ?_
      refine lv_iload_n hx hb dX5_stain_19 rfl (lv_at hl 3 rfl) ?_
      refine vp_callSi (W.runS (As := [.int x3]) (rest := []) ⟨hx, hb, hml, hown, hts⟩ (k_X5_isMark l dC dI cI cZ x3) (va_cwS 1 hts gX5_stain_X5_isMark rfl rfl rfl (by decide +kernel) ⟨Nat.le_of_ble_eq_true rfl, Nat.le_of_ble_eq_true rfl⟩) ln_preS0 rfl rfl hl.1 rfl (lv_room (Nat.le_of_ble_eq_true rfl)) dX5_stain_20 ⟨Nat.le_of_ble_eq_true rfl, Nat.le_of_ble_eq_true rfl⟩) (fun r_7 w_8 => ?_)
      rcases w_8 with ⟨rfl, c_9⟩ | ⟨rfl, c_9⟩
      · obtain ⟨k3, hk3, rfl⟩ := c_9
        refine ln_if_neT (tgt := 28) hx hb dX5_stain_23 (by decide) (by decide) ?_
        refine lv_aload_n hx hb dX5_stain_28 rfl (lv_at hl 0 rfl) ?_
        refine va_get (D := (dC, dI)) (ci := 5) (v := .ref aL) (C := RX5) (T := TX5) (N := 7) hx hb hts mX5_stain_inX5 hown hK hP 0 rfl rfl 0 (by decide) (hts (.fieldLink RX5 12 "LeafOrder" "pile" "LLeafOrder$Leaves;") mX5_stain_0) (fun _ h9 => h9) rfl dX5_stain_29 ?_
        refine va_get (D := (dC, dI)) (ci := 1) (v := .ref aLs) (C := RX1) (T := TX1) (N := 7) hx hb hts mX5_stain_inX1 hown hK hP 1 rfl rfl 6 (by decide) (hts (.fieldLink RX5 89 "LeafOrder$Leaves" "stains" "[I") mX5_stain_2) (fun _ h9 => h9) rfl dX5_stain_32 ?_
        refine lv_iconst (v := nI 3) hx hb dX5_stain_35 (by decide) ?_
        refine lv_iload_n hx hb dX5_stain_36 rfl (lv_at hl 1 rfl) ?_
        refine ln_imul hx hb dX5_stain_37 ?_
        refine lv_iload_n hx hb dX5_stain_38 rfl (lv_at hl 2 rfl) ?_
        refine ln_iadd hx hb dX5_stain_39 ?_
        refine lv_iload_n hx hb dX5_stain_40 rfl (lv_at hl 3 rfl) ?_
        refine ln_iast (i := (3 * k1) + k2) hx hb hK hP hD hS 2 0 rfl rfl (by omega) (by decide) dX5_stain_41 (fun H locs hP hD hS => ?_)
        have b_10 : ∀ k, (upN fs ((3 * k1) + k2) k3) k ≤ 99 := upN_le bLs (by omega)
        have hP : va_P (dC, dI) vwCl [(aX, .inr (5, [.ref aL, .ref aC, .ref aR, .ref aS, .ref aB, .int (nI mt), .int (nI sa)])), (aL, .inr (1, [.int (nI nL), .ref aLb, .ref aLe, .ref aLw, .ref aLc, .ref aLd, .ref aLs])), (aLs, .inl (cI, 27, .inl (nF (upN fs ((3 * k1) + k2) k3))))] H := hP
        have hD : va_D A [(aX, .inr (5, [.ref aL, .ref aC, .ref aR, .ref aS, .ref aB, .int (nI mt), .int (nI sa)])), (aL, .inr (1, [.int (nI nL), .ref aLb, .ref aLe, .ref aLw, .ref aLc, .ref aLd, .ref aLs])), (aLs, .inl (cI, 27, .inl (nF (upN fs ((3 * k1) + k2) k3))))] := hD
        refine lv_aload_n hx hb dX5_stain_42 rfl (lv_at hl 0 rfl) ?_
        refine lv_iconst (v := nI 1) hx hb dX5_stain_43 (by decide) ?_
        refine va_put (D := (dC, dI)) (ci := 5) (v := .int (nI 1)) (ty := .boolean) (C := RX5) (T := TX5) (N := 7) hx hb hts mX5_stain_inX5 tyX5 tyX5_ok nmX5 hown hK hP hD hS 0 rfl rfl 6 (by decide) (hts (.fieldLink RX5 54 "LeafOrder" "stale" "Z") mX5_stain_4) (fun _ h9 => h9) rfl (by decide +kernel) rfl rfl (Nat.le_of_ble_eq_true rfl) dX5_stain_44 (fun H locs hP hD hS => ?_)
        have hP : va_P (dC, dI) vwCl [(aX, .inr (5, [.ref aL, .ref aC, .ref aR, .ref aS, .ref aB, .int (nI mt), .int (nI 1)])), (aL, .inr (1, [.int (nI nL), .ref aLb, .ref aLe, .ref aLw, .ref aLc, .ref aLd, .ref aLs])), (aLs, .inl (cI, 27, .inl (nF (upN fs ((3 * k1) + k2) k3))))] H := hP
        have hD : va_D A [(aX, .inr (5, [.ref aL, .ref aC, .ref aR, .ref aS, .ref aB, .int (nI mt), .int (nI 1)])), (aL, .inr (1, [.int (nI nL), .ref aLb, .ref aLe, .ref aLw, .ref aLc, .ref aLd, .ref aLs])), (aLs, .inl (cI, 27, .inl (nF (upN fs ((3 * k1) + k2) k3))))] := hD
        refine lv_iconst (v := nI 1) hx hb dX5_stain_47 (by decide) ?_
        have hC : pc_stain nL (nI k1) (nI k2) (nI k3) := ⟨⟨k1, hk1, rfl⟩, ⟨k2, hk2, rfl⟩, ⟨k3, hk3, rfl⟩⟩
        exact W.zret (v := (nI 1)) hx hb hr (by decide) (fun t ht hW => ⟨⟨(nI 1), (1, upN fs ((3 * k1) + k2) k3), rfl, ⟨(cif_t hC).symm, (by rw [cif_t hC, tn_nI (show k1 < 2 ^ 31 by omega), tn_nI (show k2 < 2 ^ 31 by omega), tn_nI (show k3 < 2 ^ 31 by omega)]), (cif_t hC).symm, b_10⟩, by rw [ht]; exact hP, hD⟩, hS.F ht⟩) hS.2.2 dX5_stain_48
      · refine ln_if_neF (tgt := 28) hx hb dX5_stain_23 (by decide) (by decide) ?_
        refine lv_iconst (v := nI 0) hx hb dX5_stain_26 (by decide) ?_
        have hC : ¬ pc_stain nL (nI k1) (nI k2) x3 := (fun q => c_9 q.2.2)
        exact W.zret (v := (nI 0)) hx hb hr (by decide) (fun t ht hW => ⟨⟨(nI 0), (sa, fs), rfl, ⟨(cif_f hC).symm, (cif_f hC).symm, (cif_f hC).symm, bLs⟩, by rw [ht]; exact hP, hD⟩, hS.F ht⟩) hS.2.2 dX5_stain_27
    · refine ln_if_eqT (tgt := 26) hx hb dX5_stain_16 (by decide) (by decide) ?_
      refine lv_iconst (v := nI 0) hx hb dX5_stain_26 (by decide) ?_
      have hC : ¬ pc_stain nL (nI k1) x2 x3 := (fun q => c_6 q.2.1)
      exact W.zret (v := (nI 0)) hx hb hr (by decide) (fun t ht hW => ⟨⟨(nI 0), (sa, fs), rfl, ⟨(cif_f hC).symm, (cif_f hC).symm, (cif_f hC).symm, bLs⟩, by rw [ht]; exact hP, hD⟩, hS.F ht⟩) hS.2.2 dX5_stain_27
  · refine ln_if_eqT (tgt := 26) hx hb dX5_stain_8 (by decide) (by decide) ?_
    refine lv_iconst (v := nI 0) hx hb dX5_stain_26 (by decide) ?_
    have hC : ¬ pc_stain nL x1 x2 x3 := (fun q => c_3 q.1)
    exact W.zret (v := (nI 0)) hx hb hr (by decide) (fun t ht hW => ⟨⟨(nI 0), (sa, fs), rfl, ⟨(cif_f hC).symm, (cif_f hC).symm, (cif_f hC).symm, bLs⟩, by rw [ht]; exact hP, hD⟩, hS.F ht⟩) hS.2.2 dX5_stain_27
theorem mX5_weights_0 : Cond.fieldLink RX5 21 "LeafOrder" "scale" "LLeafOrder$Scale;" ∈ wsX5_weights := by decide +kernel
theorem mX5_weights_inX5 : ∀ w ∈ wsX50, w ∈ wsX5_weights := by decide +kernel
theorem mX5_weights_2 : Cond.fieldLink RX5 92 "LeafOrder$Scale" "sizes" "[I" ∈ wsX5_weights := by decide +kernel
theorem mX5_weights_inX3 : ∀ w ∈ wsX30, w ∈ wsX5_weights := by decide +kernel
theorem mX5_weights_4 : Cond.fieldLink RX5 54 "LeafOrder" "stale" "Z" ∈ wsX5_weights := by decide +kernel
set_option maxHeartbeats 4000000 in
set_option maxRecDepth 100000 in
theorem k_X5_weights (l : Launch) (dC : Nat → ClassId) (dI : Nat → Nat → Nat) (cI cZ : ClassId) (aX aL aC aR aS aB aCz : Nat) (mt : Nat) (sa : Nat) (fz : Nat → Nat) (x1 : Int32) (x2 : Int32) (x3 : Int32) (x4 : Int32) (x5 : Int32) (x6 : Int32) (sz : Nat) (bCz : ∀ k, fz k ≤ 999) : Met l yX5_weights wsX5_weights { frames := 1, cells := 0, slots := 0, locals := 21 } (va_Pc [.ref aX, .int x1, .int x2, .int x3, .int x4, .int x5, .int x6] (fun U => U.heap.size = sz ∧ va_P (dC, dI) vwCl [(aX, .inr (5, [.ref aL, .ref aC, .ref aR, .ref aS, .ref aB, .int (nI mt), .int (nI sa)])), (aC, .inr (3, [.ref aL, .ref aCz])), (aCz, .inl (cI, 6, .inl (nF fz)))] U.heap ∧ lK dC dI cI cZ U ∧ va_D (fun _ => True) [(aX, .inr (5, [.ref aL, .ref aC, .ref aR, .ref aS, .ref aB, .int (nI mt), .int (nI sa)])), (aC, .inr (3, [.ref aL, .ref aCz])), (aCz, .inl (cI, 6, .inl (nF fz)))])) (va_Qi (fun (r : Int32) (u : (Nat) × (Nat → Nat)) => match u with | (saz, fzz) => r = cif (pc_weights x1 x2 x3 x4 x5 x6) (nI 1) (nI 0) ∧ fzz = cif (pc_weights x1 x2 x3 x4 x5 x6) (pw_fz fz x1 x2 x3 x4 x5 x6) fz ∧ saz = cif (pc_weights x1 x2 x3 x4 x5 x6) 1 sa ∧ (∀ k, fzz k ≤ 999)) (fun (u : (Nat) × (Nat → Nat)) (t : State) => match u with | (saz, fzz) => va_P (dC, dI) vwCl [(aX, .inr (5, [.ref aL, .ref aC, .ref aR, .ref aS, .ref aB, .int (nI mt), .int (nI saz)])), (aC, .inr (3, [.ref aL, .ref aCz])), (aCz, .inl (cI, 6, .inl (nF fzz)))] t.heap ∧ va_D (va_A [(aX, .inr (5, [.ref aL, .ref aC, .ref aR, .ref aS, .ref aB, .int (nI mt), .int (nI sa)])), (aC, .inr (3, [.ref aL, .ref aCz])), (aCz, .inl (cI, 6, .inl (nF fz)))] sz) [(aX, .inr (5, [.ref aL, .ref aC, .ref aR, .ref aS, .ref aB, .int (nI mt), .int (nI saz)])), (aC, .inr (3, [.ref aL, .ref aCz])), (aCz, .inl (cI, 6, .inl (nF fzz)))]) (va_A [(aX, .inr (5, [.ref aL, .ref aC, .ref aR, .ref aS, .ref aB, .int (nI mt), .int (nI sa)])), (aC, .inr (3, [.ref aL, .ref aCz])), (aCz, .inl (cI, 6, .inl (nF fz)))] sz)) 0 0 (va_A [(aX, .inr (5, [.ref aL, .ref aC, .ref aR, .ref aS, .ref aB, .int (nI mt), .int (nI sa)])), (aC, .inr (3, [.ref aL, .ref aCz])), (aCz, .inl (cI, 6, .inl (nF fz)))] sz) := by
  refine Met.ofW (cc := cX5_weights) (maxL := 8) (ret := (some .boolean)) (by decide) rfl ?_
  intro p e s m args below meth c s₁ B hml hv
  obtain ⟨rfl, hsz, hP, hKK, hD0⟩ := hv
  have hK := hKK.1
  have hx := B.exec
  have hb := B.bytes
  have hr := B.returns
  have hts := atoms_spec (ws := wsX5_weights) B.pre
  have hown : s.vm.findClass RX5 = some m.cls := findClass_of_methodNamed B.named
  have hlocks := B.notSynchronized
  subst hsz
  have hD := hD0.self (sz := s.heap.size)
  generalize hAe : va_A [(aX, .inr (5, [.ref aL, .ref aC, .ref aR, .ref aS, .ref aB, .int (nI mt), .int (nI sa)])), (aC, .inr (3, [.ref aL, .ref aCz])), (aCz, .inl (cI, 6, .inl (nF fz)))] s.heap.size = A at hD ⊢
  have hA : ∀ q : Nat, s.heap.size ≤ q → A q := fun q h => by rw [← hAe]; exact Or.inr h
  have hS : va_S A s.heap s.heap [] := va_S.rf
  have hl := lv_entry ([.ref aX, .int x1, .int x2, .int x3, .int x4, .int x5, .int x6]) (n := 8) (Nat.le_of_ble_eq_true rfl)
  rw [lg_entry_eq]
  generalize (lg_sl ([.ref aX, .int x1, .int x2, .int x3, .int x4, .int x5, .int x6]) ++ List.replicate (8 - (lg_sl ([.ref aX, .int x1, .int x2, .int x3, .int x4, .int x5, .int x6])).length) Slot.unset).toArray = ls at hl ⊢
  have hl : lv_has ls 8 [(0, .ref aX), (1, .int x1), (2, .int x2), (3, .int x3), (4, .int x4), (5, .int x5), (6, .int x6)] := hl
  refine lv_iload_n hx hb dX5_weights_0 rfl (lv_at hl 1 rfl) ?_
  refine lv_bipush (v := nI 9) hx hb dX5_weights_1 (by decide) ?_
  refine vp_callSi (W.runS (As := [.int x1, .int (nI 9)]) (rest := []) ⟨hx, hb, hml, hown, hts⟩ (k_X5_isWithin l dC dI cI cZ x1 9 (by decide)) (va_cwS 2 hts gX5_weights_X5_isWithin rfl rfl rfl (by decide +kernel) ⟨Nat.le_of_ble_eq_true rfl, Nat.le_of_ble_eq_true rfl⟩) ln_preS0 rfl rfl hl.1 rfl (lv_room (Nat.le_of_ble_eq_true rfl)) dX5_weights_3 ⟨Nat.le_of_ble_eq_true rfl, Nat.le_of_ble_eq_true rfl⟩) (fun r_1 w_2 => ?_)
  rcases w_2 with ⟨rfl, c_3⟩ | ⟨rfl, c_3⟩
  · obtain ⟨k1, hk1, rfl⟩ := c_3
    refine ln_if_eqF (tgt := 62) hx hb dX5_weights_6 (by decide) (by decide) ?_
    refine lv_iload_n hx hb dX5_weights_9 rfl (lv_at hl 2 rfl) ?_
    refine lv_bipush (v := nI 9) hx hb dX5_weights_10 (by decide) ?_
    refine vp_callSi (W.runS (As := [.int x2, .int (nI 9)]) (rest := []) ⟨hx, hb, hml, hown, hts⟩ (k_X5_isWithin l dC dI cI cZ x2 9 (by decide)) (va_cwS 2 hts gX5_weights_X5_isWithin rfl rfl rfl (by decide +kernel) ⟨Nat.le_of_ble_eq_true rfl, Nat.le_of_ble_eq_true rfl⟩) ln_preS0 rfl rfl hl.1 rfl (lv_room (Nat.le_of_ble_eq_true rfl)) dX5_weights_12 ⟨Nat.le_of_ble_eq_true rfl, Nat.le_of_ble_eq_true rfl⟩) (fun r_4 w_5 => ?_)
    rcases w_5 with ⟨rfl, c_6⟩ | ⟨rfl, c_6⟩
    · obtain ⟨k2, hk2, rfl⟩ := c_6
      refine ln_if_eqF (tgt := 62) hx hb dX5_weights_15 (by decide) (by decide) ?_
      refine lv_iload_n hx hb dX5_weights_18 rfl (lv_at hl 3 rfl) ?_
      refine lv_bipush (v := nI 99) hx hb dX5_weights_19 (by decide) ?_
      refine vp_callSi (W.runS (As := [.int x3, .int (nI 99)]) (rest := []) ⟨hx, hb, hml, hown, hts⟩ (k_X5_isWithin l dC dI cI cZ x3 99 (by decide)) (va_cwS 2 hts gX5_weights_X5_isWithin rfl rfl rfl (by decide +kernel) ⟨Nat.le_of_ble_eq_true rfl, Nat.le_of_ble_eq_true rfl⟩) ln_preS0 rfl rfl hl.1 rfl (lv_room (Nat.le_of_ble_eq_true rfl)) dX5_weights_21 ⟨Nat.le_of_ble_eq_true rfl, Nat.le_of_ble_eq_true rfl⟩) (fun r_7 w_8 => ?_)
      rcases w_8 with ⟨rfl, c_9⟩ | ⟨rfl, c_9⟩
      · obtain ⟨k3, hk3, rfl⟩ := c_9
        refine ln_if_eqF (tgt := 62) hx hb dX5_weights_24 (by decide) (by decide) ?_
        refine lv_iload hx hb dX5_weights_27 (lv_at hl 4 rfl) ?_
        refine lv_bipush (v := nI 99) hx hb dX5_weights_29 (by decide) ?_
        refine vp_callSi (W.runS (As := [.int x4, .int (nI 99)]) (rest := []) ⟨hx, hb, hml, hown, hts⟩ (k_X5_isWithin l dC dI cI cZ x4 99 (by decide)) (va_cwS 2 hts gX5_weights_X5_isWithin rfl rfl rfl (by decide +kernel) ⟨Nat.le_of_ble_eq_true rfl, Nat.le_of_ble_eq_true rfl⟩) ln_preS0 rfl rfl hl.1 rfl (lv_room (Nat.le_of_ble_eq_true rfl)) dX5_weights_31 ⟨Nat.le_of_ble_eq_true rfl, Nat.le_of_ble_eq_true rfl⟩) (fun r_10 w_11 => ?_)
        rcases w_11 with ⟨rfl, c_12⟩ | ⟨rfl, c_12⟩
        · obtain ⟨k4, hk4, rfl⟩ := c_12
          refine ln_if_eqF (tgt := 62) hx hb dX5_weights_34 (by decide) (by decide) ?_
          refine lv_iload hx hb dX5_weights_37 (lv_at hl 5 rfl) ?_
          refine lv_bipush (v := nI 99) hx hb dX5_weights_39 (by decide) ?_
          refine vp_callSi (W.runS (As := [.int x5, .int (nI 99)]) (rest := []) ⟨hx, hb, hml, hown, hts⟩ (k_X5_isWithin l dC dI cI cZ x5 99 (by decide)) (va_cwS 2 hts gX5_weights_X5_isWithin rfl rfl rfl (by decide +kernel) ⟨Nat.le_of_ble_eq_true rfl, Nat.le_of_ble_eq_true rfl⟩) ln_preS0 rfl rfl hl.1 rfl (lv_room (Nat.le_of_ble_eq_true rfl)) dX5_weights_41 ⟨Nat.le_of_ble_eq_true rfl, Nat.le_of_ble_eq_true rfl⟩) (fun r_13 w_14 => ?_)
          rcases w_14 with ⟨rfl, c_15⟩ | ⟨rfl, c_15⟩
          · obtain ⟨k5, hk5, rfl⟩ := c_15
            refine ln_if_eqF (tgt := 62) hx hb dX5_weights_44 (by decide) (by decide) ?_
            refine lv_iload hx hb dX5_weights_47 (lv_at hl 6 rfl) ?_
            refine lv_sipush (v := nI 999) hx hb dX5_weights_49 (by decide) ?_
            refine vp_callSi (W.runS (As := [.int x6, .int (nI 999)]) (rest := []) ⟨hx, hb, hml, hown, hts⟩ (k_X5_isWithin l dC dI cI cZ x6 999 (by decide)) (va_cwS 2 hts gX5_weights_X5_isWithin rfl rfl rfl (by decide +kernel) ⟨Nat.le_of_ble_eq_true rfl, Nat.le_of_ble_eq_true rfl⟩) ln_preS0 rfl rfl hl.1 rfl (lv_room (Nat.le_of_ble_eq_true rfl)) dX5_weights_52 ⟨Nat.le_of_ble_eq_true rfl, Nat.le_of_ble_eq_true rfl⟩) (fun r_16 w_17 => ?_)
            rcases w_17 with ⟨rfl, c_18⟩ | ⟨rfl, c_18⟩
            · obtain ⟨k6, hk6, rfl⟩ := c_18
              refine ln_if_eqF (tgt := 62) hx hb dX5_weights_55 (by decide) (by decide) ?_
              refine lv_iconst (v := nI 1) hx hb dX5_weights_58 (by decide) ?_
              refine lv_goto (tgt := 63) hx hb dX5_weights_59 (by decide) ?_
              refine lv_istore (lv' := [(7, .int (nI 1)), (0, .ref aX), (1, .int (nI k1)), (2, .int (nI k2)), (3, .int (nI k3)), (4, .int (nI k4)), (5, .int (nI k5)), (6, .int (nI k6))]) hx hb dX5_weights_63 hl (by decide) rfl (fun ls hl => ?_)
              refine lv_iload hx hb dX5_weights_65 (lv_at hl 0 rfl) ?_
              refine ln_if_neT (tgt := 72) hx hb dX5_weights_67 (by decide) (by decide) ?_
              refine lv_aload_n hx hb dX5_weights_72 rfl (lv_at hl 1 rfl) ?_
              refine va_get (D := (dC, dI)) (ci := 5) (v := .ref aC) (C := RX5) (T := TX5) (N := 7) hx hb hts mX5_weights_inX5 hown hK hP 0 rfl rfl 1 (by decide) (hts (.fieldLink RX5 21 "LeafOrder" "scale" "LLeafOrder$Scale;") mX5_weights_0) (fun _ h9 => h9) rfl dX5_weights_73 ?_
              refine va_get (D := (dC, dI)) (ci := 3) (v := .ref aCz) (C := RX3) (T := TX3) (N := 2) hx hb hts mX5_weights_inX3 hown hK hP 1 rfl rfl 1 (by decide) (hts (.fieldLink RX5 92 "LeafOrder$Scale" "sizes" "[I") mX5_weights_2) (fun _ h9 => h9) rfl dX5_weights_76 ?_
              refine lv_iconst (v := nI 0) hx hb dX5_weights_79 (by decide) ?_
              refine lv_iload_n hx hb dX5_weights_80 rfl (lv_at hl 2 rfl) ?_
              refine ln_iast (i := 0) hx hb hK hP hD hS 2 0 rfl rfl (by omega) (by decide) dX5_weights_81 (fun H locs hP hD hS => ?_)
              have b_19 : ∀ k, (upN fz 0 k1) k ≤ 999 := upN_le bCz (by omega)
              have hP : va_P (dC, dI) vwCl [(aX, .inr (5, [.ref aL, .ref aC, .ref aR, .ref aS, .ref aB, .int (nI mt), .int (nI sa)])), (aC, .inr (3, [.ref aL, .ref aCz])), (aCz, .inl (cI, 6, .inl (nF (upN fz 0 k1))))] H := hP
              have hD : va_D A [(aX, .inr (5, [.ref aL, .ref aC, .ref aR, .ref aS, .ref aB, .int (nI mt), .int (nI sa)])), (aC, .inr (3, [.ref aL, .ref aCz])), (aCz, .inl (cI, 6, .inl (nF (upN fz 0 k1))))] := hD
              refine lv_aload_n hx hb dX5_weights_82 rfl (lv_at hl 1 rfl) ?_
              refine va_get (D := (dC, dI)) (ci := 5) (v := .ref aC) (C := RX5) (T := TX5) (N := 7) hx hb hts mX5_weights_inX5 hown hK hP 0 rfl rfl 1 (by decide) (hts (.fieldLink RX5 21 "LeafOrder" "scale" "LLeafOrder$Scale;") mX5_weights_0) (fun _ h9 => h9) rfl dX5_weights_83 ?_
              refine va_get (D := (dC, dI)) (ci := 3) (v := .ref aCz) (C := RX3) (T := TX3) (N := 2) hx hb hts mX5_weights_inX3 hown hK hP 1 rfl rfl 1 (by decide) (hts (.fieldLink RX5 92 "LeafOrder$Scale" "sizes" "[I") mX5_weights_2) (fun _ h9 => h9) rfl dX5_weights_86 ?_
              refine lv_iconst (v := nI 1) hx hb dX5_weights_89 (by decide) ?_
              refine lv_iload_n hx hb dX5_weights_90 rfl (lv_at hl 3 rfl) ?_
              refine ln_iast (i := 1) hx hb hK hP hD hS 2 0 rfl rfl (by omega) (by decide) dX5_weights_91 (fun H locs hP hD hS => ?_)
              have b_20 : ∀ k, (upN (upN fz 0 k1) 1 k2) k ≤ 999 := upN_le b_19 (by omega)
              have hP : va_P (dC, dI) vwCl [(aX, .inr (5, [.ref aL, .ref aC, .ref aR, .ref aS, .ref aB, .int (nI mt), .int (nI sa)])), (aC, .inr (3, [.ref aL, .ref aCz])), (aCz, .inl (cI, 6, .inl (nF (upN (upN fz 0 k1) 1 k2))))] H := hP
              have hD : va_D A [(aX, .inr (5, [.ref aL, .ref aC, .ref aR, .ref aS, .ref aB, .int (nI mt), .int (nI sa)])), (aC, .inr (3, [.ref aL, .ref aCz])), (aCz, .inl (cI, 6, .inl (nF (upN (upN fz 0 k1) 1 k2))))] := hD
              refine lv_aload_n hx hb dX5_weights_92 rfl (lv_at hl 1 rfl) ?_
              refine va_get (D := (dC, dI)) (ci := 5) (v := .ref aC) (C := RX5) (T := TX5) (N := 7) hx hb hts mX5_weights_inX5 hown hK hP 0 rfl rfl 1 (by decide) (hts (.fieldLink RX5 21 "LeafOrder" "scale" "LLeafOrder$Scale;") mX5_weights_0) (fun _ h9 => h9) rfl dX5_weights_93 ?_
              refine va_get (D := (dC, dI)) (ci := 3) (v := .ref aCz) (C := RX3) (T := TX3) (N := 2) hx hb hts mX5_weights_inX3 hown hK hP 1 rfl rfl 1 (by decide) (hts (.fieldLink RX5 92 "LeafOrder$Scale" "sizes" "[I") mX5_weights_2) (fun _ h9 => h9) rfl dX5_weights_96 ?_
              refine lv_iconst (v := nI 2) hx hb dX5_weights_99 (by decide) ?_
              refine lv_iload_n hx hb dX5_weights_100 rfl (lv_at hl 4 rfl) ?_
              refine ln_iast (i := 2) hx hb hK hP hD hS 2 0 rfl rfl (by omega) (by decide) dX5_weights_101 (fun H locs hP hD hS => ?_)
              have b_21 : ∀ k, (upN (upN (upN fz 0 k1) 1 k2) 2 k3) k ≤ 999 := upN_le b_20 (by omega)
              have hP : va_P (dC, dI) vwCl [(aX, .inr (5, [.ref aL, .ref aC, .ref aR, .ref aS, .ref aB, .int (nI mt), .int (nI sa)])), (aC, .inr (3, [.ref aL, .ref aCz])), (aCz, .inl (cI, 6, .inl (nF (upN (upN (upN fz 0 k1) 1 k2) 2 k3))))] H := hP
              have hD : va_D A [(aX, .inr (5, [.ref aL, .ref aC, .ref aR, .ref aS, .ref aB, .int (nI mt), .int (nI sa)])), (aC, .inr (3, [.ref aL, .ref aCz])), (aCz, .inl (cI, 6, .inl (nF (upN (upN (upN fz 0 k1) 1 k2) 2 k3))))] := hD
              refine lv_aload_n hx hb dX5_weights_102 rfl (lv_at hl 1 rfl) ?_
              refine va_get (D := (dC, dI)) (ci := 5) (v := .ref aC) (C := RX5) (T := TX5) (N := 7) hx hb hts mX5_weights_inX5 hown hK hP 0 rfl rfl 1 (by decide) (hts (.fieldLink RX5 21 "LeafOrder" "scale" "LLeafOrder$Scale;") mX5_weights_0) (fun _ h9 => h9) rfl dX5_weights_103 ?_
              refine va_get (D := (dC, dI)) (ci := 3) (v := .ref aCz) (C := RX3) (T := TX3) (N := 2) hx hb hts mX5_weights_inX3 hown hK hP 1 rfl rfl 1 (by decide) (hts (.fieldLink RX5 92 "LeafOrder$Scale" "sizes" "[I") mX5_weights_2) (fun _ h9 => h9) rfl dX5_weights_106 ?_
              refine lv_iconst (v := nI 3) hx hb dX5_weights_109 (by decide) ?_
              refine lv_iload hx hb dX5_weights_110 (lv_at hl 5 rfl) ?_
              refine ln_iast (i := 3) hx hb hK hP hD hS 2 0 rfl rfl (by omega) (by decide) dX5_weights_112 (fun H locs hP hD hS => ?_)
              have b_22 : ∀ k, (upN (upN (upN (upN fz 0 k1) 1 k2) 2 k3) 3 k4) k ≤ 999 := upN_le b_21 (by omega)
              have hP : va_P (dC, dI) vwCl [(aX, .inr (5, [.ref aL, .ref aC, .ref aR, .ref aS, .ref aB, .int (nI mt), .int (nI sa)])), (aC, .inr (3, [.ref aL, .ref aCz])), (aCz, .inl (cI, 6, .inl (nF (upN (upN (upN (upN fz 0 k1) 1 k2) 2 k3) 3 k4))))] H := hP
              have hD : va_D A [(aX, .inr (5, [.ref aL, .ref aC, .ref aR, .ref aS, .ref aB, .int (nI mt), .int (nI sa)])), (aC, .inr (3, [.ref aL, .ref aCz])), (aCz, .inl (cI, 6, .inl (nF (upN (upN (upN (upN fz 0 k1) 1 k2) 2 k3) 3 k4))))] := hD
              refine lv_aload_n hx hb dX5_weights_113 rfl (lv_at hl 1 rfl) ?_
              refine va_get (D := (dC, dI)) (ci := 5) (v := .ref aC) (C := RX5) (T := TX5) (N := 7) hx hb hts mX5_weights_inX5 hown hK hP 0 rfl rfl 1 (by decide) (hts (.fieldLink RX5 21 "LeafOrder" "scale" "LLeafOrder$Scale;") mX5_weights_0) (fun _ h9 => h9) rfl dX5_weights_114 ?_
              refine va_get (D := (dC, dI)) (ci := 3) (v := .ref aCz) (C := RX3) (T := TX3) (N := 2) hx hb hts mX5_weights_inX3 hown hK hP 1 rfl rfl 1 (by decide) (hts (.fieldLink RX5 92 "LeafOrder$Scale" "sizes" "[I") mX5_weights_2) (fun _ h9 => h9) rfl dX5_weights_117 ?_
              refine lv_iconst (v := nI 4) hx hb dX5_weights_120 (by decide) ?_
              refine lv_iload hx hb dX5_weights_121 (lv_at hl 6 rfl) ?_
              refine ln_iast (i := 4) hx hb hK hP hD hS 2 0 rfl rfl (by omega) (by decide) dX5_weights_123 (fun H locs hP hD hS => ?_)
              have b_23 : ∀ k, (upN (upN (upN (upN (upN fz 0 k1) 1 k2) 2 k3) 3 k4) 4 k5) k ≤ 999 := upN_le b_22 (by omega)
              have hP : va_P (dC, dI) vwCl [(aX, .inr (5, [.ref aL, .ref aC, .ref aR, .ref aS, .ref aB, .int (nI mt), .int (nI sa)])), (aC, .inr (3, [.ref aL, .ref aCz])), (aCz, .inl (cI, 6, .inl (nF (upN (upN (upN (upN (upN fz 0 k1) 1 k2) 2 k3) 3 k4) 4 k5))))] H := hP
              have hD : va_D A [(aX, .inr (5, [.ref aL, .ref aC, .ref aR, .ref aS, .ref aB, .int (nI mt), .int (nI sa)])), (aC, .inr (3, [.ref aL, .ref aCz])), (aCz, .inl (cI, 6, .inl (nF (upN (upN (upN (upN (upN fz 0 k1) 1 k2) 2 k3) 3 k4) 4 k5))))] := hD
              refine lv_aload_n hx hb dX5_weights_124 rfl (lv_at hl 1 rfl) ?_
              refine va_get (D := (dC, dI)) (ci := 5) (v := .ref aC) (C := RX5) (T := TX5) (N := 7) hx hb hts mX5_weights_inX5 hown hK hP 0 rfl rfl 1 (by decide) (hts (.fieldLink RX5 21 "LeafOrder" "scale" "LLeafOrder$Scale;") mX5_weights_0) (fun _ h9 => h9) rfl dX5_weights_125 ?_
              refine va_get (D := (dC, dI)) (ci := 3) (v := .ref aCz) (C := RX3) (T := TX3) (N := 2) hx hb hts mX5_weights_inX3 hown hK hP 1 rfl rfl 1 (by decide) (hts (.fieldLink RX5 92 "LeafOrder$Scale" "sizes" "[I") mX5_weights_2) (fun _ h9 => h9) rfl dX5_weights_128 ?_
              refine lv_iconst (v := nI 5) hx hb dX5_weights_131 (by decide) ?_
              refine lv_iload hx hb dX5_weights_132 (lv_at hl 7 rfl) ?_
              refine ln_iast (i := 5) hx hb hK hP hD hS 2 0 rfl rfl (by omega) (by decide) dX5_weights_134 (fun H locs hP hD hS => ?_)
              have b_24 : ∀ k, (upN (upN (upN (upN (upN (upN fz 0 k1) 1 k2) 2 k3) 3 k4) 4 k5) 5 k6) k ≤ 999 := upN_le b_23 (by omega)
              have hP : va_P (dC, dI) vwCl [(aX, .inr (5, [.ref aL, .ref aC, .ref aR, .ref aS, .ref aB, .int (nI mt), .int (nI sa)])), (aC, .inr (3, [.ref aL, .ref aCz])), (aCz, .inl (cI, 6, .inl (nF (upN (upN (upN (upN (upN (upN fz 0 k1) 1 k2) 2 k3) 3 k4) 4 k5) 5 k6))))] H := hP
              have hD : va_D A [(aX, .inr (5, [.ref aL, .ref aC, .ref aR, .ref aS, .ref aB, .int (nI mt), .int (nI sa)])), (aC, .inr (3, [.ref aL, .ref aCz])), (aCz, .inl (cI, 6, .inl (nF (upN (upN (upN (upN (upN (upN fz 0 k1) 1 k2) 2 k3) 3 k4) 4 k5) 5 k6))))] := hD
              refine lv_aload_n hx hb dX5_weights_135 rfl (lv_at hl 1 rfl) ?_
              refine lv_iconst (v := nI 1) hx hb dX5_weights_136 (by decide) ?_
              refine va_put (D := (dC, dI)) (ci := 5) (v := .int (nI 1)) (ty := .boolean) (C := RX5) (T := TX5) (N := 7) hx hb hts mX5_weights_inX5 tyX5 tyX5_ok nmX5 hown hK hP hD hS 0 rfl rfl 6 (by decide) (hts (.fieldLink RX5 54 "LeafOrder" "stale" "Z") mX5_weights_4) (fun _ h9 => h9) rfl (by decide +kernel) rfl rfl (Nat.le_of_ble_eq_true rfl) dX5_weights_137 (fun H locs hP hD hS => ?_)
              have hP : va_P (dC, dI) vwCl [(aX, .inr (5, [.ref aL, .ref aC, .ref aR, .ref aS, .ref aB, .int (nI mt), .int (nI 1)])), (aC, .inr (3, [.ref aL, .ref aCz])), (aCz, .inl (cI, 6, .inl (nF (upN (upN (upN (upN (upN (upN fz 0 k1) 1 k2) 2 k3) 3 k4) 4 k5) 5 k6))))] H := hP
              have hD : va_D A [(aX, .inr (5, [.ref aL, .ref aC, .ref aR, .ref aS, .ref aB, .int (nI mt), .int (nI 1)])), (aC, .inr (3, [.ref aL, .ref aCz])), (aCz, .inl (cI, 6, .inl (nF (upN (upN (upN (upN (upN (upN fz 0 k1) 1 k2) 2 k3) 3 k4) 4 k5) 5 k6))))] := hD
              refine lv_iconst (v := nI 1) hx hb dX5_weights_140 (by decide) ?_
              have hC : pc_weights (nI k1) (nI k2) (nI k3) (nI k4) (nI k5) (nI k6) := ⟨⟨k1, hk1, rfl⟩, ⟨k2, hk2, rfl⟩, ⟨k3, hk3, rfl⟩, ⟨k4, hk4, rfl⟩, ⟨k5, hk5, rfl⟩, ⟨k6, hk6, rfl⟩⟩
              exact W.zret (v := (nI 1)) hx hb hr (by decide) (fun t ht hW => ⟨⟨(nI 1), (1, upN (upN (upN (upN (upN (upN fz 0 k1) 1 k2) 2 k3) 3 k4) 4 k5) 5 k6), rfl, ⟨(cif_t hC).symm, (by rw [cif_t hC]; unfold pw_fz; rw [tn_nI (show k1 < 2 ^ 31 by omega), tn_nI (show k2 < 2 ^ 31 by omega), tn_nI (show k3 < 2 ^ 31 by omega), tn_nI (show k4 < 2 ^ 31 by omega), tn_nI (show k5 < 2 ^ 31 by omega), tn_nI (show k6 < 2 ^ 31 by omega)]), (cif_t hC).symm, b_24⟩, by rw [ht]; exact hP, hD⟩, hS.F ht⟩) hS.2.2 dX5_weights_141
            · refine ln_if_eqT (tgt := 62) hx hb dX5_weights_55 (by decide) (by decide) ?_
              refine lv_iconst (v := nI 0) hx hb dX5_weights_62 (by decide) ?_
              refine lv_istore (lv' := [(7, .int (nI 0)), (0, .ref aX), (1, .int (nI k1)), (2, .int (nI k2)), (3, .int (nI k3)), (4, .int (nI k4)), (5, .int (nI k5)), (6, .int x6)]) hx hb dX5_weights_63 hl (by decide) rfl (fun ls hl => ?_)
              refine lv_iload hx hb dX5_weights_65 (lv_at hl 0 rfl) ?_
              refine ln_if_neF (tgt := 72) hx hb dX5_weights_67 (by decide) (by decide) ?_
              refine lv_iconst (v := nI 0) hx hb dX5_weights_70 (by decide) ?_
              have hC : ¬ pc_weights (nI k1) (nI k2) (nI k3) (nI k4) (nI k5) x6 := (fun q => c_18 q.2.2.2.2.2)
              exact W.zret (v := (nI 0)) hx hb hr (by decide) (fun t ht hW => ⟨⟨(nI 0), (sa, fz), rfl, ⟨(cif_f hC).symm, (cif_f hC).symm, (cif_f hC).symm, bCz⟩, by rw [ht]; exact hP, hD⟩, hS.F ht⟩) hS.2.2 dX5_weights_71
          · refine ln_if_eqT (tgt := 62) hx hb dX5_weights_44 (by decide) (by decide) ?_
            refine lv_iconst (v := nI 0) hx hb dX5_weights_62 (by decide) ?_
            refine lv_istore (lv' := [(7, .int (nI 0)), (0, .ref aX), (1, .int (nI k1)), (2, .int (nI k2)), (3, .int (nI k3)), (4, .int (nI k4)), (5, .int x5), (6, .int x6)]) hx hb dX5_weights_63 hl (by decide) rfl (fun ls hl => ?_)
            refine lv_iload hx hb dX5_weights_65 (lv_at hl 0 rfl) ?_
            refine ln_if_neF (tgt := 72) hx hb dX5_weights_67 (by decide) (by decide) ?_
            refine lv_iconst (v := nI 0) hx hb dX5_weights_70 (by decide) ?_
            have hC : ¬ pc_weights (nI k1) (nI k2) (nI k3) (nI k4) x5 x6 := (fun q => c_15 q.2.2.2.2.1)
            exact W.zret (v := (nI 0)) hx hb hr (by decide) (fun t ht hW => ⟨⟨(nI 0), (sa, fz), rfl, ⟨(cif_f hC).symm, (cif_f hC).symm, (cif_f hC).symm, bCz⟩, by rw [ht]; exact hP, hD⟩, hS.F ht⟩) hS.2.2 dX5_weights_71
        · refine ln_if_eqT (tgt := 62) hx hb dX5_weights_34 (by decide) (by decide) ?_
          refine lv_iconst (v := nI 0) hx hb dX5_weights_62 (by decide) ?_
          refine lv_istore (lv' := [(7, .int (nI 0)), (0, .ref aX), (1, .int (nI k1)), (2, .int (nI k2)), (3, .int (nI k3)), (4, .int x4), (5, .int x5), (6, .int x6)]) hx hb dX5_weights_63 hl (by decide) rfl (fun ls hl => ?_)
          refine lv_iload hx hb dX5_weights_65 (lv_at hl 0 rfl) ?_
          refine ln_if_neF (tgt := 72) hx hb dX5_weights_67 (by decide) (by decide) ?_
          refine lv_iconst (v := nI 0) hx hb dX5_weights_70 (by decide) ?_
          have hC : ¬ pc_weights (nI k1) (nI k2) (nI k3) x4 x5 x6 := (fun q => c_12 q.2.2.2.1)
          exact W.zret (v := (nI 0)) hx hb hr (by decide) (fun t ht hW => ⟨⟨(nI 0), (sa, fz), rfl, ⟨(cif_f hC).symm, (cif_f hC).symm, (cif_f hC).symm, bCz⟩, by rw [ht]; exact hP, hD⟩, hS.F ht⟩) hS.2.2 dX5_weights_71
      · refine ln_if_eqT (tgt := 62) hx hb dX5_weights_24 (by decide) (by decide) ?_
        refine lv_iconst (v := nI 0) hx hb dX5_weights_62 (by decide) ?_
        refine lv_istore (lv' := [(7, .int (nI 0)), (0, .ref aX), (1, .int (nI k1)), (2, .int (nI k2)), (3, .int x3), (4, .int x4), (5, .int x5), (6, .int x6)]) hx hb dX5_weights_63 hl (by decide) rfl (fun ls hl => ?_)
        refine lv_iload hx hb dX5_weights_65 (lv_at hl 0 rfl) ?_
        refine ln_if_neF (tgt := 72) hx hb dX5_weights_67 (by decide) (by decide) ?_
        refine lv_iconst (v := nI 0) hx hb dX5_weights_70 (by decide) ?_
        have hC : ¬ pc_weights (nI k1) (nI k2) x3 x4 x5 x6 := (fun q => c_9 q.2.2.1)
        exact W.zret (v := (nI 0)) hx hb hr (by decide) (fun t ht hW => ⟨⟨(nI 0), (sa, fz), rfl, ⟨(cif_f hC).symm, (cif_f hC).symm, (cif_f hC).symm, bCz⟩, by rw [ht]; exact hP, hD⟩, hS.F ht⟩) hS.2.2 dX5_weights_71
    · refine ln_if_eqT (tgt := 62) hx hb dX5_weights_15 (by decide) (by decide) ?_
      refine lv_iconst (v := nI 0) hx hb dX5_weights_62 (by decide) ?_
      refine lv_istore (lv' := [(7, .int (nI 0)), (0, .ref aX), (1, .int (nI k1)), (2, .int x2), (3, .int x3), (4, .int x4), (5, .int x5), (6, .int x6)]) hx hb dX5_weights_63 hl (by decide) rfl (fun ls hl => ?_)
      refine lv_iload hx hb dX5_weights_65 (lv_at hl 0 rfl) ?_
      refine ln_if_neF (tgt := 72) hx hb dX5_weights_67 (by decide) (by decide) ?_
      refine lv_iconst (v := nI 0) hx hb dX5_weights_70 (by decide) ?_
      have hC : ¬ pc_weights (nI k1) x2 x3 x4 x5 x6 := (fun q => c_6 q.2.1)
      exact W.zret (v := (nI 0)) hx hb hr (by decide) (fun t ht hW => ⟨⟨(nI 0), (sa, fz), rfl, ⟨(cif_f hC).symm, (cif_f hC).symm, (cif_f hC).symm, bCz⟩, by rw [ht]; exact hP, hD⟩, hS.F ht⟩) hS.2.2 dX5_weights_71
  · refine ln_if_eqT (tgt := 62) hx hb dX5_weights_6 (by decide) (by decide) ?_
    refine lv_iconst (v := nI 0) hx hb dX5_weights_62 (by decide) ?_
    refine lv_istore (lv' := [(7, .int (nI 0)), (0, .ref aX), (1, .int x1), (2, .int x2), (3, .int x3), (4, .int x4), (5, .int x5), (6, .int x6)]) hx hb dX5_weights_63 hl (by decide) rfl (fun ls hl => ?_)
    refine lv_iload hx hb dX5_weights_65 (lv_at hl 0 rfl) ?_
    refine ln_if_neF (tgt := 72) hx hb dX5_weights_67 (by decide) (by decide) ?_
    refine lv_iconst (v := nI 0) hx hb dX5_weights_70 (by decide) ?_
    have hC : ¬ pc_weights x1 x2 x3 x4 x5 x6 := (fun q => c_3 q.1)
    exact W.zret (v := (nI 0)) hx hb hr (by decide) (fun t ht hW => ⟨⟨(nI 0), (sa, fz), rfl, ⟨(cif_f hC).symm, (cif_f hC).symm, (cif_f hC).symm, bCz⟩, by rw [ht]; exact hP, hD⟩, hS.F ht⟩) hS.2.2 dX5_weights_71
theorem mX5_turnable_0 : Cond.fieldLink RX5 50 "LeafOrder" "mayTurn" "Z" ∈ wsX5_turnable := by decide +kernel
theorem mX5_turnable_inX5 : ∀ w ∈ wsX50, w ∈ wsX5_turnable := by decide +kernel
theorem mX5_turnable_2 : Cond.fieldLink RX5 54 "LeafOrder" "stale" "Z" ∈ wsX5_turnable := by decide +kernel
set_option maxHeartbeats 4000000 in
set_option maxRecDepth 100000 in
theorem k_X5_turnable (l : Launch) (dC : Nat → ClassId) (dI : Nat → Nat → Nat) (cI cZ : ClassId) (aX aL aC aR aS aB : Nat) (mt : Nat) (sa : Nat) (q1 : Nat) (sz : Nat) (h1 : q1 < 2) : Met l yX5_turnable wsX5_turnable { frames := 0, cells := 0, slots := 0, locals := 0 } (va_Pc [.ref aX, .int (nI q1)] (fun U => U.heap.size = sz ∧ va_P (dC, dI) vwCl [(aX, .inr (5, [.ref aL, .ref aC, .ref aR, .ref aS, .ref aB, .int (nI mt), .int (nI sa)]))] U.heap ∧ lK dC dI cI cZ U ∧ va_D (fun _ => True) [(aX, .inr (5, [.ref aL, .ref aC, .ref aR, .ref aS, .ref aB, .int (nI mt), .int (nI sa)]))])) (va_Qv (fun (u : (Nat) × (Nat)) => match u with | (mtz, saz) => mtz = q1 ∧ saz = 1) (fun (u : (Nat) × (Nat)) (t : State) => match u with | (mtz, saz) => va_P (dC, dI) vwCl [(aX, .inr (5, [.ref aL, .ref aC, .ref aR, .ref aS, .ref aB, .int (nI mtz), .int (nI saz)]))] t.heap ∧ va_D (va_A [(aX, .inr (5, [.ref aL, .ref aC, .ref aR, .ref aS, .ref aB, .int (nI mt), .int (nI sa)]))] sz) [(aX, .inr (5, [.ref aL, .ref aC, .ref aR, .ref aS, .ref aB, .int (nI mtz), .int (nI saz)]))]) (va_A [(aX, .inr (5, [.ref aL, .ref aC, .ref aR, .ref aS, .ref aB, .int (nI mt), .int (nI sa)]))] sz)) 0 0 (va_A [(aX, .inr (5, [.ref aL, .ref aC, .ref aR, .ref aS, .ref aB, .int (nI mt), .int (nI sa)]))] sz) := by
  refine Met.ofW (cc := cX5_turnable) (maxL := 2) (ret := none) (by decide) rfl ?_
  intro p e s m args below meth c s₁ B hml hv
  obtain ⟨rfl, hsz, hP, hKK, hD0⟩ := hv
  have hK := hKK.1
  have hx := B.exec
  have hb := B.bytes
  have hr := B.returns
  have hts := atoms_spec (ws := wsX5_turnable) B.pre
  have hown : s.vm.findClass RX5 = some m.cls := findClass_of_methodNamed B.named
  have hlocks := B.notSynchronized
  subst hsz
  have hD := hD0.self (sz := s.heap.size)
  generalize hAe : va_A [(aX, .inr (5, [.ref aL, .ref aC, .ref aR, .ref aS, .ref aB, .int (nI mt), .int (nI sa)]))] s.heap.size = A at hD ⊢
  have hA : ∀ q : Nat, s.heap.size ≤ q → A q := fun q h => by rw [← hAe]; exact Or.inr h
  have hS : va_S A s.heap s.heap [] := va_S.rf
  have hl := lv_entry ([.ref aX, .int (nI q1)]) (n := 2) (Nat.le_of_ble_eq_true rfl)
  rw [lg_entry_eq]
  generalize (lg_sl ([.ref aX, .int (nI q1)]) ++ List.replicate (2 - (lg_sl ([.ref aX, .int (nI q1)])).length) Slot.unset).toArray = ls at hl ⊢
  have hl : lv_has ls 2 [(0, .ref aX), (1, .int (nI q1))] := hl
  rcases (show q1 = 0 ∨ q1 = 1 by omega) with rfl | rfl
  · refine lv_aload_n hx hb dX5_turnable_0 rfl (lv_at hl 0 rfl) ?_
    refine lv_iload_n hx hb dX5_turnable_1 rfl (lv_at hl 1 rfl) ?_
    refine va_put (D := (dC, dI)) (ci := 5) (v := .int (nI 0)) (ty := .boolean) (C := RX5) (T := TX5) (N := 7) hx hb hts mX5_turnable_inX5 tyX5 tyX5_ok nmX5 hown hK hP hD hS 0 rfl rfl 5 (by decide) (hts (.fieldLink RX5 50 "LeafOrder" "mayTurn" "Z") mX5_turnable_0) (fun _ h9 => h9) rfl (by decide +kernel) rfl rfl (Nat.le_of_ble_eq_true rfl) dX5_turnable_2 (fun H locs hP hD hS => ?_)
    have hP : va_P (dC, dI) vwCl [(aX, .inr (5, [.ref aL, .ref aC, .ref aR, .ref aS, .ref aB, .int (nI 0), .int (nI sa)]))] H := hP
    have hD : va_D A [(aX, .inr (5, [.ref aL, .ref aC, .ref aR, .ref aS, .ref aB, .int (nI 0), .int (nI sa)]))] := hD
    refine lv_aload_n hx hb dX5_turnable_5 rfl (lv_at hl 0 rfl) ?_
    refine lv_iconst (v := nI 1) hx hb dX5_turnable_6 (by decide) ?_
    refine va_put (D := (dC, dI)) (ci := 5) (v := .int (nI 1)) (ty := .boolean) (C := RX5) (T := TX5) (N := 7) hx hb hts mX5_turnable_inX5 tyX5 tyX5_ok nmX5 hown hK hP hD hS 0 rfl rfl 6 (by decide) (hts (.fieldLink RX5 54 "LeafOrder" "stale" "Z") mX5_turnable_2) (fun _ h9 => h9) rfl (by decide +kernel) rfl rfl (Nat.le_of_ble_eq_true rfl) dX5_turnable_7 (fun H locs hP hD hS => ?_)
    have hP : va_P (dC, dI) vwCl [(aX, .inr (5, [.ref aL, .ref aC, .ref aR, .ref aS, .ref aB, .int (nI 0), .int (nI 1)]))] H := hP
    have hD : va_D A [(aX, .inr (5, [.ref aL, .ref aC, .ref aR, .ref aS, .ref aB, .int (nI 0), .int (nI 1)]))] := hD
    exact W.vret hx hb hr (fun t ht hW => ⟨⟨(0, 1), rfl, ⟨rfl, rfl⟩, by rw [ht]; exact hP, hD⟩, hS.F ht⟩) hS.2.2 dX5_turnable_10
  · refine lv_aload_n hx hb dX5_turnable_0 rfl (lv_at hl 0 rfl) ?_
    refine lv_iload_n hx hb dX5_turnable_1 rfl (lv_at hl 1 rfl) ?_
    refine va_put (D := (dC, dI)) (ci := 5) (v := .int (nI 1)) (ty := .boolean) (C := RX5) (T := TX5) (N := 7) hx hb hts mX5_turnable_inX5 tyX5 tyX5_ok nmX5 hown hK hP hD hS 0 rfl rfl 5 (by decide) (hts (.fieldLink RX5 50 "LeafOrder" "mayTurn" "Z") mX5_turnable_0) (fun _ h9 => h9) rfl (by decide +kernel) rfl rfl (Nat.le_of_ble_eq_true rfl) dX5_turnable_2 (fun H locs hP hD hS => ?_)
    have hP : va_P (dC, dI) vwCl [(aX, .inr (5, [.ref aL, .ref aC, .ref aR, .ref aS, .ref aB, .int (nI 1), .int (nI sa)]))] H := hP
    have hD : va_D A [(aX, .inr (5, [.ref aL, .ref aC, .ref aR, .ref aS, .ref aB, .int (nI 1), .int (nI sa)]))] := hD
    refine lv_aload_n hx hb dX5_turnable_5 rfl (lv_at hl 0 rfl) ?_
    refine lv_iconst (v := nI 1) hx hb dX5_turnable_6 (by decide) ?_
    refine va_put (D := (dC, dI)) (ci := 5) (v := .int (nI 1)) (ty := .boolean) (C := RX5) (T := TX5) (N := 7) hx hb hts mX5_turnable_inX5 tyX5 tyX5_ok nmX5 hown hK hP hD hS 0 rfl rfl 6 (by decide) (hts (.fieldLink RX5 54 "LeafOrder" "stale" "Z") mX5_turnable_2) (fun _ h9 => h9) rfl (by decide +kernel) rfl rfl (Nat.le_of_ble_eq_true rfl) dX5_turnable_7 (fun H locs hP hD hS => ?_)
    have hP : va_P (dC, dI) vwCl [(aX, .inr (5, [.ref aL, .ref aC, .ref aR, .ref aS, .ref aB, .int (nI 1), .int (nI 1)]))] H := hP
    have hD : va_D A [(aX, .inr (5, [.ref aL, .ref aC, .ref aR, .ref aS, .ref aB, .int (nI 1), .int (nI 1)]))] := hD
    exact W.vret hx hb hr (fun t ht hW => ⟨⟨(1, 1), rfl, ⟨rfl, rfl⟩, by rw [ht]; exact hP, hD⟩, hS.F ht⟩) hS.2.2 dX5_turnable_10
theorem mX5_areTwo_0 : Cond.fieldLink RX5 12 "LeafOrder" "pile" "LLeafOrder$Leaves;" ∈ wsX5_areTwo := by decide +kernel
theorem mX5_areTwo_inX5 : ∀ w ∈ wsX50, w ∈ wsX5_areTwo := by decide +kernel
set_option maxHeartbeats 4000000 in
set_option maxRecDepth 100000 in
theorem k_X5_areTwo (l : Launch) (dC : Nat → ClassId) (dI : Nat → Nat → Nat) (cI cZ : ClassId) (aX aL aC aR aS aB aLb aLe aLw aLc aLd aLs : Nat) (mt : Nat) (sa : Nat) (nL : Nat) (x1 : Int32) (x2 : Int32) (hn : nL ≤ 9) : Met l yX5_areTwo wsX5_areTwo { frames := 1, cells := 0, slots := 0, locals := 21 } (va_Pc [.ref aX, .int x1, .int x2] (fun U => va_P (dC, dI) vwCl [(aX, .inr (5, [.ref aL, .ref aC, .ref aR, .ref aS, .ref aB, .int (nI mt), .int (nI sa)])), (aL, .inr (1, [.int (nI nL), .ref aLb, .ref aLe, .ref aLw, .ref aLc, .ref aLd, .ref aLs]))] U.heap ∧ lK dC dI cI cZ U)) (vp_Si (fun r => (r = nI 1 ∧ (pc_pair nL x1 x2)) ∨ (r = nI 0 ∧ ¬ (pc_pair nL x1 x2)))) 0 0 (fun _ => False) := by
  refine Met.ofW (cc := cX5_areTwo) (maxL := 3) (ret := (some .boolean)) (by decide) rfl ?_
  intro p e s m args below meth c s₁ B hml hv
  obtain ⟨rfl, hP, hKK⟩ := hv
  have hK := hKK.1
  have hx := B.exec
  have hb := B.bytes
  have hr := B.returns
  have hts := atoms_spec (ws := wsX5_areTwo) B.pre
  have hown : s.vm.findClass RX5 = some m.cls := findClass_of_methodNamed B.named
  have hlocks := B.notSynchronized
  have hl := lv_entry ([.ref aX, .int x1, .int x2]) (n := 3) (Nat.le_of_ble_eq_true rfl)
  rw [lg_entry_eq]
  generalize (lg_sl ([.ref aX, .int x1, .int x2]) ++ List.replicate (3 - (lg_sl ([.ref aX, .int x1, .int x2])).length) Slot.unset).toArray = ls at hl ⊢
  have hl : lv_has ls 3 [(0, .ref aX), (1, .int x1), (2, .int x2)] := hl
  refine lv_aload_n hx hb dX5_areTwo_0 rfl (lv_at hl 0 rfl) ?_
  refine va_get (D := (dC, dI)) (ci := 5) (v := .ref aL) (C := RX5) (T := TX5) (N := 7) hx hb hts mX5_areTwo_inX5 hown hK hP 0 rfl rfl 0 (by decide) (hts (.fieldLink RX5 12 "LeafOrder" "pile" "LLeafOrder$Leaves;") mX5_areTwo_0) (fun _ h9 => h9) rfl dX5_areTwo_1 ?_
  refine lv_iload_n hx hb dX5_areTwo_4 rfl (lv_at hl 1 rfl) ?_
  have hPc := hP.sub (ws' := [(aL, .inr (1, [.int (nI nL), .ref aLb, .ref aLe, .ref aLw, .ref aLc, .ref aLd, .ref aLs]))]) [1] rfl
  refine vp_callSi (W.runV (As := [.int x1]) (rest := []) ⟨hx, hb, hml, hown, hts⟩ (k_X1_has l dC dI cI cZ aL aLb aLe aLw aLc aLd aLs nL x1 (by omega)) (cwV 1 hts gX5_areTwo_X1_has rfl rfl rfl (by decide +kernel) ⟨Nat.le_of_ble_eq_true rfl, Nat.le_of_ble_eq_true rfl⟩) (ln_preV (q0 := 0) (ci := 1) hPc hKK rfl rfl) rfl rfl hl.1 rfl (lv_room (Nat.le_of_ble_eq_true rfl)) dX5_areTwo_5 ⟨Nat.le_of_ble_eq_true rfl, Nat.le_of_ble_eq_true rfl⟩) (fun r_1 w_2 => ?_)
  rcases w_2 with ⟨rfl, c_3⟩ | ⟨rfl, c_3⟩
  · refine ln_if_eqF (tgt := 31) hx hb dX5_areTwo_8 (by decide) (by decide) ?_
    refine lv_aload_n hx hb dX5_areTwo_11 rfl (lv_at hl 0 rfl) ?_
    refine va_get (D := (dC, dI)) (ci := 5) (v := .ref aL) (C := RX5) (T := TX5) (N := 7) hx hb hts mX5_areTwo_inX5 hown hK hP 0 rfl rfl 0 (by decide) (hts (.fieldLink RX5 12 "LeafOrder" "pile" "LLeafOrder$Leaves;") mX5_areTwo_0) (fun _ h9 => h9) rfl dX5_areTwo_12 ?_
    refine lv_iload_n hx hb dX5_areTwo_15 rfl (lv_at hl 2 rfl) ?_
    have hPc := hP.sub (ws' := [(aL, .inr (1, [.int (nI nL), .ref aLb, .ref aLe, .ref aLw, .ref aLc, .ref aLd, .ref aLs]))]) [1] rfl
    refine vp_callSi (W.runV (As := [.int x2]) (rest := []) ⟨hx, hb, hml, hown, hts⟩ (k_X1_has l dC dI cI cZ aL aLb aLe aLw aLc aLd aLs nL x2 (by omega)) (cwV 1 hts gX5_areTwo_X1_has rfl rfl rfl (by decide +kernel) ⟨Nat.le_of_ble_eq_true rfl, Nat.le_of_ble_eq_true rfl⟩) (ln_preV (q0 := 0) (ci := 1) hPc hKK rfl rfl) rfl rfl hl.1 rfl (lv_room (Nat.le_of_ble_eq_true rfl)) dX5_areTwo_16 ⟨Nat.le_of_ble_eq_true rfl, Nat.le_of_ble_eq_true rfl⟩) (fun r_4 w_5 => ?_)
    rcases w_5 with ⟨rfl, c_6⟩ | ⟨rfl, c_6⟩
    · refine ln_if_eqF (tgt := 31) hx hb dX5_areTwo_19 (by decide) (by decide) ?_
      refine lv_iload_n hx hb dX5_areTwo_22 rfl (lv_at hl 1 rfl) ?_
      refine lv_iload_n hx hb dX5_areTwo_23 rfl (lv_at hl 2 rfl) ?_
      refine lv_icmp_eq (tgt := 31) hx hb dX5_areTwo_24 (by decide) (fun c_7 => ?_) (fun c_7 => ?_)
      · refine lv_iconst (v := nI 0) hx hb dX5_areTwo_31 (by decide) ?_
        exact W.zret (v := (nI 0)) hx hb hr (by decide) (fun t ht hW => ⟨(nI 0), rfl, Or.inr ⟨rfl, (fun q => q.2.2 c_7)⟩, ht⟩) (fun _ h => by cases h) dX5_areTwo_32
      · refine lv_iconst (v := nI 1) hx hb dX5_areTwo_27 (by decide) ?_
        refine lv_goto (tgt := 32) hx hb dX5_areTwo_28 (by decide) ?_
        exact W.zret (v := (nI 1)) hx hb hr (by decide) (fun t ht hW => ⟨(nI 1), rfl, Or.inl ⟨rfl, c_3, c_6, c_7⟩, ht⟩) (fun _ h => by cases h) dX5_areTwo_32
    · refine ln_if_eqT (tgt := 31) hx hb dX5_areTwo_19 (by decide) (by decide) ?_
      refine lv_iconst (v := nI 0) hx hb dX5_areTwo_31 (by decide) ?_
      exact W.zret (v := (nI 0)) hx hb hr (by decide) (fun t ht hW => ⟨(nI 0), rfl, Or.inr ⟨rfl, (fun q => c_6 q.2.1)⟩, ht⟩) (fun _ h => by cases h) dX5_areTwo_32
  · refine ln_if_eqT (tgt := 31) hx hb dX5_areTwo_8 (by decide) (by decide) ?_
    refine lv_iconst (v := nI 0) hx hb dX5_areTwo_31 (by decide) ?_
    exact W.zret (v := (nI 0)) hx hb hr (by decide) (fun t ht hW => ⟨(nI 0), rfl, Or.inr ⟨rfl, (fun q => c_3 q.1)⟩, ht⟩) (fun _ h => by cases h) dX5_areTwo_32
theorem mX5_must_0 : Cond.fieldLink RX5 28 "LeafOrder" "rules" "LLeafOrder$Rules;" ∈ wsX5_must := by decide +kernel
theorem mX5_must_inX5 : ∀ w ∈ wsX50, w ∈ wsX5_must := by decide +kernel
theorem mX5_must_2 : Cond.fieldLink RX5 54 "LeafOrder" "stale" "Z" ∈ wsX5_must := by decide +kernel
set_option maxHeartbeats 4000000 in
set_option maxRecDepth 100000 in
theorem k_X5_must (l : Launch) (dC : Nat → ClassId) (dI : Nat → Nat → Nat) (cI cZ : ClassId) (aX aL aC aR aS aB aLb aLe aLw aLc aLd aLs aRb aRr aRa : Nat) (mt : Nat) (sa : Nat) (nL : Nat) (rb : Nat → Nat) (rr : Nat → Nat) (ra : Nat → Nat) (x1 : Int32) (x2 : Int32) (q3 : Nat) (q4 : Nat) (sz : Nat) (bRb : ∀ k, rb k ≤ 511) (bRr : ∀ k, rr k ≤ 511) (bRa : ∀ k, ra k ≤ 511) (hn : nL ≤ 9) (h3 : q3 < 2) (h4 : q4 < 2) : Met l yX5_must wsX5_must { frames := 2, cells := 0, slots := 0, locals := 45 } (va_Pc [.ref aX, .int x1, .int x2, .int (nI q3), .int (nI q4)] (fun U => U.heap.size = sz ∧ va_P (dC, dI) vwCl [(aX, .inr (5, [.ref aL, .ref aC, .ref aR, .ref aS, .ref aB, .int (nI mt), .int (nI sa)])), (aL, .inr (1, [.int (nI nL), .ref aLb, .ref aLe, .ref aLw, .ref aLc, .ref aLd, .ref aLs])), (aR, .inr (2, [.ref aRb, .ref aRr, .ref aRa])), (aRb, .inl (cI, 9, .inl (nF rb))), (aRr, .inl (cI, 9, .inl (nF rr))), (aRa, .inl (cI, 9, .inl (nF ra)))] U.heap ∧ lK dC dI cI cZ U ∧ va_D (fun _ => True) [(aX, .inr (5, [.ref aL, .ref aC, .ref aR, .ref aS, .ref aB, .int (nI mt), .int (nI sa)])), (aL, .inr (1, [.int (nI nL), .ref aLb, .ref aLe, .ref aLw, .ref aLc, .ref aLd, .ref aLs])), (aR, .inr (2, [.ref aRb, .ref aRr, .ref aRa])), (aRb, .inl (cI, 9, .inl (nF rb))), (aRr, .inl (cI, 9, .inl (nF rr))), (aRa, .inl (cI, 9, .inl (nF ra)))])) (va_Qi (fun (r : Int32) (u : (Nat) × (Nat → Nat) × (Nat → Nat) × (Nat → Nat)) => match u with | (saz, rbz, rrz, raz) => r = cif (pc_pair nL x1 x2) (nI 1) (nI 0) ∧ rbz = cif (pc_pair nL x1 x2 ∧ q3 = 0) (upN rb (tn x1) (wbit (rb (tn x1)) (tn x2) q4)) rb ∧ rrz = cif (pc_pair nL x1 x2 ∧ ¬ q3 = 0) (upN rr (tn x1) (wbit (rr (tn x1)) (tn x2) q4)) rr ∧ raz = cif (pc_pair nL x1 x2 ∧ ¬ q3 = 0) (upN ra (tn x2) (wbit (ra (tn x2)) (tn x1) q4)) ra ∧ saz = cif (pc_pair nL x1 x2) 1 sa ∧ (∀ k, rbz k ≤ 511) ∧ (∀ k, rrz k ≤ 511) ∧ (∀ k, raz k ≤ 511)) (fun (u : (Nat) × (Nat → Nat) × (Nat → Nat) × (Nat → Nat)) (t : State) => match u with | (saz, rbz, rrz, raz) => va_P (dC, dI) vwCl [(aX, .inr (5, [.ref aL, .ref aC, .ref aR, .ref aS, .ref aB, .int (nI mt), .int (nI saz)])), (aL, .inr (1, [.int (nI nL), .ref aLb, .ref aLe, .ref aLw, .ref aLc, .ref aLd, .ref aLs])), (aR, .inr (2, [.ref aRb, .ref aRr, .ref aRa])), (aRb, .inl (cI, 9, .inl (nF rbz))), (aRr, .inl (cI, 9, .inl (nF rrz))), (aRa, .inl (cI, 9, .inl (nF raz)))] t.heap ∧ va_D (va_A [(aX, .inr (5, [.ref aL, .ref aC, .ref aR, .ref aS, .ref aB, .int (nI mt), .int (nI sa)])), (aL, .inr (1, [.int (nI nL), .ref aLb, .ref aLe, .ref aLw, .ref aLc, .ref aLd, .ref aLs])), (aR, .inr (2, [.ref aRb, .ref aRr, .ref aRa])), (aRb, .inl (cI, 9, .inl (nF rb))), (aRr, .inl (cI, 9, .inl (nF rr))), (aRa, .inl (cI, 9, .inl (nF ra)))] sz) [(aX, .inr (5, [.ref aL, .ref aC, .ref aR, .ref aS, .ref aB, .int (nI mt), .int (nI saz)])), (aL, .inr (1, [.int (nI nL), .ref aLb, .ref aLe, .ref aLw, .ref aLc, .ref aLd, .ref aLs])), (aR, .inr (2, [.ref aRb, .ref aRr, .ref aRa])), (aRb, .inl (cI, 9, .inl (nF rbz))), (aRr, .inl (cI, 9, .inl (nF rrz))), (aRa, .inl (cI, 9, .inl (nF raz)))]) (va_A [(aX, .inr (5, [.ref aL, .ref aC, .ref aR, .ref aS, .ref aB, .int (nI mt), .int (nI sa)])), (aL, .inr (1, [.int (nI nL), .ref aLb, .ref aLe, .ref aLw, .ref aLc, .ref aLd, .ref aLs])), (aR, .inr (2, [.ref aRb, .ref aRr, .ref aRa])), (aRb, .inl (cI, 9, .inl (nF rb))), (aRr, .inl (cI, 9, .inl (nF rr))), (aRa, .inl (cI, 9, .inl (nF ra)))] sz)) 0 0 (va_A [(aX, .inr (5, [.ref aL, .ref aC, .ref aR, .ref aS, .ref aB, .int (nI mt), .int (nI sa)])), (aL, .inr (1, [.int (nI nL), .ref aLb, .ref aLe, .ref aLw, .ref aLc, .ref aLd, .ref aLs])), (aR, .inr (2, [.ref aRb, .ref aRr, .ref aRa])), (aRb, .inl (cI, 9, .inl (nF rb))), (aRr, .inl (cI, 9, .inl (nF rr))), (aRa, .inl (cI, 9, .inl (nF ra)))] sz) := by
  refine Met.ofW (cc := cX5_must) (maxL := 5) (ret := (some .boolean)) (by decide) rfl ?_
  intro p e s m args below meth c s₁ B hml hv
  obtain ⟨rfl, hsz, hP, hKK, hD0⟩ := hv
  have hK := hKK.1
  have hx := B.exec
  have hb := B.bytes
  have hr := B.returns
  have hts := atoms_spec (ws := wsX5_must) B.pre
  have hown : s.vm.findClass RX5 = some m.cls := findClass_of_methodNamed B.named
  have hlocks := B.notSynchronized
  subst hsz
  have hD := hD0.self (sz := s.heap.size)
  generalize hAe : va_A [(aX, .inr (5, [.ref aL, .ref aC, .ref aR, .ref aS, .ref aB, .int (nI mt), .int (nI sa)])), (aL, .inr (1, [.int (nI nL), .ref aLb, .ref aLe, .ref aLw, .ref aLc, .ref aLd, .ref aLs])), (aR, .inr (2, [.ref aRb, .ref aRr, .ref aRa])), (aRb, .inl (cI, 9, .inl (nF rb))), (aRr, .inl (cI, 9, .inl (nF rr))), (aRa, .inl (cI, 9, .inl (nF ra)))] s.heap.size = A at hD ⊢
  have hA : ∀ q : Nat, s.heap.size ≤ q → A q := fun q h => by rw [← hAe]; exact Or.inr h
  have hS : va_S A s.heap s.heap [] := va_S.rf
  have hl := lv_entry ([.ref aX, .int x1, .int x2, .int (nI q3), .int (nI q4)]) (n := 5) (Nat.le_of_ble_eq_true rfl)
  rw [lg_entry_eq]
  generalize (lg_sl ([.ref aX, .int x1, .int x2, .int (nI q3), .int (nI q4)]) ++ List.replicate (5 - (lg_sl ([.ref aX, .int x1, .int x2, .int (nI q3), .int (nI q4)])).length) Slot.unset).toArray = ls at hl ⊢
  have hl : lv_has ls 5 [(0, .ref aX), (1, .int x1), (2, .int x2), (3, .int (nI q3)), (4, .int (nI q4))] := hl
  rcases (show q3 = 0 ∨ q3 = 1 by omega) with rfl | rfl
  · refine lv_aload_n hx hb dX5_must_0 rfl (lv_at hl 0 rfl) ?_
    refine lv_iload_n hx hb dX5_must_1 rfl (lv_at hl 1 rfl) ?_
    refine lv_iload_n hx hb dX5_must_2 rfl (lv_at hl 2 rfl) ?_
    have hPc := hP.sub (ws' := [(aX, .inr (5, [.ref aL, .ref aC, .ref aR, .ref aS, .ref aB, .int (nI mt), .int (nI sa)])), (aL, .inr (1, [.int (nI nL), .ref aLb, .ref aLe, .ref aLw, .ref aLc, .ref aLd, .ref aLs]))]) [0, 1] rfl
    refine vp_callSi (W.runV (As := [.int x1, .int x2]) (rest := []) ⟨hx, hb, hml, hown, hts⟩ (k_X5_areTwo l dC dI cI cZ aX aL aC aR aS aB aLb aLe aLw aLc aLd aLs mt sa nL x1 x2 (by omega)) (cwV 2 hts gX5_must_X5_areTwo rfl rfl rfl (by decide +kernel) ⟨Nat.le_of_ble_eq_true rfl, Nat.le_of_ble_eq_true rfl⟩) (ln_preV (q0 := 0) (ci := 5) hPc hKK rfl rfl) rfl rfl hl.1 rfl (lv_room (Nat.le_of_ble_eq_true rfl)) dX5_must_3 ⟨Nat.le_of_ble_eq_true rfl, Nat.le_of_ble_eq_true rfl⟩) (fun r_1 w_2 => ?_)
    rcases w_2 with ⟨rfl, c_3⟩ | ⟨rfl, c_3⟩
    · obtain ⟨⟨k1, hk1, rfl⟩, ⟨k2, hk2, rfl⟩, hne⟩ := c_3
      refine ln_if_neT (tgt := 11) hx hb dX5_must_6 (by decide) (by decide) ?_
      refine lv_iload_n hx hb dX5_must_11 rfl (lv_at hl 3 rfl) ?_
      refine ln_if_eqT (tgt := 29) hx hb dX5_must_12 (by decide) (by decide) ?_
      refine lv_aload_n hx hb dX5_must_29 rfl (lv_at hl 0 rfl) ?_
      refine va_get (D := (dC, dI)) (ci := 5) (v := .ref aR) (C := RX5) (T := TX5) (N := 7) hx hb hts mX5_must_inX5 hown hK hP 0 rfl rfl 2 (by decide) (hts (.fieldLink RX5 28 "LeafOrder" "rules" "LLeafOrder$Rules;") mX5_must_0) (fun _ h9 => h9) rfl dX5_must_30 ?_
      refine lv_iload_n hx hb dX5_must_33 rfl (lv_at hl 1 rfl) ?_
      refine lv_iload_n hx hb dX5_must_34 rfl (lv_at hl 2 rfl) ?_
      refine lv_iload hx hb dX5_must_35 (lv_at hl 4 rfl) ?_
      have hPc := hP.sub (ws' := [(aR, .inr (2, [.ref aRb, .ref aRr, .ref aRa])), (aRb, .inl (cI, 9, .inl (nF rb)))]) [2, 3] rfl
      have hDc := hD.sub (ws' := [(aR, .inr (2, [.ref aRb, .ref aRr, .ref aRa])), (aRb, .inl (cI, 9, .inl (nF rb)))]) [2, 3] (by decide) rfl
      have hFc := va_free (wc := [(aR, .inr (2, [.ref aRb, .ref aRr, .ref aRa])), (aRb, .inl (cI, 9, .inl (nF rb)))]) hD hS hA [2, 3] rfl
      refine va_callv (va_runV (As := [.int (nI k1), .int (nI k2), .int (nI q4)]) (rest := []) ⟨hx, hb, hml, hown, hts⟩ (k_X2_putAhead l dC dI cI cZ aR aRb aRr aRa rb k1 k2 q4 s.heap.size bRb (by omega) (by omega) (by omega)) (cwV 3 hts gX5_must_X2_putAhead rfl rfl rfl (by decide +kernel) ⟨Nat.le_of_ble_eq_true rfl, Nat.le_of_ble_eq_true rfl⟩) (ln_preVM (q0 := 0) (ci := 2) hPc hKK hDc rfl rfl) rfl rfl hl.1 rfl (lv_room (Nat.le_of_ble_eq_true rfl)) dX5_must_37 ⟨Nat.le_of_ble_eq_true rfl, Nat.le_of_ble_eq_true rfl⟩) hS (fun q _ h => hFc q h) hFc (fun u t H1 locs ht hvm w_5 hB hzH hkH hS => ?_)
      obtain ⟨rbz_6, rfl⟩ : ∃ z, z = u := ⟨_, rfl⟩
      obtain ⟨hP1, hD1⟩ := hB
      rw [ht] at hP1
      try dsimp only at w_5
      obtain ⟨hP, hD⟩ := va_join (wr := [(aX, .inr (5, [.ref aL, .ref aC, .ref aR, .ref aS, .ref aB, .int (nI mt), .int (nI sa)])), (aL, .inr (1, [.int (nI nL), .ref aLb, .ref aLe, .ref aLw, .ref aLc, .ref aLd, .ref aLs])), (aRr, .inl (cI, 9, .inl (nF rr))), (aRa, .inl (cI, 9, .inl (nF ra)))]) (w1 := [(aR, .inr (2, [.ref aRb, .ref aRr, .ref aRa])), (aRb, .inl (cI, 9, .inl (nF rbz_6)))]) hP hD [2, 3] [0, 1, 4, 5] rfl rfl (by decide) (by decide) hkH hFc hP1 hD1
      generalize H1 = H at hP hS ⊢
      have hP := hP.sub (ws' := [(aX, .inr (5, [.ref aL, .ref aC, .ref aR, .ref aS, .ref aB, .int (nI mt), .int (nI sa)])), (aL, .inr (1, [.int (nI nL), .ref aLb, .ref aLe, .ref aLw, .ref aLc, .ref aLd, .ref aLs])), (aR, .inr (2, [.ref aRb, .ref aRr, .ref aRa])), (aRb, .inl (cI, 9, .inl (nF rbz_6))), (aRr, .inl (cI, 9, .inl (nF rr))), (aRa, .inl (cI, 9, .inl (nF ra)))]) [0, 1, 4, 5, 2, 3] rfl
      have hD := hD.sub (ws' := [(aX, .inr (5, [.ref aL, .ref aC, .ref aR, .ref aS, .ref aB, .int (nI mt), .int (nI sa)])), (aL, .inr (1, [.int (nI nL), .ref aLb, .ref aLe, .ref aLw, .ref aLc, .ref aLd, .ref aLs])), (aR, .inr (2, [.ref aRb, .ref aRr, .ref aRa])), (aRb, .inl (cI, 9, .inl (nF rbz_6))), (aRr, .inl (cI, 9, .inl (nF rr))), (aRa, .inl (cI, 9, .inl (nF ra)))]) [0, 1, 4, 5, 2, 3] (by decide) rfl
      obtain ⟨hj1, hj3⟩ := w_5
      refine lv_aload_n hx hb dX5_must_40 rfl (lv_at hl 0 rfl) ?_
      refine lv_iconst (v := nI 1) hx hb dX5_must_41 (by decide) ?_
      refine va_put (D := (dC, dI)) (ci := 5) (v := .int (nI 1)) (ty := .boolean) (C := RX5) (T := TX5) (N := 7) hx hb hts mX5_must_inX5 tyX5 tyX5_ok nmX5 hown hK hP hD hS 0 rfl rfl 6 (by decide) (hts (.fieldLink RX5 54 "LeafOrder" "stale" "Z") mX5_must_2) (fun _ h9 => h9) rfl (by decide +kernel) rfl rfl (Nat.le_of_ble_eq_true rfl) dX5_must_42 (fun H locs hP hD hS => ?_)
      have hP : va_P (dC, dI) vwCl [(aX, .inr (5, [.ref aL, .ref aC, .ref aR, .ref aS, .ref aB, .int (nI mt), .int (nI 1)])), (aL, .inr (1, [.int (nI nL), .ref aLb, .ref aLe, .ref aLw, .ref aLc, .ref aLd, .ref aLs])), (aR, .inr (2, [.ref aRb, .ref aRr, .ref aRa])), (aRb, .inl (cI, 9, .inl (nF rbz_6))), (aRr, .inl (cI, 9, .inl (nF rr))), (aRa, .inl (cI, 9, .inl (nF ra)))] H := hP
      have hD : va_D A [(aX, .inr (5, [.ref aL, .ref aC, .ref aR, .ref aS, .ref aB, .int (nI mt), .int (nI 1)])), (aL, .inr (1, [.int (nI nL), .ref aLb, .ref aLe, .ref aLw, .ref aLc, .ref aLd, .ref aLs])), (aR, .inr (2, [.ref aRb, .ref aRr, .ref aRa])), (aRb, .inl (cI, 9, .inl (nF rbz_6))), (aRr, .inl (cI, 9, .inl (nF rr))), (aRa, .inl (cI, 9, .inl (nF ra)))] := hD
      refine lv_iconst (v := nI 1) hx hb dX5_must_45 (by decide) ?_
      have hC : pc_pair nL (nI k1) (nI k2) := ⟨⟨k1, hk1, rfl⟩, ⟨k2, hk2, rfl⟩, hne⟩
      exact W.zret (v := (nI 1)) hx hb hr (by decide) (fun t ht hW => ⟨⟨(nI 1), (1, rbz_6, rr, ra), rfl, ⟨(cif_t hC).symm, (by rw [cif_t ⟨hC, by decide⟩, tn_nI (show k1 < 2 ^ 31 by omega), tn_nI (show k2 < 2 ^ 31 by omega)]; exact hj1), (cif_f (fun q => absurd q.2 (by decide))).symm, (cif_f (fun q => absurd q.2 (by decide))).symm, (cif_t hC).symm, hj3, bRr, bRa⟩, by rw [ht]; exact hP, hD⟩, hS.F ht⟩) hS.2.2 dX5_must_46
    · refine ln_if_neF (tgt := 11) hx hb dX5_must_6 (by decide) (by decide) ?_
      refine lv_iconst (v := nI 0) hx hb dX5_must_9 (by decide) ?_
      exact W.zret (v := (nI 0)) hx hb hr (by decide) (fun t ht hW => ⟨⟨(nI 0), (sa, rb, rr, ra), rfl, ⟨(cif_f c_3).symm, (cif_f (fun q => c_3 q.1)).symm, (cif_f (fun q => c_3 q.1)).symm, (cif_f (fun q => c_3 q.1)).symm, (cif_f c_3).symm, bRb, bRr, bRa⟩, by rw [ht]; exact hP, hD⟩, hS.F ht⟩) hS.2.2 dX5_must_10
  · refine lv_aload_n hx hb dX5_must_0 rfl (lv_at hl 0 rfl) ?_
    refine lv_iload_n hx hb dX5_must_1 rfl (lv_at hl 1 rfl) ?_
    refine lv_iload_n hx hb dX5_must_2 rfl (lv_at hl 2 rfl) ?_
    have hPc := hP.sub (ws' := [(aX, .inr (5, [.ref aL, .ref aC, .ref aR, .ref aS, .ref aB, .int (nI mt), .int (nI sa)])), (aL, .inr (1, [.int (nI nL), .ref aLb, .ref aLe, .ref aLw, .ref aLc, .ref aLd, .ref aLs]))]) [0, 1] rfl
    refine vp_callSi (W.runV (As := [.int x1, .int x2]) (rest := []) ⟨hx, hb, hml, hown, hts⟩ (k_X5_areTwo l dC dI cI cZ aX aL aC aR aS aB aLb aLe aLw aLc aLd aLs mt sa nL x1 x2 (by omega)) (cwV 2 hts gX5_must_X5_areTwo rfl rfl rfl (by decide +kernel) ⟨Nat.le_of_ble_eq_true rfl, Nat.le_of_ble_eq_true rfl⟩) (ln_preV (q0 := 0) (ci := 5) hPc hKK rfl rfl) rfl rfl hl.1 rfl (lv_room (Nat.le_of_ble_eq_true rfl)) dX5_must_3 ⟨Nat.le_of_ble_eq_true rfl, Nat.le_of_ble_eq_true rfl⟩) (fun r_7 w_8 => ?_)
    rcases w_8 with ⟨rfl, c_9⟩ | ⟨rfl, c_9⟩
    · obtain ⟨⟨k1, hk1, rfl⟩, ⟨k2, hk2, rfl⟩, hne⟩ := c_9
      refine ln_if_neT (tgt := 11) hx hb dX5_must_6 (by decide) (by decide) ?_
      refine lv_iload_n hx hb dX5_must_11 rfl (lv_at hl 3 rfl) ?_
      refine ln_if_eqF (tgt := 29) hx hb dX5_must_12 (by decide) (by decide) ?_
      refine lv_aload_n hx hb dX5_must_15 rfl (lv_at hl 0 rfl) ?_
      refine va_get (D := (dC, dI)) (ci := 5) (v := .ref aR) (C := RX5) (T := TX5) (N := 7) hx hb hts mX5_must_inX5 hown hK hP 0 rfl rfl 2 (by decide) (hts (.fieldLink RX5 28 "LeafOrder" "rules" "LLeafOrder$Rules;") mX5_must_0) (fun _ h9 => h9) rfl dX5_must_16 ?_
      refine lv_iload_n hx hb dX5_must_19 rfl (lv_at hl 1 rfl) ?_
      refine lv_iload_n hx hb dX5_must_20 rfl (lv_at hl 2 rfl) ?_
      refine lv_iload hx hb dX5_must_21 (lv_at hl 4 rfl) ?_
      have hPc := hP.sub (ws' := [(aR, .inr (2, [.ref aRb, .ref aRr, .ref aRa])), (aRr, .inl (cI, 9, .inl (nF rr))), (aRa, .inl (cI, 9, .inl (nF ra)))]) [2, 4, 5] rfl
      have hDc := hD.sub (ws' := [(aR, .inr (2, [.ref aRb, .ref aRr, .ref aRa])), (aRr, .inl (cI, 9, .inl (nF rr))), (aRa, .inl (cI, 9, .inl (nF ra)))]) [2, 4, 5] (by decide) rfl
      have hFc := va_free (wc := [(aR, .inr (2, [.ref aRb, .ref aRr, .ref aRa])), (aRr, .inl (cI, 9, .inl (nF rr))), (aRa, .inl (cI, 9, .inl (nF ra)))]) hD hS hA [2, 4, 5] rfl
      refine va_callv (va_runV (As := [.int (nI k1), .int (nI k2), .int (nI q4)]) (rest := []) ⟨hx, hb, hml, hown, hts⟩ (k_X2_putJoined l dC dI cI cZ aR aRb aRr aRa rr ra k1 k2 q4 s.heap.size bRr bRa (by omega) (by omega) (by omega)) (cwV 3 hts gX5_must_X2_putJoined rfl rfl rfl (by decide +kernel) ⟨Nat.le_of_ble_eq_true rfl, Nat.le_of_ble_eq_true rfl⟩) (ln_preVM (q0 := 0) (ci := 2) hPc hKK hDc rfl rfl) rfl rfl hl.1 rfl (lv_room (Nat.le_of_ble_eq_true rfl)) dX5_must_23 ⟨Nat.le_of_ble_eq_true rfl, Nat.le_of_ble_eq_true rfl⟩) hS (fun q _ h => hFc q h) hFc (fun u t H1 locs ht hvm w_11 hB hzH hkH hS => ?_)
      obtain ⟨rrz_12, raz_13⟩ := u
      obtain ⟨hP1, hD1⟩ := hB
      rw [ht] at hP1
      try dsimp only at w_11
      obtain ⟨hP, hD⟩ := va_join (wr := [(aX, .inr (5, [.ref aL, .ref aC, .ref aR, .ref aS, .ref aB, .int (nI mt), .int (nI sa)])), (aL, .inr (1, [.int (nI nL), .ref aLb, .ref aLe, .ref aLw, .ref aLc, .ref aLd, .ref aLs])), (aRb, .inl (cI, 9, .inl (nF rb)))]) (w1 := [(aR, .inr (2, [.ref aRb, .ref aRr, .ref aRa])), (aRr, .inl (cI, 9, .inl (nF rrz_12))), (aRa, .inl (cI, 9, .inl (nF raz_13)))]) hP hD [2, 4, 5] [0, 1, 3] rfl rfl (by decide) (by decide) hkH hFc hP1 hD1
      generalize H1 = H at hP hS ⊢
      have hP := hP.sub (ws' := [(aX, .inr (5, [.ref aL, .ref aC, .ref aR, .ref aS, .ref aB, .int (nI mt), .int (nI sa)])), (aL, .inr (1, [.int (nI nL), .ref aLb, .ref aLe, .ref aLw, .ref aLc, .ref aLd, .ref aLs])), (aR, .inr (2, [.ref aRb, .ref aRr, .ref aRa])), (aRb, .inl (cI, 9, .inl (nF rb))), (aRr, .inl (cI, 9, .inl (nF rrz_12))), (aRa, .inl (cI, 9, .inl (nF raz_13)))]) [0, 1, 3, 2, 4, 5] rfl
      have hD := hD.sub (ws' := [(aX, .inr (5, [.ref aL, .ref aC, .ref aR, .ref aS, .ref aB, .int (nI mt), .int (nI sa)])), (aL, .inr (1, [.int (nI nL), .ref aLb, .ref aLe, .ref aLw, .ref aLc, .ref aLd, .ref aLs])), (aR, .inr (2, [.ref aRb, .ref aRr, .ref aRa])), (aRb, .inl (cI, 9, .inl (nF rb))), (aRr, .inl (cI, 9, .inl (nF rrz_12))), (aRa, .inl (cI, 9, .inl (nF raz_13)))]) [0, 1, 3, 2, 4, 5] (by decide) rfl
      obtain ⟨hj1, hj2, hj3, hj4⟩ := w_11
      refine lv_goto (tgt := 40) hx hb dX5_must_26 (by decide) ?_
      refine lv_aload_n hx hb dX5_must_40 rfl (lv_at hl 0 rfl) ?_
      refine lv_iconst (v := nI 1) hx hb dX5_must_41 (by decide) ?_
      refine va_put (D := (dC, dI)) (ci := 5) (v := .int (nI 1)) (ty := .boolean) (C := RX5) (T := TX5) (N := 7) hx hb hts mX5_must_inX5 tyX5 tyX5_ok nmX5 hown hK hP hD hS 0 rfl rfl 6 (by decide) (hts (.fieldLink RX5 54 "LeafOrder" "stale" "Z") mX5_must_2) (fun _ h9 => h9) rfl (by decide +kernel) rfl rfl (Nat.le_of_ble_eq_true rfl) dX5_must_42 (fun H locs hP hD hS => ?_)
      have hP : va_P (dC, dI) vwCl [(aX, .inr (5, [.ref aL, .ref aC, .ref aR, .ref aS, .ref aB, .int (nI mt), .int (nI 1)])), (aL, .inr (1, [.int (nI nL), .ref aLb, .ref aLe, .ref aLw, .ref aLc, .ref aLd, .ref aLs])), (aR, .inr (2, [.ref aRb, .ref aRr, .ref aRa])), (aRb, .inl (cI, 9, .inl (nF rb))), (aRr, .inl (cI, 9, .inl (nF rrz_12))), (aRa, .inl (cI, 9, .inl (nF raz_13)))] H := hP
      have hD : va_D A [(aX, .inr (5, [.ref aL, .ref aC, .ref aR, .ref aS, .ref aB, .int (nI mt), .int (nI 1)])), (aL, .inr (1, [.int (nI nL), .ref aLb, .ref aLe, .ref aLw, .ref aLc, .ref aLd, .ref aLs])), (aR, .inr (2, [.ref aRb, .ref aRr, .ref aRa])), (aRb, .inl (cI, 9, .inl (nF rb))), (aRr, .inl (cI, 9, .inl (nF rrz_12))), (aRa, .inl (cI, 9, .inl (nF raz_13)))] := hD
      refine lv_iconst (v := nI 1) hx hb dX5_must_45 (by decide) ?_
      have hC : pc_pair nL (nI k1) (nI k2) := ⟨⟨k1, hk1, rfl⟩, ⟨k2, hk2, rfl⟩, hne⟩
      exact W.zret (v := (nI 1)) hx hb hr (by decide) (fun t ht hW => ⟨⟨(nI 1), (1, rb, rrz_12, raz_13), rfl, ⟨(cif_t hC).symm, (cif_f (fun q => absurd q.2 (by decide))).symm, (by rw [cif_t ⟨hC, by decide⟩, tn_nI (show k1 < 2 ^ 31 by omega), tn_nI (show k2 < 2 ^ 31 by omega)]; exact hj1), (by rw [cif_t ⟨hC, by decide⟩, tn_nI (show k1 < 2 ^ 31 by omega), tn_nI (show k2 < 2 ^ 31 by omega)]; exact hj2), (cif_t hC).symm, bRb, hj3, hj4⟩, by rw [ht]; exact hP, hD⟩, hS.F ht⟩) hS.2.2 dX5_must_46
    · refine ln_if_neF (tgt := 11) hx hb dX5_must_6 (by decide) (by decide) ?_
      refine lv_iconst (v := nI 0) hx hb dX5_must_9 (by decide) ?_
      exact W.zret (v := (nI 0)) hx hb hr (by decide) (fun t ht hW => ⟨⟨(nI 0), (sa, rb, rr, ra), rfl, ⟨(cif_f c_9).symm, (cif_f (fun q => c_9 q.1)).symm, (cif_f (fun q => c_9 q.1)).symm, (cif_f (fun q => c_9 q.1)).symm, (cif_f c_9).symm, bRb, bRr, bRa⟩, by rw [ht]; exact hP, hD⟩, hS.F ht⟩) hS.2.2 dX5_must_10
theorem mX5_join_0 : Cond.fieldLink RX5 21 "LeafOrder" "scale" "LLeafOrder$Scale;" ∈ wsX5_join := by decide +kernel
theorem mX5_join_inX5 : ∀ w ∈ wsX50, w ∈ wsX5_join := by decide +kernel
theorem mX5_join_2 : Cond.fieldLink RX5 50 "LeafOrder" "mayTurn" "Z" ∈ wsX5_join := by decide +kernel
set_option maxHeartbeats 4000000 in
set_option maxRecDepth 100000 in
theorem k_X5_join (l : Launch) (dC : Nat → ClassId) (dI : Nat → Nat → Nat) (cI cZ : ClassId) (aX aL aC aR aS aB aCz aLb aLe aLw aLc aLd aLs : Nat) (mt : Nat) (sa : Nat) (fz : Nat → Nat) (nL : Nat) (fb : Nat → Nat) (fe : Nat → Nat) (fw : Nat → Int32) (fc : Nat → Nat) (fd : Nat → Nat) (fs : Nat → Nat) (x1 : Int32) (q2 : Nat) (x3 : Int32) (q4 : Nat) (bCz : ∀ k, fz k ≤ 999) (bLb : ∀ k, fb k ≤ 99) (bLe : ∀ k, fe k ≤ 99) (bLc : ∀ k, fc k ≤ 99) (bLd : ∀ k, fd k ≤ 99) (bLs : ∀ k, fs k ≤ 99) (hn : nL ≤ 9) (h2 : q2 < 2) (h4 : q4 < 2) (hmt : mt < 2) : Met l yX5_join wsX5_join { frames := 4, cells := 0, slots := 0, locals := 95 } (va_Pc [.ref aX, .int x1, .int (nI q2), .int x3, .int (nI q4)] (fun U => va_P (dC, dI) vwCl [(aX, .inr (5, [.ref aL, .ref aC, .ref aR, .ref aS, .ref aB, .int (nI mt), .int (nI sa)])), (aC, .inr (3, [.ref aL, .ref aCz])), (aCz, .inl (cI, 6, .inl (nF fz))), (aL, .inr (1, [.int (nI nL), .ref aLb, .ref aLe, .ref aLw, .ref aLc, .ref aLd, .ref aLs])), (aLb, .inl (cI, 18, .inl (nF fb))), (aLe, .inl (cI, 18, .inl (nF fe))), (aLw, .inl (cI, 18, .inl fw)), (aLc, .inl (cI, 18, .inl (nF fc))), (aLd, .inl (cI, 18, .inl (nF fd))), (aLs, .inl (cI, 27, .inl (nF fs)))] U.heap ∧ lK dC dI cI cZ U)) (vp_Si (fun r => r = (cif (pc_pair nL x1 x3 ∧ ((q2 = 0 ∧ q4 = 0) ∨ ¬ mt = 0)) (nI (m_join fb fe fw fc fd fs fz (2 * tn x1 + q2) (2 * tn x3 + q4))) (-1)))) 0 0 (fun _ => False) := by
  refine Met.ofW (cc := cX5_join) (maxL := 5) (ret := (some .int)) (by decide) rfl ?_
  intro p e s m args below meth c s₁ B hml hv
  obtain ⟨rfl, hP, hKK⟩ := hv
  have hK := hKK.1
  have hx := B.exec
  have hb := B.bytes
  have hr := B.returns
  have hts := atoms_spec (ws := wsX5_join) B.pre
  have hown : s.vm.findClass RX5 = some m.cls := findClass_of_methodNamed B.named
  have hlocks := B.notSynchronized
  have hl := lv_entry ([.ref aX, .int x1, .int (nI q2), .int x3, .int (nI q4)]) (n := 5) (Nat.le_of_ble_eq_true rfl)
  rw [lg_entry_eq]
  generalize (lg_sl ([.ref aX, .int x1, .int (nI q2), .int x3, .int (nI q4)]) ++ List.replicate (5 - (lg_sl ([.ref aX, .int x1, .int (nI q2), .int x3, .int (nI q4)])).length) Slot.unset).toArray = ls at hl ⊢
  have hl : lv_has ls 5 [(0, .ref aX), (1, .int x1), (2, .int (nI q2)), (3, .int x3), (4, .int (nI q4))] := hl
  rcases (show q2 = 0 ∨ q2 = 1 by omega) with rfl | rfl
  · rcases (show q4 = 0 ∨ q4 = 1 by omega) with rfl | rfl
    · refine lv_aload_n hx hb dX5_join_0 rfl (lv_at hl 0 rfl) ?_
      refine lv_iload_n hx hb dX5_join_1 rfl (lv_at hl 1 rfl) ?_
      refine lv_iload_n hx hb dX5_join_2 rfl (lv_at hl 3 rfl) ?_
      have hPc := hP.sub (ws' := [(aX, .inr (5, [.ref aL, .ref aC, .ref aR, .ref aS, .ref aB, .int (nI mt), .int (nI sa)])), (aL, .inr (1, [.int (nI nL), .ref aLb, .ref aLe, .ref aLw, .ref aLc, .ref aLd, .ref aLs]))]) [0, 3] rfl
      refine vp_callSi (W.runV (As := [.int x1, .int x3]) (rest := []) ⟨hx, hb, hml, hown, hts⟩ (k_X5_areTwo l dC dI cI cZ aX aL aC aR aS aB aLb aLe aLw aLc aLd aLs mt sa nL x1 x3 (by omega)) (cwV 2 hts gX5_join_X5_areTwo rfl rfl rfl (by decide +kernel) ⟨Nat.le_of_ble_eq_true rfl, Nat.le_of_ble_eq_true rfl⟩) (ln_preV (q0 := 0) (ci := 5) hPc hKK rfl rfl) rfl rfl hl.1 rfl (lv_room (Nat.le_of_ble_eq_true rfl)) dX5_join_3 ⟨Nat.le_of_ble_eq_true rfl, Nat.le_of_ble_eq_true rfl⟩) (fun r_1 w_2 => ?_)
      rcases w_2 with ⟨rfl, c_3⟩ | ⟨rfl, c_3⟩
      · obtain ⟨⟨k1, hk1, rfl⟩, ⟨k2, hk2, rfl⟩, hne⟩ := c_3
        refine ln_if_eqF (tgt := 25) hx hb dX5_join_6 (by decide) (by decide) ?_
        refine lv_iload_n hx hb dX5_join_9 rfl (lv_at hl 2 rfl) ?_
        refine ln_if_neF (tgt := 18) hx hb dX5_join_10 (by decide) (by decide) ?_
        refine lv_iload hx hb dX5_join_13 (lv_at hl 4 rfl) ?_
        refine ln_if_eqT (tgt := 27) hx hb dX5_join_15 (by decide) (by decide) ?_
        refine lv_aload_n hx hb dX5_join_27 rfl (lv_at hl 0 rfl) ?_
        refine va_get (D := (dC, dI)) (ci := 5) (v := .ref aC) (C := RX5) (T := TX5) (N := 7) hx hb hts mX5_join_inX5 hown hK hP 0 rfl rfl 1 (by decide) (hts (.fieldLink RX5 21 "LeafOrder" "scale" "LLeafOrder$Scale;") mX5_join_0) (fun _ h9 => h9) rfl dX5_join_28 ?_
        refine lv_iload_n hx hb dX5_join_31 rfl (lv_at hl 1 rfl) ?_
        refine lv_iload_n hx hb dX5_join_32 rfl (lv_at hl 2 rfl) ?_
        refine vp_callSi (W.runS (As := [.int (nI k1), .int (nI 0)]) (rest := [.ref aC]) ⟨hx, hb, hml, hown, hts⟩ (k_X5_standOf l dC dI cI cZ k1 0 (by omega)) (va_cwS 2 hts gX5_join_X5_standOf rfl rfl rfl (by decide +kernel) ⟨Nat.le_of_ble_eq_true rfl, Nat.le_of_ble_eq_true rfl⟩) ln_preS0 rfl rfl hl.1 rfl (lv_room (Nat.le_of_ble_eq_true rfl)) dX5_join_33 ⟨Nat.le_of_ble_eq_true rfl, Nat.le_of_ble_eq_true rfl⟩) (fun r_4 w_5 => ?_)
        subst w_5
        refine lv_iload_n hx hb dX5_join_36 rfl (lv_at hl 3 rfl) ?_
        refine lv_iload hx hb dX5_join_37 (lv_at hl 4 rfl) ?_
        refine vp_callSi (W.runS (As := [.int (nI k2), .int (nI 0)]) (rest := [.int (nI (2 * k1 + 0)), .ref aC]) ⟨hx, hb, hml, hown, hts⟩ (k_X5_standOf l dC dI cI cZ k2 0 (by omega)) (va_cwS 2 hts gX5_join_X5_standOf rfl rfl rfl (by decide +kernel) ⟨Nat.le_of_ble_eq_true rfl, Nat.le_of_ble_eq_true rfl⟩) ln_preS0 rfl rfl hl.1 rfl (lv_room (Nat.le_of_ble_eq_true rfl)) dX5_join_39 ⟨Nat.le_of_ble_eq_true rfl, Nat.le_of_ble_eq_true rfl⟩) (fun r_6 w_7 => ?_)
        subst w_7
        have hPc := hP.sub (ws' := [(aC, .inr (3, [.ref aL, .ref aCz])), (aCz, .inl (cI, 6, .inl (nF fz))), (aL, .inr (1, [.int (nI nL), .ref aLb, .ref aLe, .ref aLw, .ref aLc, .ref aLd, .ref aLs])), (aLb, .inl (cI, 18, .inl (nF fb))), (aLe, .inl (cI, 18, .inl (nF fe))), (aLw, .inl (cI, 18, .inl fw)), (aLc, .inl (cI, 18, .inl (nF fc))), (aLd, .inl (cI, 18, .inl (nF fd))), (aLs, .inl (cI, 27, .inl (nF fs)))]) [1, 2, 3, 4, 5, 6, 7, 8, 9] rfl
        refine vp_callSi (W.runV (As := [.int (nI (2 * k1 + 0)), .int (nI (2 * k2 + 0))]) (rest := []) ⟨hx, hb, hml, hown, hts⟩ (k_X3_joinCost l dC dI cI cZ aC aL aCz aLb aLe aLw aLc aLd aLs fz nL fb fe fw fc fd fs (2 * k1 + 0) (2 * k2 + 0) bCz bLb bLe bLc bLd bLs (by omega) (by omega)) (cwV 2 hts gX5_join_X3_joinCost rfl rfl rfl (by decide +kernel) ⟨Nat.le_of_ble_eq_true rfl, Nat.le_of_ble_eq_true rfl⟩) (ln_preV (q0 := 0) (ci := 3) hPc hKK rfl rfl) rfl rfl hl.1 rfl (lv_room (Nat.le_of_ble_eq_true rfl)) dX5_join_42 ⟨Nat.le_of_ble_eq_true rfl, Nat.le_of_ble_eq_true rfl⟩) (fun r_8 w_9 => ?_)
        subst w_9
        exact W.iret (v := (nI (m_join fb fe fw fc fd fs fz (2 * k1 + 0) (2 * k2 + 0)))) hx hb hr (fun t ht hW => ⟨(nI (m_join fb fe fw fc fd fs fz (2 * k1 + 0) (2 * k2 + 0))), rfl, (by rw [cif_t ⟨⟨⟨k1, hk1, rfl⟩, ⟨k2, hk2, rfl⟩, hne⟩, Or.inl ⟨rfl, rfl⟩⟩, tn_nI (show k1 < 2 ^ 31 by omega), tn_nI (show k2 < 2 ^ 31 by omega)]), ht⟩) (fun _ h => by cases h) dX5_join_45
      · refine ln_if_eqT (tgt := 25) hx hb dX5_join_6 (by decide) (by decide) ?_
        refine lv_iconst (v := (-1)) hx hb dX5_join_25 (by decide) ?_
        exact W.iret (v := (-1)) hx hb hr (fun t ht hW => ⟨(-1), rfl, (cif_f (fun q => c_3 q.1)).symm, ht⟩) (fun _ h => by cases h) dX5_join_26
    · refine lv_aload_n hx hb dX5_join_0 rfl (lv_at hl 0 rfl) ?_
      refine lv_iload_n hx hb dX5_join_1 rfl (lv_at hl 1 rfl) ?_
      refine lv_iload_n hx hb dX5_join_2 rfl (lv_at hl 3 rfl) ?_
      have hPc := hP.sub (ws' := [(aX, .inr (5, [.ref aL, .ref aC, .ref aR, .ref aS, .ref aB, .int (nI mt), .int (nI sa)])), (aL, .inr (1, [.int (nI nL), .ref aLb, .ref aLe, .ref aLw, .ref aLc, .ref aLd, .ref aLs]))]) [0, 3] rfl
      refine vp_callSi (W.runV (As := [.int x1, .int x3]) (rest := []) ⟨hx, hb, hml, hown, hts⟩ (k_X5_areTwo l dC dI cI cZ aX aL aC aR aS aB aLb aLe aLw aLc aLd aLs mt sa nL x1 x3 (by omega)) (cwV 2 hts gX5_join_X5_areTwo rfl rfl rfl (by decide +kernel) ⟨Nat.le_of_ble_eq_true rfl, Nat.le_of_ble_eq_true rfl⟩) (ln_preV (q0 := 0) (ci := 5) hPc hKK rfl rfl) rfl rfl hl.1 rfl (lv_room (Nat.le_of_ble_eq_true rfl)) dX5_join_3 ⟨Nat.le_of_ble_eq_true rfl, Nat.le_of_ble_eq_true rfl⟩) (fun r_10 w_11 => ?_)
      rcases w_11 with ⟨rfl, c_12⟩ | ⟨rfl, c_12⟩
      · obtain ⟨⟨k1, hk1, rfl⟩, ⟨k2, hk2, rfl⟩, hne⟩ := c_12
        refine ln_if_eqF (tgt := 25) hx hb dX5_join_6 (by decide) (by decide) ?_
        refine lv_iload_n hx hb dX5_join_9 rfl (lv_at hl 2 rfl) ?_
        refine ln_if_neF (tgt := 18) hx hb dX5_join_10 (by decide) (by decide) ?_
        refine lv_iload hx hb dX5_join_13 (lv_at hl 4 rfl) ?_
        refine ln_if_eqF (tgt := 27) hx hb dX5_join_15 (by decide) (by decide) ?_
        refine lv_aload_n hx hb dX5_join_18 rfl (lv_at hl 0 rfl) ?_
        refine va_get (D := (dC, dI)) (ci := 5) (v := .int (nI mt)) (C := RX5) (T := TX5) (N := 7) hx hb hts mX5_join_inX5 hown hK hP 0 rfl rfl 5 (by decide) (hts (.fieldLink RX5 50 "LeafOrder" "mayTurn" "Z") mX5_join_2) (fun _ h9 => h9) rfl dX5_join_19 ?_
        refine ln_if_ne (tgt := 27) hx hb dX5_join_22 (by decide) (by omega) (fun c_13 => ?_) (fun c_13 => ?_)
        · refine lv_aload_n hx hb dX5_join_27 rfl (lv_at hl 0 rfl) ?_
          refine va_get (D := (dC, dI)) (ci := 5) (v := .ref aC) (C := RX5) (T := TX5) (N := 7) hx hb hts mX5_join_inX5 hown hK hP 0 rfl rfl 1 (by decide) (hts (.fieldLink RX5 21 "LeafOrder" "scale" "LLeafOrder$Scale;") mX5_join_0) (fun _ h9 => h9) rfl dX5_join_28 ?_
          refine lv_iload_n hx hb dX5_join_31 rfl (lv_at hl 1 rfl) ?_
          refine lv_iload_n hx hb dX5_join_32 rfl (lv_at hl 2 rfl) ?_
          refine vp_callSi (W.runS (As := [.int (nI k1), .int (nI 0)]) (rest := [.ref aC]) ⟨hx, hb, hml, hown, hts⟩ (k_X5_standOf l dC dI cI cZ k1 0 (by omega)) (va_cwS 2 hts gX5_join_X5_standOf rfl rfl rfl (by decide +kernel) ⟨Nat.le_of_ble_eq_true rfl, Nat.le_of_ble_eq_true rfl⟩) ln_preS0 rfl rfl hl.1 rfl (lv_room (Nat.le_of_ble_eq_true rfl)) dX5_join_33 ⟨Nat.le_of_ble_eq_true rfl, Nat.le_of_ble_eq_true rfl⟩) (fun r_14 w_15 => ?_)
          subst w_15
          refine lv_iload_n hx hb dX5_join_36 rfl (lv_at hl 3 rfl) ?_
          refine lv_iload hx hb dX5_join_37 (lv_at hl 4 rfl) ?_
          refine vp_callSi (W.runS (As := [.int (nI k2), .int (nI 1)]) (rest := [.int (nI (2 * k1 + 0)), .ref aC]) ⟨hx, hb, hml, hown, hts⟩ (k_X5_standOf l dC dI cI cZ k2 1 (by omega)) (va_cwS 2 hts gX5_join_X5_standOf rfl rfl rfl (by decide +kernel) ⟨Nat.le_of_ble_eq_true rfl, Nat.le_of_ble_eq_true rfl⟩) ln_preS0 rfl rfl hl.1 rfl (lv_room (Nat.le_of_ble_eq_true rfl)) dX5_join_39 ⟨Nat.le_of_ble_eq_true rfl, Nat.le_of_ble_eq_true rfl⟩) (fun r_16 w_17 => ?_)
          subst w_17
          have hPc := hP.sub (ws' := [(aC, .inr (3, [.ref aL, .ref aCz])), (aCz, .inl (cI, 6, .inl (nF fz))), (aL, .inr (1, [.int (nI nL), .ref aLb, .ref aLe, .ref aLw, .ref aLc, .ref aLd, .ref aLs])), (aLb, .inl (cI, 18, .inl (nF fb))), (aLe, .inl (cI, 18, .inl (nF fe))), (aLw, .inl (cI, 18, .inl fw)), (aLc, .inl (cI, 18, .inl (nF fc))), (aLd, .inl (cI, 18, .inl (nF fd))), (aLs, .inl (cI, 27, .inl (nF fs)))]) [1, 2, 3, 4, 5, 6, 7, 8, 9] rfl
          refine vp_callSi (W.runV (As := [.int (nI (2 * k1 + 0)), .int (nI (2 * k2 + 1))]) (rest := []) ⟨hx, hb, hml, hown, hts⟩ (k_X3_joinCost l dC dI cI cZ aC aL aCz aLb aLe aLw aLc aLd aLs fz nL fb fe fw fc fd fs (2 * k1 + 0) (2 * k2 + 1) bCz bLb bLe bLc bLd bLs (by omega) (by omega)) (cwV 2 hts gX5_join_X3_joinCost rfl rfl rfl (by decide +kernel) ⟨Nat.le_of_ble_eq_true rfl, Nat.le_of_ble_eq_true rfl⟩) (ln_preV (q0 := 0) (ci := 3) hPc hKK rfl rfl) rfl rfl hl.1 rfl (lv_room (Nat.le_of_ble_eq_true rfl)) dX5_join_42 ⟨Nat.le_of_ble_eq_true rfl, Nat.le_of_ble_eq_true rfl⟩) (fun r_18 w_19 => ?_)
          subst w_19
          exact W.iret (v := (nI (m_join fb fe fw fc fd fs fz (2 * k1 + 0) (2 * k2 + 1)))) hx hb hr (fun t ht hW => ⟨(nI (m_join fb fe fw fc fd fs fz (2 * k1 + 0) (2 * k2 + 1))), rfl, (by rw [cif_t ⟨⟨⟨k1, hk1, rfl⟩, ⟨k2, hk2, rfl⟩, hne⟩, Or.inr c_13⟩, tn_nI (show k1 < 2 ^ 31 by omega), tn_nI (show k2 < 2 ^ 31 by omega)]), ht⟩) (fun _ h => by cases h) dX5_join_45
        · refine lv_iconst (v := (-1)) hx hb dX5_join_25 (by decide) ?_
          exact W.iret (v := (-1)) hx hb hr (fun t ht hW => ⟨(-1), rfl, (cif_f (fun q => q.2.elim (fun z => absurd z (by decide)) (fun z => z c_13))).symm, ht⟩) (fun _ h => by cases h) dX5_join_26
      · refine ln_if_eqT (tgt := 25) hx hb dX5_join_6 (by decide) (by decide) ?_
        refine lv_iconst (v := (-1)) hx hb dX5_join_25 (by decide) ?_
        exact W.iret (v := (-1)) hx hb hr (fun t ht hW => ⟨(-1), rfl, (cif_f (fun q => c_12 q.1)).symm, ht⟩) (fun _ h => by cases h) dX5_join_26
  · rcases (show q4 = 0 ∨ q4 = 1 by omega) with rfl | rfl
    · refine lv_aload_n hx hb dX5_join_0 rfl (lv_at hl 0 rfl) ?_
      refine lv_iload_n hx hb dX5_join_1 rfl (lv_at hl 1 rfl) ?_
      refine lv_iload_n hx hb dX5_join_2 rfl (lv_at hl 3 rfl) ?_
      have hPc := hP.sub (ws' := [(aX, .inr (5, [.ref aL, .ref aC, .ref aR, .ref aS, .ref aB, .int (nI mt), .int (nI sa)])), (aL, .inr (1, [.int (nI nL), .ref aLb, .ref aLe, .ref aLw, .ref aLc, .ref aLd, .ref aLs]))]) [0, 3] rfl
      refine vp_callSi (W.runV (As := [.int x1, .int x3]) (rest := []) ⟨hx, hb, hml, hown, hts⟩ (k_X5_areTwo l dC dI cI cZ aX aL aC aR aS aB aLb aLe aLw aLc aLd aLs mt sa nL x1 x3 (by omega)) (cwV 2 hts gX5_join_X5_areTwo rfl rfl rfl (by decide +kernel) ⟨Nat.le_of_ble_eq_true rfl, Nat.le_of_ble_eq_true rfl⟩) (ln_preV (q0 := 0) (ci := 5) hPc hKK rfl rfl) rfl rfl hl.1 rfl (lv_room (Nat.le_of_ble_eq_true rfl)) dX5_join_3 ⟨Nat.le_of_ble_eq_true rfl, Nat.le_of_ble_eq_true rfl⟩) (fun r_20 w_21 => ?_)
      rcases w_21 with ⟨rfl, c_22⟩ | ⟨rfl, c_22⟩
      · obtain ⟨⟨k1, hk1, rfl⟩, ⟨k2, hk2, rfl⟩, hne⟩ := c_22
        refine ln_if_eqF (tgt := 25) hx hb dX5_join_6 (by decide) (by decide) ?_
        refine lv_iload_n hx hb dX5_join_9 rfl (lv_at hl 2 rfl) ?_
        refine ln_if_neT (tgt := 18) hx hb dX5_join_10 (by decide) (by decide) ?_
        refine lv_aload_n hx hb dX5_join_18 rfl (lv_at hl 0 rfl) ?_
        refine va_get (D := (dC, dI)) (ci := 5) (v := .int (nI mt)) (C := RX5) (T := TX5) (N := 7) hx hb hts mX5_join_inX5 hown hK hP 0 rfl rfl 5 (by decide) (hts (.fieldLink RX5 50 "LeafOrder" "mayTurn" "Z") mX5_join_2) (fun _ h9 => h9) rfl dX5_join_19 ?_
        refine ln_if_ne (tgt := 27) hx hb dX5_join_22 (by decide) (by omega) (fun c_23 => ?_) (fun c_23 => ?_)
        · refine lv_aload_n hx hb dX5_join_27 rfl (lv_at hl 0 rfl) ?_
          refine va_get (D := (dC, dI)) (ci := 5) (v := .ref aC) (C := RX5) (T := TX5) (N := 7) hx hb hts mX5_join_inX5 hown hK hP 0 rfl rfl 1 (by decide) (hts (.fieldLink RX5 21 "LeafOrder" "scale" "LLeafOrder$Scale;") mX5_join_0) (fun _ h9 => h9) rfl dX5_join_28 ?_
          refine lv_iload_n hx hb dX5_join_31 rfl (lv_at hl 1 rfl) ?_
          refine lv_iload_n hx hb dX5_join_32 rfl (lv_at hl 2 rfl) ?_
          refine vp_callSi (W.runS (As := [.int (nI k1), .int (nI 1)]) (rest := [.ref aC]) ⟨hx, hb, hml, hown, hts⟩ (k_X5_standOf l dC dI cI cZ k1 1 (by omega)) (va_cwS 2 hts gX5_join_X5_standOf rfl rfl rfl (by decide +kernel) ⟨Nat.le_of_ble_eq_true rfl, Nat.le_of_ble_eq_true rfl⟩) ln_preS0 rfl rfl hl.1 rfl (lv_room (Nat.le_of_ble_eq_true rfl)) dX5_join_33 ⟨Nat.le_of_ble_eq_true rfl, Nat.le_of_ble_eq_true rfl⟩) (fun r_24 w_25 => ?_)
          subst w_25
          refine lv_iload_n hx hb dX5_join_36 rfl (lv_at hl 3 rfl) ?_
          refine lv_iload hx hb dX5_join_37 (lv_at hl 4 rfl) ?_
          refine vp_callSi (W.runS (As := [.int (nI k2), .int (nI 0)]) (rest := [.int (nI (2 * k1 + 1)), .ref aC]) ⟨hx, hb, hml, hown, hts⟩ (k_X5_standOf l dC dI cI cZ k2 0 (by omega)) (va_cwS 2 hts gX5_join_X5_standOf rfl rfl rfl (by decide +kernel) ⟨Nat.le_of_ble_eq_true rfl, Nat.le_of_ble_eq_true rfl⟩) ln_preS0 rfl rfl hl.1 rfl (lv_room (Nat.le_of_ble_eq_true rfl)) dX5_join_39 ⟨Nat.le_of_ble_eq_true rfl, Nat.le_of_ble_eq_true rfl⟩) (fun r_26 w_27 => ?_)
          subst w_27
          have hPc := hP.sub (ws' := [(aC, .inr (3, [.ref aL, .ref aCz])), (aCz, .inl (cI, 6, .inl (nF fz))), (aL, .inr (1, [.int (nI nL), .ref aLb, .ref aLe, .ref aLw, .ref aLc, .ref aLd, .ref aLs])), (aLb, .inl (cI, 18, .inl (nF fb))), (aLe, .inl (cI, 18, .inl (nF fe))), (aLw, .inl (cI, 18, .inl fw)), (aLc, .inl (cI, 18, .inl (nF fc))), (aLd, .inl (cI, 18, .inl (nF fd))), (aLs, .inl (cI, 27, .inl (nF fs)))]) [1, 2, 3, 4, 5, 6, 7, 8, 9] rfl
          refine vp_callSi (W.runV (As := [.int (nI (2 * k1 + 1)), .int (nI (2 * k2 + 0))]) (rest := []) ⟨hx, hb, hml, hown, hts⟩ (k_X3_joinCost l dC dI cI cZ aC aL aCz aLb aLe aLw aLc aLd aLs fz nL fb fe fw fc fd fs (2 * k1 + 1) (2 * k2 + 0) bCz bLb bLe bLc bLd bLs (by omega) (by omega)) (cwV 2 hts gX5_join_X3_joinCost rfl rfl rfl (by decide +kernel) ⟨Nat.le_of_ble_eq_true rfl, Nat.le_of_ble_eq_true rfl⟩) (ln_preV (q0 := 0) (ci := 3) hPc hKK rfl rfl) rfl rfl hl.1 rfl (lv_room (Nat.le_of_ble_eq_true rfl)) dX5_join_42 ⟨Nat.le_of_ble_eq_true rfl, Nat.le_of_ble_eq_true rfl⟩) (fun r_28 w_29 => ?_)
          subst w_29
          exact W.iret (v := (nI (m_join fb fe fw fc fd fs fz (2 * k1 + 1) (2 * k2 + 0)))) hx hb hr (fun t ht hW => ⟨(nI (m_join fb fe fw fc fd fs fz (2 * k1 + 1) (2 * k2 + 0))), rfl, (by rw [cif_t ⟨⟨⟨k1, hk1, rfl⟩, ⟨k2, hk2, rfl⟩, hne⟩, Or.inr c_23⟩, tn_nI (show k1 < 2 ^ 31 by omega), tn_nI (show k2 < 2 ^ 31 by omega)]), ht⟩) (fun _ h => by cases h) dX5_join_45
        · refine lv_iconst (v := (-1)) hx hb dX5_join_25 (by decide) ?_
          exact W.iret (v := (-1)) hx hb hr (fun t ht hW => ⟨(-1), rfl, (cif_f (fun q => q.2.elim (fun z => absurd z (by decide)) (fun z => z c_23))).symm, ht⟩) (fun _ h => by cases h) dX5_join_26
      · refine ln_if_eqT (tgt := 25) hx hb dX5_join_6 (by decide) (by decide) ?_
        refine lv_iconst (v := (-1)) hx hb dX5_join_25 (by decide) ?_
        exact W.iret (v := (-1)) hx hb hr (fun t ht hW => ⟨(-1), rfl, (cif_f (fun q => c_22 q.1)).symm, ht⟩) (fun _ h => by cases h) dX5_join_26
    · refine lv_aload_n hx hb dX5_join_0 rfl (lv_at hl 0 rfl) ?_
      refine lv_iload_n hx hb dX5_join_1 rfl (lv_at hl 1 rfl) ?_
      refine lv_iload_n hx hb dX5_join_2 rfl (lv_at hl 3 rfl) ?_
      have hPc := hP.sub (ws' := [(aX, .inr (5, [.ref aL, .ref aC, .ref aR, .ref aS, .ref aB, .int (nI mt), .int (nI sa)])), (aL, .inr (1, [.int (nI nL), .ref aLb, .ref aLe, .ref aLw, .ref aLc, .ref aLd, .ref aLs]))]) [0, 3] rfl
      refine vp_callSi (W.runV (As := [.int x1, .int x3]) (rest := []) ⟨hx, hb, hml, hown, hts⟩ (k_X5_areTwo l dC dI cI cZ aX aL aC aR aS aB aLb aLe aLw aLc aLd aLs mt sa nL x1 x3 (by omega)) (cwV 2 hts gX5_join_X5_areTwo rfl rfl rfl (by decide +kernel) ⟨Nat.le_of_ble_eq_true rfl, Nat.le_of_ble_eq_true rfl⟩) (ln_preV (q0 := 0) (ci := 5) hPc hKK rfl rfl) rfl rfl hl.1 rfl (lv_room (Nat.le_of_ble_eq_true rfl)) dX5_join_3 ⟨Nat.le_of_ble_eq_true rfl, Nat.le_of_ble_eq_true rfl⟩) (fun r_30 w_31 => ?_)
      rcases w_31 with ⟨rfl, c_32⟩ | ⟨rfl, c_32⟩
      · obtain ⟨⟨k1, hk1, rfl⟩, ⟨k2, hk2, rfl⟩, hne⟩ := c_32
        refine ln_if_eqF (tgt := 25) hx hb dX5_join_6 (by decide) (by decide) ?_
        refine lv_iload_n hx hb dX5_join_9 rfl (lv_at hl 2 rfl) ?_
        refine ln_if_neT (tgt := 18) hx hb dX5_join_10 (by decide) (by decide) ?_
        refine lv_aload_n hx hb dX5_join_18 rfl (lv_at hl 0 rfl) ?_
        refine va_get (D := (dC, dI)) (ci := 5) (v := .int (nI mt)) (C := RX5) (T := TX5) (N := 7) hx hb hts mX5_join_inX5 hown hK hP 0 rfl rfl 5 (by decide) (hts (.fieldLink RX5 50 "LeafOrder" "mayTurn" "Z") mX5_join_2) (fun _ h9 => h9) rfl dX5_join_19 ?_
        refine ln_if_ne (tgt := 27) hx hb dX5_join_22 (by decide) (by omega) (fun c_33 => ?_) (fun c_33 => ?_)
        · refine lv_aload_n hx hb dX5_join_27 rfl (lv_at hl 0 rfl) ?_
          refine va_get (D := (dC, dI)) (ci := 5) (v := .ref aC) (C := RX5) (T := TX5) (N := 7) hx hb hts mX5_join_inX5 hown hK hP 0 rfl rfl 1 (by decide) (hts (.fieldLink RX5 21 "LeafOrder" "scale" "LLeafOrder$Scale;") mX5_join_0) (fun _ h9 => h9) rfl dX5_join_28 ?_
          refine lv_iload_n hx hb dX5_join_31 rfl (lv_at hl 1 rfl) ?_
          refine lv_iload_n hx hb dX5_join_32 rfl (lv_at hl 2 rfl) ?_
          refine vp_callSi (W.runS (As := [.int (nI k1), .int (nI 1)]) (rest := [.ref aC]) ⟨hx, hb, hml, hown, hts⟩ (k_X5_standOf l dC dI cI cZ k1 1 (by omega)) (va_cwS 2 hts gX5_join_X5_standOf rfl rfl rfl (by decide +kernel) ⟨Nat.le_of_ble_eq_true rfl, Nat.le_of_ble_eq_true rfl⟩) ln_preS0 rfl rfl hl.1 rfl (lv_room (Nat.le_of_ble_eq_true rfl)) dX5_join_33 ⟨Nat.le_of_ble_eq_true rfl, Nat.le_of_ble_eq_true rfl⟩) (fun r_34 w_35 => ?_)
          subst w_35
          refine lv_iload_n hx hb dX5_join_36 rfl (lv_at hl 3 rfl) ?_
          refine lv_iload hx hb dX5_join_37 (lv_at hl 4 rfl) ?_
          refine vp_callSi (W.runS (As := [.int (nI k2), .int (nI 1)]) (rest := [.int (nI (2 * k1 + 1)), .ref aC]) ⟨hx, hb, hml, hown, hts⟩ (k_X5_standOf l dC dI cI cZ k2 1 (by omega)) (va_cwS 2 hts gX5_join_X5_standOf rfl rfl rfl (by decide +kernel) ⟨Nat.le_of_ble_eq_true rfl, Nat.le_of_ble_eq_true rfl⟩) ln_preS0 rfl rfl hl.1 rfl (lv_room (Nat.le_of_ble_eq_true rfl)) dX5_join_39 ⟨Nat.le_of_ble_eq_true rfl, Nat.le_of_ble_eq_true rfl⟩) (fun r_36 w_37 => ?_)
          subst w_37
          have hPc := hP.sub (ws' := [(aC, .inr (3, [.ref aL, .ref aCz])), (aCz, .inl (cI, 6, .inl (nF fz))), (aL, .inr (1, [.int (nI nL), .ref aLb, .ref aLe, .ref aLw, .ref aLc, .ref aLd, .ref aLs])), (aLb, .inl (cI, 18, .inl (nF fb))), (aLe, .inl (cI, 18, .inl (nF fe))), (aLw, .inl (cI, 18, .inl fw)), (aLc, .inl (cI, 18, .inl (nF fc))), (aLd, .inl (cI, 18, .inl (nF fd))), (aLs, .inl (cI, 27, .inl (nF fs)))]) [1, 2, 3, 4, 5, 6, 7, 8, 9] rfl
          refine vp_callSi (W.runV (As := [.int (nI (2 * k1 + 1)), .int (nI (2 * k2 + 1))]) (rest := []) ⟨hx, hb, hml, hown, hts⟩ (k_X3_joinCost l dC dI cI cZ aC aL aCz aLb aLe aLw aLc aLd aLs fz nL fb fe fw fc fd fs (2 * k1 + 1) (2 * k2 + 1) bCz bLb bLe bLc bLd bLs (by omega) (by omega)) (cwV 2 hts gX5_join_X3_joinCost rfl rfl rfl (by decide +kernel) ⟨Nat.le_of_ble_eq_true rfl, Nat.le_of_ble_eq_true rfl⟩) (ln_preV (q0 := 0) (ci := 3) hPc hKK rfl rfl) rfl rfl hl.1 rfl (lv_room (Nat.le_of_ble_eq_true rfl)) dX5_join_42 ⟨Nat.le_of_ble_eq_true rfl, Nat.le_of_ble_eq_true rfl⟩) (fun r_38 w_39 => ?_)
          subst w_39
          exact W.iret (v := (nI (m_join fb fe fw fc fd fs fz (2 * k1 + 1) (2 * k2 + 1)))) hx hb hr (fun t ht hW => ⟨(nI (m_join fb fe fw fc fd fs fz (2 * k1 + 1) (2 * k2 + 1))), rfl, (by rw [cif_t ⟨⟨⟨k1, hk1, rfl⟩, ⟨k2, hk2, rfl⟩, hne⟩, Or.inr c_33⟩, tn_nI (show k1 < 2 ^ 31 by omega), tn_nI (show k2 < 2 ^ 31 by omega)]), ht⟩) (fun _ h => by cases h) dX5_join_45
        · refine lv_iconst (v := (-1)) hx hb dX5_join_25 (by decide) ?_
          exact W.iret (v := (-1)) hx hb hr (fun t ht hW => ⟨(-1), rfl, (cif_f (fun q => q.2.elim (fun z => absurd z (by decide)) (fun z => z c_33))).symm, ht⟩) (fun _ h => by cases h) dX5_join_26
      · refine ln_if_eqT (tgt := 25) hx hb dX5_join_6 (by decide) (by decide) ?_
        refine lv_iconst (v := (-1)) hx hb dX5_join_25 (by decide) ?_
        exact W.iret (v := (-1)) hx hb hr (fun t ht hW => ⟨(-1), rfl, (cif_f (fun q => c_32 q.1)).symm, ht⟩) (fun _ h => by cases h) dX5_join_26
