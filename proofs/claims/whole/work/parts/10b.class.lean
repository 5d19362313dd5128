theorem mX4_fillLast_0 : Cond.constant RX4 44 (1000000) ∈ wsX4_fillLast := by decide +kernel
theorem mX4_fillLast_1 : Cond.fieldLink RX4 24 "LeafOrder$Search" "rules" "LLeafOrder$Rules;" ∈ wsX4_fillLast := by decide +kernel
theorem mX4_fillLast_inX4 : ∀ w ∈ wsX40, w ∈ wsX4_fillLast := by decide +kernel
theorem mX4_fillLast_3 : Cond.fieldLink RX4 45 "LeafOrder$Search" "turnCost" "I" ∈ wsX4_fillLast := by decide +kernel
theorem mX4_fillLast_4 : Cond.fieldLink RX4 15 "LeafOrder$Search" "least" "[I" ∈ wsX4_fillLast := by decide +kernel
theorem mX4_fillLast_5 : Cond.methodLink RX4 93 Lib.Math.min.name ∈ wsX4_fillLast := by decide +kernel
theorem mX4_fillLast_6 : Cond.static Lib.Math.min.name ∈ wsX4_fillLast := by decide +kernel
theorem mX4_fillLast_7 : Cond.initialized "java/lang/Math" ∈ wsX4_fillLast := by decide +kernel
theorem mX4_fillLast_8 : Cond.code Lib.Math.min.name Lib.Math.min.code 2 (some .int) ∈ wsX4_fillLast := by decide +kernel
set_option maxHeartbeats 4000000 in
set_option maxRecDepth 100000 in
theorem k_X4_fillLast (l : Launch) (dC : Nat → ClassId) (dI : Nat → Nat → Nat) (cI cZ : ClassId) (aS aR aSj aSl aSs aSo aRb aRr aRa : Nat) (sn : Nat) (st : Nat) (sb : Nat) (sx : Nat) (sl : Nat → Nat) (sj : Nat → Nat) (rb : Nat → Nat) (rr : Nat → Nat) (q1 : Nat) (q2 : Nat) (q3 : Nat) (sz : Nat) (bSl : ∀ k, sl k ≤ 1000000) (bSj : ∀ k, sj k ≤ 10000) (bRb : ∀ k, rb k ≤ 511) (bRr : ∀ k, rr k ≤ 511) (hn : sn ≤ 9) (ht : st ≤ 1000000) (h1 : q1 < 512) (h2 : q2 < 9) (h3 : q3 < 512) : Met l yX4_fillLast wsX4_fillLast { frames := 2, cells := 0, slots := 0, locals := 49 } (va_Pc [.ref aS, .int (nI q1), .int (nI q2), .int (nI q3)] (fun U => U.heap.size = sz ∧ va_P (dC, dI) vwCl [(aS, .inr (4, [.ref aR, .ref aSj, .ref aSl, .ref aSs, .ref aSo, .int (nI sn), .int (nI st), .int (nI sb), .int (nI sx)])), (aSl, .inl (cI, 9216, .inl (nF sl))), (aSj, .inl (cI, 324, .inl (nF sj))), (aR, .inr (2, [.ref aRb, .ref aRr, .ref aRa])), (aRb, .inl (cI, 9, .inl (nF rb))), (aRr, .inl (cI, 9, .inl (nF rr)))] U.heap ∧ lK dC dI cI cZ U ∧ va_D (fun _ => True) [(aS, .inr (4, [.ref aR, .ref aSj, .ref aSl, .ref aSs, .ref aSo, .int (nI sn), .int (nI st), .int (nI sb), .int (nI sx)])), (aSl, .inl (cI, 9216, .inl (nF sl))), (aSj, .inl (cI, 324, .inl (nF sj))), (aR, .inr (2, [.ref aRb, .ref aRr, .ref aRa])), (aRb, .inl (cI, 9, .inl (nF rb))), (aRr, .inl (cI, 9, .inl (nF rr)))])) (va_Qv (fun (slz : (Nat → Nat)) => slz = m_last rb rr sl sj sn st q1 q2 q3 ∧ ∀ k, slz k ≤ 1000000) (fun (slz : (Nat → Nat)) (t : State) => va_P (dC, dI) vwCl [(aS, .inr (4, [.ref aR, .ref aSj, .ref aSl, .ref aSs, .ref aSo, .int (nI sn), .int (nI st), .int (nI sb), .int (nI sx)])), (aSl, .inl (cI, 9216, .inl (nF slz))), (aSj, .inl (cI, 324, .inl (nF sj))), (aR, .inr (2, [.ref aRb, .ref aRr, .ref aRa])), (aRb, .inl (cI, 9, .inl (nF rb))), (aRr, .inl (cI, 9, .inl (nF rr)))] t.heap ∧ va_D (va_A [(aS, .inr (4, [.ref aR, .ref aSj, .ref aSl, .ref aSs, .ref aSo, .int (nI sn), .int (nI st), .int (nI sb), .int (nI sx)])), (aSl, .inl (cI, 9216, .inl (nF sl))), (aSj, .inl (cI, 324, .inl (nF sj))), (aR, .inr (2, [.ref aRb, .ref aRr, .ref aRa])), (aRb, .inl (cI, 9, .inl (nF rb))), (aRr, .inl (cI, 9, .inl (nF rr)))] sz) [(aS, .inr (4, [.ref aR, .ref aSj, .ref aSl, .ref aSs, .ref aSo, .int (nI sn), .int (nI st), .int (nI sb), .int (nI sx)])), (aSl, .inl (cI, 9216, .inl (nF slz))), (aSj, .inl (cI, 324, .inl (nF sj))), (aR, .inr (2, [.ref aRb, .ref aRr, .ref aRa])), (aRb, .inl (cI, 9, .inl (nF rb))), (aRr, .inl (cI, 9, .inl (nF rr)))]) (va_A [(aS, .inr (4, [.ref aR, .ref aSj, .ref aSl, .ref aSs, .ref aSo, .int (nI sn), .int (nI st), .int (nI sb), .int (nI sx)])), (aSl, .inl (cI, 9216, .inl (nF sl))), (aSj, .inl (cI, 324, .inl (nF sj))), (aR, .inr (2, [.ref aRb, .ref aRr, .ref aRa])), (aRb, .inl (cI, 9, .inl (nF rb))), (aRr, .inl (cI, 9, .inl (nF rr)))] sz)) 0 0 (va_A [(aS, .inr (4, [.ref aR, .ref aSj, .ref aSl, .ref aSs, .ref aSo, .int (nI sn), .int (nI st), .int (nI sb), .int (nI sx)])), (aSl, .inl (cI, 9216, .inl (nF sl))), (aSj, .inl (cI, 324, .inl (nF sj))), (aR, .inr (2, [.ref aRb, .ref aRr, .ref aRa])), (aRb, .inl (cI, 9, .inl (nF rb))), (aRr, .inl (cI, 9, .inl (nF rr)))] sz) := by
  refine Met.ofW (cc := cX4_fillLast) (maxL := 8) (ret := none) (by decide) rfl ?_
  intro p e s m args below meth c s₁ B hml hv
  obtain ⟨rfl, hsz, hP, hKK, hD0⟩ := hv
  have hK := hKK.1
  have hx := B.exec
  have hb := B.bytes
  have hr := B.returns
  have hts := atoms_spec (ws := wsX4_fillLast) B.pre
  have hown : s.vm.findClass RX4 = some m.cls := findClass_of_methodNamed B.named
  have hlocks := B.notSynchronized
  subst hsz
  have hD := hD0.self (sz := s.heap.size)
  generalize hAe : va_A [(aS, .inr (4, [.ref aR, .ref aSj, .ref aSl, .ref aSs, .ref aSo, .int (nI sn), .int (nI st), .int (nI sb), .int (nI sx)])), (aSl, .inl (cI, 9216, .inl (nF sl))), (aSj, .inl (cI, 324, .inl (nF sj))), (aR, .inr (2, [.ref aRb, .ref aRr, .ref aRa])), (aRb, .inl (cI, 9, .inl (nF rb))), (aRr, .inl (cI, 9, .inl (nF rr)))] s.heap.size = A at hD ⊢
  have hA : ∀ q : Nat, s.heap.size ≤ q → A q := fun q h => by rw [← hAe]; exact Or.inr h
  have hS : va_S A s.heap s.heap [] := va_S.rf
  have hl := lv_entry ([.ref aS, .int (nI q1), .int (nI q2), .int (nI q3)]) (n := 8) (Nat.le_of_ble_eq_true rfl)
  rw [lg_entry_eq]
  generalize (lg_sl ([.ref aS, .int (nI q1), .int (nI q2), .int (nI q3)]) ++ List.replicate (8 - (lg_sl ([.ref aS, .int (nI q1), .int (nI q2), .int (nI q3)])).length) Slot.unset).toArray = ls at hl ⊢
  have hl : lv_has ls 8 [(0, .ref aS), (1, .int (nI q1)), (2, .int (nI q2)), (3, .int (nI q3))] := hl
  have hrest : nclr q1 (2 ^ q2) < 512 := Nat.lt_of_le_of_lt (nclr_le _ _) h1
  have hu0 := m_upx_le sl sj sn (nclr q1 (2 ^ q2)) q3 (2 * q2)
  have hu1 := m_upx_le sl sj sn (nclr q1 (2 ^ q2)) q3 (2 * q2 + 1)
  refine lv_iload_n hx hb dX4_fillLast_0 rfl (lv_at hl 1 rfl) ?_
  refine lv_iconst (v := nI 1) hx hb dX4_fillLast_1 (by decide) ?_
  refine lv_iload_n hx hb dX4_fillLast_2 rfl (lv_at hl 2 rfl) ?_
  refine ln_ishl1 hx hb dX4_fillLast_3 (by omega) ?_
  refine lv_iconst (v := (-1)) hx hb dX4_fillLast_4 (by decide) ?_
  refine lv_ixor hx hb dX4_fillLast_5 ?_
  refine ln_iclr hx hb dX4_fillLast_6 ?_
  refine lv_istore (lv' := [(4, .int (nI (nclr q1 (2 ^ q2)))), (0, .ref aS), (1, .int (nI q1)), (2, .int (nI q2)), (3, .int (nI q3))]) hx hb dX4_fillLast_7 hl (by decide) rfl (fun ls hl => ?_)
  refine lv_iconst (v := nI 2) hx hb dX4_fillLast_9 (by decide) ?_
  refine lv_iload_n hx hb dX4_fillLast_10 rfl (lv_at hl 3 rfl) ?_
  refine ln_imul hx hb dX4_fillLast_11 ?_
  refine lv_istore (lv' := [(5, .int (nI (2 * q2))), (4, .int (nI (nclr q1 (2 ^ q2)))), (0, .ref aS), (1, .int (nI q1)), (2, .int (nI q2)), (3, .int (nI q3))]) hx hb dX4_fillLast_12 hl (by decide) rfl (fun ls hl => ?_)
  refine lv_ldc (v := nI 1000000) hx hb hown (hts (.constant RX4 44 (1000000)) mX4_fillLast_0) dX4_fillLast_14 ?_
  refine lv_istore (lv' := [(6, .int (nI 1000000)), (5, .int (nI (2 * q2))), (4, .int (nI (nclr q1 (2 ^ q2)))), (0, .ref aS), (1, .int (nI q1)), (2, .int (nI q2)), (3, .int (nI q3))]) hx hb dX4_fillLast_16 hl (by decide) rfl (fun ls hl => ?_)
  refine lv_ldc (v := nI 1000000) hx hb hown (hts (.constant RX4 44 (1000000)) mX4_fillLast_0) dX4_fillLast_18 ?_
  refine lv_istore (lv' := [(7, .int (nI 1000000)), (6, .int (nI 1000000)), (5, .int (nI (2 * q2))), (4, .int (nI (nclr q1 (2 ^ q2)))), (0, .ref aS), (1, .int (nI q1)), (2, .int (nI q2)), (3, .int (nI q3))]) hx hb dX4_fillLast_20 hl (by decide) rfl (fun ls hl => ?_)
  refine lv_aload_n hx hb dX4_fillLast_22 rfl (lv_at hl 4 rfl) ?_
  refine va_get (D := (dC, dI)) (ci := 4) (v := .ref aR) (C := RX4) (T := TX4) (N := 9) hx hb hts mX4_fillLast_inX4 hown hK hP 0 rfl rfl 0 (by decide) (hts (.fieldLink RX4 24 "LeafOrder$Search" "rules" "LLeafOrder$Rules;") mX4_fillLast_1) (fun _ h9 => h9) rfl dX4_fillLast_23 ?_
  refine lv_iload_n hx hb dX4_fillLast_26 rfl (lv_at hl 6 rfl) ?_
  refine lv_iload hx hb dX4_fillLast_27 (lv_at hl 3 rfl) ?_
  have hPc := hP.sub (ws' := [(aR, .inr (2, [.ref aRb, .ref aRr, .ref aRa])), (aRb, .inl (cI, 9, .inl (nF rb))), (aRr, .inl (cI, 9, .inl (nF rr)))]) [3, 4, 5] rfl
  refine vp_callSi (W.runV (As := [.int (nI q2), .int (nI (nclr q1 (2 ^ q2)))]) (rest := []) ⟨hx, hb, hml, hown, hts⟩ (k_X2_mayComeAfter l dC dI cI cZ aR aRb aRr aRa rb rr q2 (nclr q1 (2 ^ q2)) bRb bRr (by omega) hrest) (cwV 2 hts gX4_fillLast_X2_mayComeAfter rfl rfl rfl (by decide +kernel) ⟨Nat.le_of_ble_eq_true rfl, Nat.le_of_ble_eq_true rfl⟩) (ln_preV (q0 := 0) (ci := 2) hPc hKK rfl rfl) rfl rfl hl.1 rfl (lv_room (Nat.le_of_ble_eq_true rfl)) dX4_fillLast_29 ⟨Nat.le_of_ble_eq_true rfl, Nat.le_of_ble_eq_true rfl⟩) (fun r_1 w_2 => ?_)
  rcases w_2 with ⟨rfl, c_3⟩ | ⟨rfl, c_3⟩
  · refine ln_if_eqF (tgt := 78) hx hb dX4_fillLast_32 (by decide) (by decide) ?_
    refine lv_aload_n hx hb dX4_fillLast_35 rfl (lv_at hl 4 rfl) ?_
    refine lv_iload hx hb dX4_fillLast_36 (lv_at hl 3 rfl) ?_
    refine lv_iload_n hx hb dX4_fillLast_38 rfl (lv_at hl 7 rfl) ?_
    refine lv_iload hx hb dX4_fillLast_39 (lv_at hl 2 rfl) ?_
    have hPc := hP.sub (ws' := [(aS, .inr (4, [.ref aR, .ref aSj, .ref aSl, .ref aSs, .ref aSo, .int (nI sn), .int (nI st), .int (nI sb), .int (nI sx)])), (aSl, .inl (cI, 9216, .inl (nF sl))), (aSj, .inl (cI, 324, .inl (nF sj)))]) [0, 1, 2] rfl
    refine vp_callSi (W.runV (As := [.int (nI (nclr q1 (2 ^ q2))), .int (nI q3), .int (nI (2 * q2))]) (rest := []) ⟨hx, hb, hml, hown, hts⟩ (k_X4_leastUpTo l dC dI cI cZ aS aR aSj aSl aSs aSo sn st sb sx sl sj (nclr q1 (2 ^ q2)) q3 (2 * q2) bSl bSj (by omega) hrest (by omega) (by omega)) (cwV 3 hts gX4_fillLast_X4_leastUpTo rfl rfl rfl (by decide +kernel) ⟨Nat.le_of_ble_eq_true rfl, Nat.le_of_ble_eq_true rfl⟩) (ln_preV (q0 := 0) (ci := 4) hPc hKK rfl rfl) rfl rfl hl.1 rfl (lv_room (Nat.le_of_ble_eq_true rfl)) dX4_fillLast_41 ⟨Nat.le_of_ble_eq_true rfl, Nat.le_of_ble_eq_true rfl⟩) (fun r_4 w_5 => ?_)
    subst w_5
    refine lv_istore (lv' := [(6, .int (nI (m_upx sl sj sn (nclr q1 (2 ^ q2)) q3 (2 * q2)))), (7, .int (nI 1000000)), (5, .int (nI (2 * q2))), (4, .int (nI (nclr q1 (2 ^ q2)))), (0, .ref aS), (1, .int (nI q1)), (2, .int (nI q2)), (3, .int (nI q3))]) hx hb dX4_fillLast_44 hl (by decide) rfl (fun ls hl => ?_)
    refine lv_aload_n hx hb dX4_fillLast_46 rfl (lv_at hl 4 rfl) ?_
    refine va_get (D := (dC, dI)) (ci := 4) (v := .int (nI st)) (C := RX4) (T := TX4) (N := 9) hx hb hts mX4_fillLast_inX4 hown hK hP 0 rfl rfl 6 (by decide) (hts (.fieldLink RX4 45 "LeafOrder$Search" "turnCost" "I") mX4_fillLast_3) (fun _ h9 => h9) rfl dX4_fillLast_47 ?_
    refine lv_ldc (v := nI 1000000) hx hb hown (hts (.constant RX4 44 (1000000)) mX4_fillLast_0) dX4_fillLast_50 ?_
    refine ln_icmp_ge (tgt := 78) hx hb dX4_fillLast_52 (by decide) (by omega) (by decide) (fun c_6 => ?_) (fun c_6 => ?_)
    · refine lv_aload_n hx hb dX4_fillLast_78 rfl (lv_at hl 4 rfl) ?_
      refine va_get (D := (dC, dI)) (ci := 4) (v := .ref aSl) (C := RX4) (T := TX4) (N := 9) hx hb hts mX4_fillLast_inX4 hown hK hP 0 rfl rfl 2 (by decide) (hts (.fieldLink RX4 15 "LeafOrder$Search" "least" "[I") mX4_fillLast_4) (fun _ h9 => h9) rfl dX4_fillLast_79 ?_
      refine lv_iload_n hx hb dX4_fillLast_82 rfl (lv_at hl 5 rfl) ?_
      refine lv_bipush (v := nI 18) hx hb dX4_fillLast_83 (by decide) ?_
      refine ln_imul hx hb dX4_fillLast_85 ?_
      refine lv_iload hx hb dX4_fillLast_86 (lv_at hl 2 rfl) ?_
      refine ln_iadd hx hb dX4_fillLast_88 ?_
      refine lv_iload hx hb dX4_fillLast_89 (lv_at hl 0 rfl) ?_
      refine ln_iast (i := (q1 * 18) + (2 * q2)) hx hb hK hP hD hS 1 0 rfl rfl (by omega) (by decide) dX4_fillLast_91 (fun H locs hP hD hS => ?_)
      have b_7 : ∀ k, (upN sl ((q1 * 18) + (2 * q2)) (m_upx sl sj sn (nclr q1 (2 ^ q2)) q3 (2 * q2))) k ≤ 1000000 := upN_le bSl (by omega)
      have hP : va_P (dC, dI) vwCl [(aS, .inr (4, [.ref aR, .ref aSj, .ref aSl, .ref aSs, .ref aSo, .int (nI sn), .int (nI st), .int (nI sb), .int (nI sx)])), (aSl, .inl (cI, 9216, .inl (nF (upN sl ((q1 * 18) + (2 * q2)) (m_upx sl sj sn (nclr q1 (2 ^ q2)) q3 (2 * q2)))))), (aSj, .inl (cI, 324, .inl (nF sj))), (aR, .inr (2, [.ref aRb, .ref aRr, .ref aRa])), (aRb, .inl (cI, 9, .inl (nF rb))), (aRr, .inl (cI, 9, .inl (nF rr)))] H := hP
      have hD : va_D A [(aS, .inr (4, [.ref aR, .ref aSj, .ref aSl, .ref aSs, .ref aSo, .int (nI sn), .int (nI st), .int (nI sb), .int (nI sx)])), (aSl, .inl (cI, 9216, .inl (nF (upN sl ((q1 * 18) + (2 * q2)) (m_upx sl sj sn (nclr q1 (2 ^ q2)) q3 (2 * q2)))))), (aSj, .inl (cI, 324, .inl (nF sj))), (aR, .inr (2, [.ref aRb, .ref aRr, .ref aRa])), (aRb, .inl (cI, 9, .inl (nF rb))), (aRr, .inl (cI, 9, .inl (nF rr)))] := hD
      refine lv_aload_n hx hb dX4_fillLast_92 rfl (lv_at hl 4 rfl) ?_
      refine va_get (D := (dC, dI)) (ci := 4) (v := .ref aSl) (C := RX4) (T := TX4) (N := 9) hx hb hts mX4_fillLast_inX4 hown hK hP 0 rfl rfl 2 (by decide) (hts (.fieldLink RX4 15 "LeafOrder$Search" "least" "[I") mX4_fillLast_4) (fun _ h9 => h9) rfl dX4_fillLast_93 ?_
      refine lv_iload_n hx hb dX4_fillLast_96 rfl (lv_at hl 5 rfl) ?_
      refine lv_bipush (v := nI 18) hx hb dX4_fillLast_97 (by decide) ?_
      refine ln_imul hx hb dX4_fillLast_99 ?_
      refine lv_iload hx hb dX4_fillLast_100 (lv_at hl 2 rfl) ?_
      refine ln_iadd hx hb dX4_fillLast_102 ?_
      refine lv_iconst (v := nI 1) hx hb dX4_fillLast_103 (by decide) ?_
      refine ln_iadd hx hb dX4_fillLast_104 ?_
      refine lv_iload hx hb dX4_fillLast_105 (lv_at hl 1 rfl) ?_
      refine ln_iast (i := ((q1 * 18) + (2 * q2)) + 1) hx hb hK hP hD hS 1 0 rfl rfl (by omega) (by decide) dX4_fillLast_107 (fun H locs hP hD hS => ?_)
      have b_8 : ∀ k, (upN (upN sl ((q1 * 18) + (2 * q2)) (m_upx sl sj sn (nclr q1 (2 ^ q2)) q3 (2 * q2))) (((q1 * 18) + (2 * q2)) + 1) 1000000) k ≤ 1000000 := upN_le b_7 (by omega)
      have hP : va_P (dC, dI) vwCl [(aS, .inr (4, [.ref aR, .ref aSj, .ref aSl, .ref aSs, .ref aSo, .int (nI sn), .int (nI st), .int (nI sb), .int (nI sx)])), (aSl, .inl (cI, 9216, .inl (nF (upN (upN sl ((q1 * 18) + (2 * q2)) (m_upx sl sj sn (nclr q1 (2 ^ q2)) q3 (2 * q2))) (((q1 * 18) + (2 * q2)) + 1) 1000000)))), (aSj, .inl (cI, 324, .inl (nF sj))), (aR, .inr (2, [.ref aRb, .ref aRr, .ref aRa])), (aRb, .inl (cI, 9, .inl (nF rb))), (aRr, .inl (cI, 9, .inl (nF rr)))] H := hP
      have hD : va_D A [(aS, .inr (4, [.ref aR, .ref aSj, .ref aSl, .ref aSs, .ref aSo, .int (nI sn), .int (nI st), .int (nI sb), .int (nI sx)])), (aSl, .inl (cI, 9216, .inl (nF (upN (upN sl ((q1 * 18) + (2 * q2)) (m_upx sl sj sn (nclr q1 (2 ^ q2)) q3 (2 * q2))) (((q1 * 18) + (2 * q2)) + 1) 1000000)))), (aSj, .inl (cI, 324, .inl (nF sj))), (aR, .inr (2, [.ref aRb, .ref aRr, .ref aRa])), (aRb, .inl (cI, 9, .inl (nF rb))), (aRr, .inl (cI, 9, .inl (nF rr)))] := hD
      exact W.vret hx hb hr (fun t ht hW => ⟨⟨(upN (upN sl ((q1 * 18) + (2 * q2)) (m_upx sl sj sn (nclr q1 (2 ^ q2)) q3 (2 * q2))) (((q1 * 18) + (2 * q2)) + 1) 1000000), rfl, ⟨(by unfold m_last m_plain m_turn; rw [if_pos c_3, if_pos c_3, if_neg (by omega)]), b_8⟩, by rw [ht]; exact hP, hD⟩, hS.F ht⟩) hS.2.2 dX4_fillLast_108
    · refine lv_ldc (v := nI 1000000) hx hb hown (hts (.constant RX4 44 (1000000)) mX4_fillLast_0) dX4_fillLast_55 ?_
      refine lv_aload_n hx hb dX4_fillLast_57 rfl (lv_at hl 4 rfl) ?_
      refine lv_iload hx hb dX4_fillLast_58 (lv_at hl 3 rfl) ?_
      refine lv_iload_n hx hb dX4_fillLast_60 rfl (lv_at hl 7 rfl) ?_
      refine lv_iload hx hb dX4_fillLast_61 (lv_at hl 2 rfl) ?_
      refine lv_iconst (v := nI 1) hx hb dX4_fillLast_63 (by decide) ?_
      refine ln_iadd hx hb dX4_fillLast_64 ?_
      have hPc := hP.sub (ws' := [(aS, .inr (4, [.ref aR, .ref aSj, .ref aSl, .ref aSs, .ref aSo, .int (nI sn), .int (nI st), .int (nI sb), .int (nI sx)])), (aSl, .inl (cI, 9216, .inl (nF sl))), (aSj, .inl (cI, 324, .inl (nF sj)))]) [0, 1, 2] rfl
      refine vp_callSi (W.runV (As := [.int (nI (nclr q1 (2 ^ q2))), .int (nI q3), .int (nI ((2 * q2) + 1))]) (rest := [.int (nI 1000000)]) ⟨hx, hb, hml, hown, hts⟩ (k_X4_leastUpTo l dC dI cI cZ aS aR aSj aSl aSs aSo sn st sb sx sl sj (nclr q1 (2 ^ q2)) q3 ((2 * q2) + 1) bSl bSj (by omega) hrest (by omega) (by omega)) (cwV 3 hts gX4_fillLast_X4_leastUpTo rfl rfl rfl (by decide +kernel) ⟨Nat.le_of_ble_eq_true rfl, Nat.le_of_ble_eq_true rfl⟩) (ln_preV (q0 := 0) (ci := 4) hPc hKK rfl rfl) rfl rfl hl.1 rfl (lv_room (Nat.le_of_ble_eq_true rfl)) dX4_fillLast_65 ⟨Nat.le_of_ble_eq_true rfl, Nat.le_of_ble_eq_true rfl⟩) (fun r_9 w_10 => ?_)
      subst w_10
      refine lv_aload_n hx hb dX4_fillLast_68 rfl (lv_at hl 4 rfl) ?_
      refine va_get (D := (dC, dI)) (ci := 4) (v := .int (nI st)) (C := RX4) (T := TX4) (N := 9) hx hb hts mX4_fillLast_inX4 hown hK hP 0 rfl rfl 6 (by decide) (hts (.fieldLink RX4 45 "LeafOrder$Search" "turnCost" "I") mX4_fillLast_3) (fun _ h9 => h9) rfl dX4_fillLast_69 ?_
      refine ln_iadd hx hb dX4_fillLast_72 ?_
      refine ln_mmin (x := 1000000) (y := (m_upx sl sj sn (nclr q1 (2 ^ q2)) q3 ((2 * q2) + 1)) + st) hx hb (by rw [hml]; exact hl.1.symm) hown (hts (.methodLink RX4 93 Lib.Math.min.name) mX4_fillLast_5) (hts (.static Lib.Math.min.name) mX4_fillLast_6) (hts (.initialized "java/lang/Math") mX4_fillLast_7) (hts (.code Lib.Math.min.name Lib.Math.min.code 2 (some .int)) mX4_fillLast_8) (Nat.le_of_ble_eq_true rfl) (Nat.le_of_ble_eq_true rfl) (Nat.zero_le _) (Nat.zero_le _) (by decide) (by omega) dX4_fillLast_73 ?_
      refine lv_istore (lv' := [(7, .int (nI (min 1000000 ((m_upx sl sj sn (nclr q1 (2 ^ q2)) q3 ((2 * q2) + 1)) + st)))), (6, .int (nI (m_upx sl sj sn (nclr q1 (2 ^ q2)) q3 (2 * q2)))), (5, .int (nI (2 * q2))), (4, .int (nI (nclr q1 (2 ^ q2)))), (0, .ref aS), (1, .int (nI q1)), (2, .int (nI q2)), (3, .int (nI q3))]) hx hb dX4_fillLast_76 hl (by decide) rfl (fun ls hl => ?_)
      refine lv_aload_n hx hb dX4_fillLast_78 rfl (lv_at hl 4 rfl) ?_
      refine va_get (D := (dC, dI)) (ci := 4) (v := .ref aSl) (C := RX4) (T := TX4) (N := 9) hx hb hts mX4_fillLast_inX4 hown hK hP 0 rfl rfl 2 (by decide) (hts (.fieldLink RX4 15 "LeafOrder$Search" "least" "[I") mX4_fillLast_4) (fun _ h9 => h9) rfl dX4_fillLast_79 ?_
      refine lv_iload_n hx hb dX4_fillLast_82 rfl (lv_at hl 5 rfl) ?_
      refine lv_bipush (v := nI 18) hx hb dX4_fillLast_83 (by decide) ?_
      refine ln_imul hx hb dX4_fillLast_85 ?_
      refine lv_iload hx hb dX4_fillLast_86 (lv_at hl 2 rfl) ?_
      refine ln_iadd hx hb dX4_fillLast_88 ?_
      refine lv_iload hx hb dX4_fillLast_89 (lv_at hl 1 rfl) ?_
      refine ln_iast (i := (q1 * 18) + (2 * q2)) hx hb hK hP hD hS 1 0 rfl rfl (by omega) (by decide) dX4_fillLast_91 (fun H locs hP hD hS => ?_)
      have b_11 : ∀ k, (upN sl ((q1 * 18) + (2 * q2)) (m_upx sl sj sn (nclr q1 (2 ^ q2)) q3 (2 * q2))) k ≤ 1000000 := upN_le bSl (by omega)
      have hP : va_P (dC, dI) vwCl [(aS, .inr (4, [.ref aR, .ref aSj, .ref aSl, .ref aSs, .ref aSo, .int (nI sn), .int (nI st), .int (nI sb), .int (nI sx)])), (aSl, .inl (cI, 9216, .inl (nF (upN sl ((q1 * 18) + (2 * q2)) (m_upx sl sj sn (nclr q1 (2 ^ q2)) q3 (2 * q2)))))), (aSj, .inl (cI, 324, .inl (nF sj))), (aR, .inr (2, [.ref aRb, .ref aRr, .ref aRa])), (aRb, .inl (cI, 9, .inl (nF rb))), (aRr, .inl (cI, 9, .inl (nF rr)))] H := hP
      have hD : va_D A [(aS, .inr (4, [.ref aR, .ref aSj, .ref aSl, .ref aSs, .ref aSo, .int (nI sn), .int (nI st), .int (nI sb), .int (nI sx)])), (aSl, .inl (cI, 9216, .inl (nF (upN sl ((q1 * 18) + (2 * q2)) (m_upx sl sj sn (nclr q1 (2 ^ q2)) q3 (2 * q2)))))), (aSj, .inl (cI, 324, .inl (nF sj))), (aR, .inr (2, [.ref aRb, .ref aRr, .ref aRa])), (aRb, .inl (cI, 9, .inl (nF rb))), (aRr, .inl (cI, 9, .inl (nF rr)))] := hD
      refine lv_aload_n hx hb dX4_fillLast_92 rfl (lv_at hl 4 rfl) ?_
      refine va_get (D := (dC, dI)) (ci := 4) (v := .ref aSl) (C := RX4) (T := TX4) (N := 9) hx hb hts mX4_fillLast_inX4 hown hK hP 0 rfl rfl 2 (by decide) (hts (.fieldLink RX4 15 "LeafOrder$Search" "least" "[I") mX4_fillLast_4) (fun _ h9 => h9) rfl dX4_fillLast_93 ?_
      refine lv_iload_n hx hb dX4_fillLast_96 rfl (lv_at hl 5 rfl) ?_
      refine lv_bipush (v := nI 18) hx hb dX4_fillLast_97 (by decide) ?_
      refine ln_imul hx hb dX4_fillLast_99 ?_
      refine lv_iload hx hb dX4_fillLast_100 (lv_at hl 2 rfl) ?_
      refine ln_iadd hx hb dX4_fillLast_102 ?_
      refine lv_iconst (v := nI 1) hx hb dX4_fillLast_103 (by decide) ?_
      refine ln_iadd hx hb dX4_fillLast_104 ?_
      refine lv_iload hx hb dX4_fillLast_105 (lv_at hl 0 rfl) ?_
      refine ln_iast (i := ((q1 * 18) + (2 * q2)) + 1) hx hb hK hP hD hS 1 0 rfl rfl (by omega) (by decide) dX4_fillLast_107 (fun H locs hP hD hS => ?_)
      have b_12 : ∀ k, (upN (upN sl ((q1 * 18) + (2 * q2)) (m_upx sl sj sn (nclr q1 (2 ^ q2)) q3 (2 * q2))) (((q1 * 18) + (2 * q2)) + 1) (min 1000000 ((m_upx sl sj sn (nclr q1 (2 ^ q2)) q3 ((2 * q2) + 1)) + st))) k ≤ 1000000 := upN_le b_11 (by omega)
      have hP : va_P (dC, dI) vwCl [(aS, .inr (4, [.ref aR, .ref aSj, .ref aSl, .ref aSs, .ref aSo, .int (nI sn), .int (nI st), .int (nI sb), .int (nI sx)])), (aSl, .inl (cI, 9216, .inl (nF (upN (upN sl ((q1 * 18) + (2 * q2)) (m_upx sl sj sn (nclr q1 (2 ^ q2)) q3 (2 * q2))) (((q1 * 18) + (2 * q2)) + 1) (min 1000000 ((m_upx sl sj sn (nclr q1 (2 ^ q2)) q3 ((2 * q2) + 1)) + st)))))), (aSj, .inl (cI, 324, .inl (nF sj))), (aR, .inr (2, [.ref aRb, .ref aRr, .ref aRa])), (aRb, .inl (cI, 9, .inl (nF rb))), (aRr, .inl (cI, 9, .inl (nF rr)))] H := hP
      have hD : va_D A [(aS, .inr (4, [.ref aR, .ref aSj, .ref aSl, .ref aSs, .ref aSo, .int (nI sn), .int (nI st), .int (nI sb), .int (nI sx)])), (aSl, .inl (cI, 9216, .inl (nF (upN (upN sl ((q1 * 18) + (2 * q2)) (m_upx sl sj sn (nclr q1 (2 ^ q2)) q3 (2 * q2))) (((q1 * 18) + (2 * q2)) + 1) (min 1000000 ((m_upx sl sj sn (nclr q1 (2 ^ q2)) q3 ((2 * q2) + 1)) + st)))))), (aSj, .inl (cI, 324, .inl (nF sj))), (aR, .inr (2, [.ref aRb, .ref aRr, .ref aRa])), (aRb, .inl (cI, 9, .inl (nF rb))), (aRr, .inl (cI, 9, .inl (nF rr)))] := hD
      exact W.vret hx hb hr (fun t ht hW => ⟨⟨(upN (upN sl ((q1 * 18) + (2 * q2)) (m_upx sl sj sn (nclr q1 (2 ^ q2)) q3 (2 * q2))) (((q1 * 18) + (2 * q2)) + 1) (min 1000000 ((m_upx sl sj sn (nclr q1 (2 ^ q2)) q3 ((2 * q2) + 1)) + st))), rfl, ⟨(by unfold m_last m_plain m_turn; rw [if_pos c_3, if_pos c_3, if_pos (by omega)]), b_12⟩, by rw [ht]; exact hP, hD⟩, hS.F ht⟩) hS.2.2 dX4_fillLast_108
  · refine ln_if_eqT (tgt := 78) hx hb dX4_fillLast_32 (by decide) (by decide) ?_
    refine lv_aload_n hx hb dX4_fillLast_78 rfl (lv_at hl 4 rfl) ?_
    refine va_get (D := (dC, dI)) (ci := 4) (v := .ref aSl) (C := RX4) (T := TX4) (N := 9) hx hb hts mX4_fillLast_inX4 hown hK hP 0 rfl rfl 2 (by decide) (hts (.fieldLink RX4 15 "LeafOrder$Search" "least" "[I") mX4_fillLast_4) (fun _ h9 => h9) rfl dX4_fillLast_79 ?_
    refine lv_iload_n hx hb dX4_fillLast_82 rfl (lv_at hl 5 rfl) ?_
    refine lv_bipush (v := nI 18) hx hb dX4_fillLast_83 (by decide) ?_
    refine ln_imul hx hb dX4_fillLast_85 ?_
    refine lv_iload hx hb dX4_fillLast_86 (lv_at hl 2 rfl) ?_
    refine ln_iadd hx hb dX4_fillLast_88 ?_
    refine lv_iload hx hb dX4_fillLast_89 (lv_at hl 1 rfl) ?_
    refine ln_iast (i := (q1 * 18) + (2 * q2)) hx hb hK hP hD hS 1 0 rfl rfl (by omega) (by decide) dX4_fillLast_91 (fun H locs hP hD hS => ?_)
    have b_13 : ∀ k, (upN sl ((q1 * 18) + (2 * q2)) 1000000) k ≤ 1000000 := upN_le bSl (by omega)
    have hP : va_P (dC, dI) vwCl [(aS, .inr (4, [.ref aR, .ref aSj, .ref aSl, .ref aSs, .ref aSo, .int (nI sn), .int (nI st), .int (nI sb), .int (nI sx)])), (aSl, .inl (cI, 9216, .inl (nF (upN sl ((q1 * 18) + (2 * q2)) 1000000)))), (aSj, .inl (cI, 324, .inl (nF sj))), (aR, .inr (2, [.ref aRb, .ref aRr, .ref aRa])), (aRb, .inl (cI, 9, .inl (nF rb))), (aRr, .inl (cI, 9, .inl (nF rr)))] H := hP
    have hD : va_D A [(aS, .inr (4, [.ref aR, .ref aSj, .ref aSl, .ref aSs, .ref aSo, .int (nI sn), .int (nI st), .int (nI sb), .int (nI sx)])), (aSl, .inl (cI, 9216, .inl (nF (upN sl ((q1 * 18) + (2 * q2)) 1000000)))), (aSj, .inl (cI, 324, .inl (nF sj))), (aR, .inr (2, [.ref aRb, .ref aRr, .ref aRa])), (aRb, .inl (cI, 9, .inl (nF rb))), (aRr, .inl (cI, 9, .inl (nF rr)))] := hD
    refine lv_aload_n hx hb dX4_fillLast_92 rfl (lv_at hl 4 rfl) ?_
    refine va_get (D := (dC, dI)) (ci := 4) (v := .ref aSl) (C := RX4) (T := TX4) (N := 9) hx hb hts mX4_fillLast_inX4 hown hK hP 0 rfl rfl 2 (by decide) (hts (.fieldLink RX4 15 "LeafOrder$Search" "least" "[I") mX4_fillLast_4) (fun _ h9 => h9) rfl dX4_fillLast_93 ?_
    refine lv_iload_n hx hb dX4_fillLast_96 rfl (lv_at hl 5 rfl) ?_
    refine lv_bipush (v := nI 18) hx hb dX4_fillLast_97 (by decide) ?_
    refine ln_imul hx hb dX4_fillLast_99 ?_
    refine lv_iload hx hb dX4_fillLast_100 (lv_at hl 2 rfl) ?_
    refine ln_iadd hx hb dX4_fillLast_102 ?_
    refine lv_iconst (v := nI 1) hx hb dX4_fillLast_103 (by decide) ?_
    refine ln_iadd hx hb dX4_fillLast_104 ?_
    refine lv_iload hx hb dX4_fillLast_105 (lv_at hl 0 rfl) ?_
    refine ln_iast (i := ((q1 * 18) + (2 * q2)) + 1) hx hb hK hP hD hS 1 0 rfl rfl (by omega) (by decide) dX4_fillLast_107 (fun H locs hP hD hS => ?_)
    have b_14 : ∀ k, (upN (upN sl ((q1 * 18) + (2 * q2)) 1000000) (((q1 * 18) + (2 * q2)) + 1) 1000000) k ≤ 1000000 := upN_le b_13 (by omega)
    have hP : va_P (dC, dI) vwCl [(aS, .inr (4, [.ref aR, .ref aSj, .ref aSl, .ref aSs, .ref aSo, .int (nI sn), .int (nI st), .int (nI sb), .int (nI sx)])), (aSl, .inl (cI, 9216, .inl (nF (upN (upN sl ((q1 * 18) + (2 * q2)) 1000000) (((q1 * 18) + (2 * q2)) + 1) 1000000)))), (aSj, .inl (cI, 324, .inl (nF sj))), (aR, .inr (2, [.ref aRb, .ref aRr, .ref aRa])), (aRb, .inl (cI, 9, .inl (nF rb))), (aRr, .inl (cI, 9, .inl (nF rr)))] H := hP
    have hD : va_D A [(aS, .inr (4, [.ref aR, .ref aSj, .ref aSl, .ref aSs, .ref aSo, .int (nI sn), .int (nI st), .int (nI sb), .int (nI sx)])), (aSl, .inl (cI, 9216, .inl (nF (upN (upN sl ((q1 * 18) + (2 * q2)) 1000000) (((q1 * 18) + (2 * q2)) + 1) 1000000)))), (aSj, .inl (cI, 324, .inl (nF sj))), (aR, .inr (2, [.ref aRb, .ref aRr, .ref aRa])), (aRb, .inl (cI, 9, .inl (nF rb))), (aRr, .inl (cI, 9, .inl (nF rr)))] := hD
    exact W.vret hx hb hr (fun t ht hW => ⟨⟨(upN (upN sl ((q1 * 18) + (2 * q2)) 1000000) (((q1 * 18) + (2 * q2)) + 1) 1000000), rfl, ⟨(by unfold m_last m_plain m_turn; rw [if_neg c_3, if_neg c_3]), b_14⟩, by rw [ht]; exact hP, hD⟩, hS.F ht⟩) hS.2.2 dX4_fillLast_108
theorem mX4_fill_0 : Cond.fieldLink RX4 40 "LeafOrder$Search" "count" "I" ∈ wsX4_fill := by decide +kernel
theorem mX4_fill_inX4 : ∀ w ∈ wsX40, w ∈ wsX4_fill := by decide +kernel
theorem mX4_fill_2 : Cond.fieldLink RX4 24 "LeafOrder$Search" "rules" "LLeafOrder$Rules;" ∈ wsX4_fill := by decide +kernel
set_option maxHeartbeats 4000000 in
set_option maxRecDepth 100000 in
theorem k_X4_fill (l : Launch) (dC : Nat → ClassId) (dI : Nat → Nat → Nat) (cI cZ : ClassId) (aS aR aSj aSl aSs aSo aRb aRr aRa : Nat) (sn : Nat) (st : Nat) (sb : Nat) (sx : Nat) (sl : Nat → Nat) (sj : Nat → Nat) (rb : Nat → Nat) (rr : Nat → Nat) (ra : Nat → Nat) (ba : Nat) (bb : Nat) (sz : Nat) (bSl : ∀ k, sl k ≤ 1000000) (bSj : ∀ k, sj k ≤ 10000) (bRb : ∀ k, rb k ≤ 511) (bRr : ∀ k, rr k ≤ 511) (bRa : ∀ k, ra k ≤ 511) (hn : sn ≤ 9) (ht : st ≤ 1000000) (hbb : bb < 18 → ba < 9) : Met l yX4_fill wsX4_fill { frames := 3, cells := 0, slots := 0, locals := 76 } (va_Pc [.ref aS, .int (bhN ba), .int (bhN bb)] (fun U => U.heap.size = sz ∧ va_P (dC, dI) vwCl [(aS, .inr (4, [.ref aR, .ref aSj, .ref aSl, .ref aSs, .ref aSo, .int (nI sn), .int (nI st), .int (nI sb), .int (nI sx)])), (aSl, .inl (cI, 9216, .inl (nF sl))), (aSj, .inl (cI, 324, .inl (nF sj))), (aR, .inr (2, [.ref aRb, .ref aRr, .ref aRa])), (aRb, .inl (cI, 9, .inl (nF rb))), (aRr, .inl (cI, 9, .inl (nF rr))), (aRa, .inl (cI, 9, .inl (nF ra)))] U.heap ∧ lK dC dI cI cZ U ∧ va_D (fun _ => True) [(aS, .inr (4, [.ref aR, .ref aSj, .ref aSl, .ref aSs, .ref aSo, .int (nI sn), .int (nI st), .int (nI sb), .int (nI sx)])), (aSl, .inl (cI, 9216, .inl (nF sl))), (aSj, .inl (cI, 324, .inl (nF sj))), (aR, .inr (2, [.ref aRb, .ref aRr, .ref aRa])), (aRb, .inl (cI, 9, .inl (nF rb))), (aRr, .inl (cI, 9, .inl (nF rr))), (aRa, .inl (cI, 9, .inl (nF ra)))])) (va_Qv (fun (slz : (Nat → Nat)) => slz = m_fill rb rr ra sj sn st ba bb sl (2 ^ sn - 1) ∧ ∀ k, slz k ≤ 1000000) (fun (slz : (Nat → Nat)) (t : State) => va_P (dC, dI) vwCl [(aS, .inr (4, [.ref aR, .ref aSj, .ref aSl, .ref aSs, .ref aSo, .int (nI sn), .int (nI st), .int (nI sb), .int (nI sx)])), (aSl, .inl (cI, 9216, .inl (nF slz))), (aSj, .inl (cI, 324, .inl (nF sj))), (aR, .inr (2, [.ref aRb, .ref aRr, .ref aRa])), (aRb, .inl (cI, 9, .inl (nF rb))), (aRr, .inl (cI, 9, .inl (nF rr))), (aRa, .inl (cI, 9, .inl (nF ra)))] t.heap ∧ va_D (va_A [(aS, .inr (4, [.ref aR, .ref aSj, .ref aSl, .ref aSs, .ref aSo, .int (nI sn), .int (nI st), .int (nI sb), .int (nI sx)])), (aSl, .inl (cI, 9216, .inl (nF sl))), (aSj, .inl (cI, 324, .inl (nF sj))), (aR, .inr (2, [.ref aRb, .ref aRr, .ref aRa])), (aRb, .inl (cI, 9, .inl (nF rb))), (aRr, .inl (cI, 9, .inl (nF rr))), (aRa, .inl (cI, 9, .inl (nF ra)))] sz) [(aS, .inr (4, [.ref aR, .ref aSj, .ref aSl, .ref aSs, .ref aSo, .int (nI sn), .int (nI st), .int (nI sb), .int (nI sx)])), (aSl, .inl (cI, 9216, .inl (nF slz))), (aSj, .inl (cI, 324, .inl (nF sj))), (aR, .inr (2, [.ref aRb, .ref aRr, .ref aRa])), (aRb, .inl (cI, 9, .inl (nF rb))), (aRr, .inl (cI, 9, .inl (nF rr))), (aRa, .inl (cI, 9, .inl (nF ra)))]) (va_A [(aS, .inr (4, [.ref aR, .ref aSj, .ref aSl, .ref aSs, .ref aSo, .int (nI sn), .int (nI st), .int (nI sb), .int (nI sx)])), (aSl, .inl (cI, 9216, .inl (nF sl))), (aSj, .inl (cI, 324, .inl (nF sj))), (aR, .inr (2, [.ref aRb, .ref aRr, .ref aRa])), (aRb, .inl (cI, 9, .inl (nF rb))), (aRr, .inl (cI, 9, .inl (nF rr))), (aRa, .inl (cI, 9, .inl (nF ra)))] sz)) 0 0 (va_A [(aS, .inr (4, [.ref aR, .ref aSj, .ref aSl, .ref aSs, .ref aSo, .int (nI sn), .int (nI st), .int (nI sb), .int (nI sx)])), (aSl, .inl (cI, 9216, .inl (nF sl))), (aSj, .inl (cI, 324, .inl (nF sj))), (aR, .inr (2, [.ref aRb, .ref aRr, .ref aRa])), (aRb, .inl (cI, 9, .inl (nF rb))), (aRr, .inl (cI, 9, .inl (nF rr))), (aRa, .inl (cI, 9, .inl (nF ra)))] sz) := by
  refine Met.ofW (cc := cX4_fill) (maxL := 7) (ret := none) (by decide) rfl ?_
  intro p e s m args below meth c s₁ B hml hv
  obtain ⟨rfl, hsz, hP, hKK, hD0⟩ := hv
  have hK := hKK.1
  have hx := B.exec
  have hb := B.bytes
  have hr := B.returns
  have hts := atoms_spec (ws := wsX4_fill) B.pre
  have hown : s.vm.findClass RX4 = some m.cls := findClass_of_methodNamed B.named
  have hlocks := B.notSynchronized
  subst hsz
  have hD := hD0.self (sz := s.heap.size)
  generalize hAe : va_A [(aS, .inr (4, [.ref aR, .ref aSj, .ref aSl, .ref aSs, .ref aSo, .int (nI sn), .int (nI st), .int (nI sb), .int (nI sx)])), (aSl, .inl (cI, 9216, .inl (nF sl))), (aSj, .inl (cI, 324, .inl (nF sj))), (aR, .inr (2, [.ref aRb, .ref aRr, .ref aRa])), (aRb, .inl (cI, 9, .inl (nF rb))), (aRr, .inl (cI, 9, .inl (nF rr))), (aRa, .inl (cI, 9, .inl (nF ra)))] s.heap.size = A at hD ⊢
  have hA : ∀ q : Nat, s.heap.size ≤ q → A q := fun q h => by rw [← hAe]; exact Or.inr h
  have hS : va_S A s.heap s.heap [] := va_S.rf
  have hl := lv_entry ([.ref aS, .int (bhN ba), .int (bhN bb)]) (n := 7) (Nat.le_of_ble_eq_true rfl)
  rw [lg_entry_eq]
  generalize (lg_sl ([.ref aS, .int (bhN ba), .int (bhN bb)]) ++ List.replicate (7 - (lg_sl ([.ref aS, .int (bhN ba), .int (bhN bb)])).length) Slot.unset).toArray = ls at hl ⊢
  have hl : lv_has ls 7 [(0, .ref aS), (1, .int (bhN ba)), (2, .int (bhN bb))] := hl
  have hp9 := ln_p9 hn
  have hp1 := ln_one_two_pow sn
  refine lv_iconst (v := nI 1) hx hb dX4_fill_0 (by decide) ?_
  refine lv_istore_n (lv' := [(3, .int (nI 1)), (0, .ref aS), (1, .int (bhN ba)), (2, .int (bhN bb))]) hx hb dX4_fill_1 rfl hl (by decide) rfl (fun ls hl => ?_)
  have LP2 : ∀ (n2 : Nat) (set : Nat) (sla : Nat → Nat), 2 ^ sn - set < n2 → (∀ k, sla k ≤ 1000000) → (1 ≤ set ∧ set ≤ 2 ^ sn) → (sla = m_fill rb rr ra sj sn st ba bb sl (set - 1)) → ∀ (H : Heap) (locs : List Loc), va_P (dC, dI) vwCl [(aS, .inr (4, [.ref aR, .ref aSj, .ref aSl, .ref aSs, .ref aSo, .int (nI sn), .int (nI st), .int (nI sb), .int (nI sx)])), (aSl, .inl (cI, 9216, .inl (nF sla))), (aSj, .inl (cI, 324, .inl (nF sj))), (aR, .inr (2, [.ref aRb, .ref aRr, .ref aRa])), (aRb, .inl (cI, 9, .inl (nF rb))), (aRr, .inl (cI, 9, .inl (nF rr))), (aRa, .inl (cI, 9, .inl (nF ra)))] H → va_D A [(aS, .inr (4, [.ref aR, .ref aSj, .ref aSl, .ref aSs, .ref aSo, .int (nI sn), .int (nI st), .int (nI sb), .int (nI sx)])), (aSl, .inl (cI, 9216, .inl (nF sla))), (aSj, .inl (cI, 324, .inl (nF sj))), (aR, .inr (2, [.ref aRb, .ref aRr, .ref aRa])), (aRb, .inl (cI, 9, .inl (nF rb))), (aRr, .inl (cI, 9, .inl (nF rr))), (aRa, .inl (cI, 9, .inl (nF ra)))] → va_S A s.heap H locs → ∀ (ls : Array Slot), lv_has ls 7 [(0, .ref aS), (1, .int (bhN ba)), (2, .int (bhN bb)), (3, .int (nI set))] → W p l e { frames := 3, cells := 0, slots := 0, locals := 76 } s m [.ref aS, .int (bhN ba), .int (bhN bb)].toArray below meth c H locs 0 0 (MQ below (va_Qv (fun (slz : (Nat → Nat)) => slz = m_fill rb rr ra sj sn st ba bb sl (2 ^ sn - 1) ∧ ∀ k, slz k ≤ 1000000) (fun (slz : (Nat → Nat)) (t : State) => va_P (dC, dI) vwCl [(aS, .inr (4, [.ref aR, .ref aSj, .ref aSl, .ref aSs, .ref aSo, .int (nI sn), .int (nI st), .int (nI sb), .int (nI sx)])), (aSl, .inl (cI, 9216, .inl (nF slz))), (aSj, .inl (cI, 324, .inl (nF sj))), (aR, .inr (2, [.ref aRb, .ref aRr, .ref aRa])), (aRb, .inl (cI, 9, .inl (nF rb))), (aRr, .inl (cI, 9, .inl (nF rr))), (aRa, .inl (cI, 9, .inl (nF ra)))] t.heap ∧ va_D A [(aS, .inr (4, [.ref aR, .ref aSj, .ref aSl, .ref aSs, .ref aSo, .int (nI sn), .int (nI st), .int (nI sb), .int (nI sx)])), (aSl, .inl (cI, 9216, .inl (nF slz))), (aSj, .inl (cI, 324, .inl (nF sj))), (aR, .inr (2, [.ref aRb, .ref aRr, .ref aRa])), (aRb, .inl (cI, 9, .inl (nF rb))), (aRr, .inl (cI, 9, .inl (nF rr))), (aRa, .inl (cI, 9, .inl (nF ra)))]) A) [.ref aS, .int (bhN ba), .int (bhN bb)].toArray s 0 0 A) (F0 m 2 ls []) := by
    intro n2
    induction n2 with
    | zero =>
      intro set sla hm
      exact absurd hm (Nat.not_lt_zero _)
    | succ n2 ih2 =>
      intro set sla hm2 bSla hs hfa H locs hP hD hS ls hl
      refine lv_iload_n hx hb dX4_fill_2 rfl (lv_at hl 3 rfl) ?_
      refine lv_aload_n hx hb dX4_fill_3 rfl (lv_at hl 0 rfl) ?_
      have hPc := hP.sub (ws' := [(aS, .inr (4, [.ref aR, .ref aSj, .ref aSl, .ref aSs, .ref aSo, .int (nI sn), .int (nI st), .int (nI sb), .int (nI sx)]))]) [0] rfl
      refine vp_callSi (W.runV (As := []) (rest := [.int (nI set)]) ⟨hx, hb, hml, hown, hts⟩ (k_X4_all l dC dI cI cZ aS aR aSj aSl aSs aSo sn st sb sx (by omega)) (cwV 0 hts gX4_fill_X4_all rfl rfl rfl (by decide +kernel) ⟨Nat.le_of_ble_eq_true rfl, Nat.le_of_ble_eq_true rfl⟩) (ln_preV (q0 := 0) (ci := 4) hPc hKK rfl rfl) rfl rfl hl.1 rfl (lv_room (Nat.le_of_ble_eq_true rfl)) dX4_fill_4 ⟨Nat.le_of_ble_eq_true rfl, Nat.le_of_ble_eq_true rfl⟩) (fun r_1 w_2 => ?_)
      subst w_2
      refine ln_icmp_gt (tgt := 91) hx hb dX4_fill_7 (by decide) (by have := ln_p9 hn; omega) (by have := ln_p9 hn; omega) (fun c_3 => ?_) (fun c_3 => ?_)
      · exact W.vret hx hb hr (fun t ht hW => ⟨⟨sla, rfl, ⟨(by rw [hfa, show set - 1 = 2 ^ sn - 1 by omega]), bSla⟩, by rw [ht]; exact hP, hD⟩, hS.F ht⟩) hS.2.2 dX4_fill_91
      · refine lv_iconst (v := nI 0) hx hb dX4_fill_10 (by decide) ?_
        refine lv_istore (lv' := [(4, .int (nI 0)), (0, .ref aS), (1, .int (bhN ba)), (2, .int (bhN bb)), (3, .int (nI set))]) hx hb dX4_fill_11 hl (by decide) rfl (fun ls hl => ?_)
        have LP13 : ∀ (n13 : Nat) (i : Nat) (slb : Nat → Nat), sn - i < n13 → (∀ k, slb k ≤ 1000000) → (i ≤ sn) → (slb = m_fillS rb rr ra sj sn st ba bb set sla i) → ∀ (H : Heap) (locs : List Loc), va_P (dC, dI) vwCl [(aS, .inr (4, [.ref aR, .ref aSj, .ref aSl, .ref aSs, .ref aSo, .int (nI sn), .int (nI st), .int (nI sb), .int (nI sx)])), (aSl, .inl (cI, 9216, .inl (nF slb))), (aSj, .inl (cI, 324, .inl (nF sj))), (aR, .inr (2, [.ref aRb, .ref aRr, .ref aRa])), (aRb, .inl (cI, 9, .inl (nF rb))), (aRr, .inl (cI, 9, .inl (nF rr))), (aRa, .inl (cI, 9, .inl (nF ra)))] H → va_D A [(aS, .inr (4, [.ref aR, .ref aSj, .ref aSl, .ref aSs, .ref aSo, .int (nI sn), .int (nI st), .int (nI sb), .int (nI sx)])), (aSl, .inl (cI, 9216, .inl (nF slb))), (aSj, .inl (cI, 324, .inl (nF sj))), (aR, .inr (2, [.ref aRb, .ref aRr, .ref aRa])), (aRb, .inl (cI, 9, .inl (nF rb))), (aRr, .inl (cI, 9, .inl (nF rr))), (aRa, .inl (cI, 9, .inl (nF ra)))] → va_S A s.heap H locs → ∀ (ls : Array Slot), lv_has ls 7 [(0, .ref aS), (1, .int (bhN ba)), (2, .int (bhN bb)), (3, .int (nI set)), (4, .int (nI i))] → W p l e { frames := 3, cells := 0, slots := 0, locals := 76 } s m [.ref aS, .int (bhN ba), .int (bhN bb)].toArray below meth c H locs 0 0 (MQ below (va_Qv (fun (slz : (Nat → Nat)) => slz = m_fill rb rr ra sj sn st ba bb sl (2 ^ sn - 1) ∧ ∀ k, slz k ≤ 1000000) (fun (slz : (Nat → Nat)) (t : State) => va_P (dC, dI) vwCl [(aS, .inr (4, [.ref aR, .ref aSj, .ref aSl, .ref aSs, .ref aSo, .int (nI sn), .int (nI st), .int (nI sb), .int (nI sx)])), (aSl, .inl (cI, 9216, .inl (nF slz))), (aSj, .inl (cI, 324, .inl (nF sj))), (aR, .inr (2, [.ref aRb, .ref aRr, .ref aRa])), (aRb, .inl (cI, 9, .inl (nF rb))), (aRr, .inl (cI, 9, .inl (nF rr))), (aRa, .inl (cI, 9, .inl (nF ra)))] t.heap ∧ va_D A [(aS, .inr (4, [.ref aR, .ref aSj, .ref aSl, .ref aSs, .ref aSo, .int (nI sn), .int (nI st), .int (nI sb), .int (nI sx)])), (aSl, .inl (cI, 9216, .inl (nF slz))), (aSj, .inl (cI, 324, .inl (nF sj))), (aR, .inr (2, [.ref aRb, .ref aRr, .ref aRa])), (aRb, .inl (cI, 9, .inl (nF rb))), (aRr, .inl (cI, 9, .inl (nF rr))), (aRa, .inl (cI, 9, .inl (nF ra)))]) A) [.ref aS, .int (bhN ba), .int (bhN bb)].toArray s 0 0 A) (F0 m 13 ls []) := by
          intro n13
          induction n13 with
          | zero =>
            intro i slb hm
            exact absurd hm (Nat.not_lt_zero _)
          | succ n13 ih13 =>
            intro i slb hm13 bSlb hi hfs H locs hP hD hS ls hl
            refine lv_iload hx hb dX4_fill_13 (lv_at hl 4 rfl) ?_
            refine lv_aload_n hx hb dX4_fill_15 rfl (lv_at hl 0 rfl) ?_
            refine va_get (D := (dC, dI)) (ci := 4) (v := .int (nI sn)) (C := RX4) (T := TX4) (N := 9) hx hb hts mX4_fill_inX4 hown hK hP 0 rfl rfl 5 (by decide) (hts (.fieldLink RX4 40 "LeafOrder$Search" "count" "I") mX4_fill_0) (fun _ h9 => h9) rfl dX4_fill_16 ?_
            refine ln_icmp_ge (tgt := 85) hx hb dX4_fill_19 (by decide) (by omega) (by omega) (fun c_4 => ?_) (fun c_4 => ?_)
            · refine lv_iinc (v := (nI (set + 1))) (lv' := [(3, .int (nI (set + 1))), (0, .ref aS), (1, .int (bhN ba)), (2, .int (bhN bb)), (4, .int (nI i))]) hx hb dX4_fill_85 hl (k := 3) rfl (by first | exact nI_1 _ | rfl) (by decide) rfl (fun ls hl => ?_)
              refine lv_goto (tgt := 2) hx hb dX4_fill_88 (by decide) ?_
              exact ih2 (set + 1) slb (by omega) bSlb (by have := ln_p9 hn; omega) (by rw [Nat.add_sub_cancel, hfs, show i = sn by omega]; conv => rhs; rw [show set = (set - 1) + 1 by omega, m_fill]; rw [show set - 1 + 1 = set by omega, ← hfa]) _ _ hP hD hS ls (lv_sub hl [1, 2, 3, 0] rfl)
            · refine lv_iload_n hx hb dX4_fill_22 rfl (lv_at hl 3 rfl) ?_
              refine lv_iload hx hb dX4_fill_23 (lv_at hl 4 rfl) ?_
              refine ln_ishr hx hb dX4_fill_25 (by omega) (by omega) ?_
              refine lv_iconst (v := nI 1) hx hb dX4_fill_26 (by decide) ?_
              refine ln_iand hx hb dX4_fill_27 ?_
              refine ln_if_eq (tgt := 79) hx hb dX4_fill_28 (by decide) (ln_b31 _) (fun c_5 => ?_) (fun c_5 => ?_)
              · refine lv_iinc (v := (nI (i + 1))) (lv' := [(4, .int (nI (i + 1))), (0, .ref aS), (1, .int (bhN ba)), (2, .int (bhN bb)), (3, .int (nI set))]) hx hb dX4_fill_79 hl (k := 4) rfl (by first | exact nI_1 _ | rfl) (by decide) rfl (fun ls hl => ?_)
                refine lv_goto (tgt := 13) hx hb dX4_fill_82 (by decide) ?_
                exact ih13 (i + 1) slb (by omega) bSlb (by omega) (by rw [m_fillS, if_pos c_5, hfs]) _ _ hP hD hS ls (lv_sub hl [1, 2, 3, 4, 0] rfl)
              · refine lv_iload_n hx hb dX4_fill_31 rfl (lv_at hl 3 rfl) ?_
                refine lv_iconst (v := nI 1) hx hb dX4_fill_32 (by decide) ?_
                refine lv_iload hx hb dX4_fill_33 (lv_at hl 4 rfl) ?_
                refine ln_ishl1 hx hb dX4_fill_35 (by omega) ?_
                refine lv_iconst (v := (-1)) hx hb dX4_fill_36 (by decide) ?_
                refine lv_ixor hx hb dX4_fill_37 ?_
                refine ln_iclr hx hb dX4_fill_38 ?_
                refine lv_istore (lv' := [(5, .int (nI (nclr set (2 ^ i)))), (0, .ref aS), (1, .int (bhN ba)), (2, .int (bhN bb)), (3, .int (nI set)), (4, .int (nI i))]) hx hb dX4_fill_39 hl (by decide) rfl (fun ls hl => ?_)
                refine lv_aload_n hx hb dX4_fill_41 rfl (lv_at hl 1 rfl) ?_
                refine va_get (D := (dC, dI)) (ci := 4) (v := .ref aR) (C := RX4) (T := TX4) (N := 9) hx hb hts mX4_fill_inX4 hown hK hP 0 rfl rfl 0 (by decide) (hts (.fieldLink RX4 24 "LeafOrder$Search" "rules" "LLeafOrder$Rules;") mX4_fill_2) (fun _ h9 => h9) rfl dX4_fill_42 ?_
                refine lv_iload hx hb dX4_fill_45 (lv_at hl 5 rfl) ?_
                refine lv_iload hx hb dX4_fill_47 (lv_at hl 0 rfl) ?_
                have hPc := hP.sub (ws' := [(aR, .inr (2, [.ref aRb, .ref aRr, .ref aRa])), (aRa, .inl (cI, 9, .inl (nF ra)))]) [3, 6] rfl
                refine vp_callSi (W.runV (As := [.int (nI i), .int (nI (nclr set (2 ^ i)))]) (rest := []) ⟨hx, hb, hml, hown, hts⟩ (k_X2_neighboursOf l dC dI cI cZ aR aRb aRr aRa ra i (nclr set (2 ^ i)) bRa (by omega) (Nat.lt_of_le_of_lt (nclr_le _ _) (by omega))) (cwV 2 hts gX4_fill_X2_neighboursOf rfl rfl rfl (by decide +kernel) ⟨Nat.le_of_ble_eq_true rfl, Nat.le_of_ble_eq_true rfl⟩) (ln_preV (q0 := 0) (ci := 2) hPc hKK rfl rfl) rfl rfl hl.1 rfl (lv_room (Nat.le_of_ble_eq_true rfl)) dX4_fill_49 ⟨Nat.le_of_ble_eq_true rfl, Nat.le_of_ble_eq_true rfl⟩) (fun r_6 w_7 => ?_)
                subst w_7
                refine lv_istore (lv' := [(6, .int (nI (m_nbr ra i (nclr set (2 ^ i))))), (5, .int (nI (nclr set (2 ^ i)))), (0, .ref aS), (1, .int (bhN ba)), (2, .int (bhN bb)), (3, .int (nI set)), (4, .int (nI i))]) hx hb dX4_fill_52 hl (by decide) rfl (fun ls hl => ?_)
                refine lv_iload hx hb dX4_fill_54 (lv_at hl 6 rfl) ?_
                refine lv_iload_n hx hb dX4_fill_56 rfl (lv_at hl 4 rfl) ?_
                refine lv_icmp_ne (tgt := 70) hx hb dX4_fill_57 (by decide) (fun c_8 => ?_) (fun c_8 => ?_)
                · have hne : ¬ i = bb := fun q => c_8 (by rw [q, bhN_lt (by omega)])
                  have hnb := m_nbr_lt ra i (nclr set (2 ^ i)) (Nat.lt_of_le_of_lt (nclr_le _ _) (by omega))
                  have hah : m_nbr ra i (nclr set (2 ^ i)) < 512 := hnb
                  have haE : m_ahead ra ba bb i (nclr set (2 ^ i)) = m_nbr ra i (nclr set (2 ^ i)) := by unfold m_ahead; rw [if_neg hne]
                  refine lv_aload_n hx hb dX4_fill_70 rfl (lv_at hl 2 rfl) ?_
                  refine lv_iload_n hx hb dX4_fill_71 rfl (lv_at hl 5 rfl) ?_
                  refine lv_iload hx hb dX4_fill_72 (lv_at hl 6 rfl) ?_
                  refine lv_iload hx hb dX4_fill_74 (lv_at hl 0 rfl) ?_
                  have hPc := hP.sub (ws' := [(aS, .inr (4, [.ref aR, .ref aSj, .ref aSl, .ref aSs, .ref aSo, .int (nI sn), .int (nI st), .int (nI sb), .int (nI sx)])), (aSl, .inl (cI, 9216, .inl (nF slb))), (aSj, .inl (cI, 324, .inl (nF sj))), (aR, .inr (2, [.ref aRb, .ref aRr, .ref aRa])), (aRb, .inl (cI, 9, .inl (nF rb))), (aRr, .inl (cI, 9, .inl (nF rr)))]) [0, 1, 2, 3, 4, 5] rfl
                  have hDc := hD.sub (ws' := [(aS, .inr (4, [.ref aR, .ref aSj, .ref aSl, .ref aSs, .ref aSo, .int (nI sn), .int (nI st), .int (nI sb), .int (nI sx)])), (aSl, .inl (cI, 9216, .inl (nF slb))), (aSj, .inl (cI, 324, .inl (nF sj))), (aR, .inr (2, [.ref aRb, .ref aRr, .ref aRa])), (aRb, .inl (cI, 9, .inl (nF rb))), (aRr, .inl (cI, 9, .inl (nF rr)))]) [0, 1, 2, 3, 4, 5] (by decide) rfl
                  have hFc := va_free (wc := [(aS, .inr (4, [.ref aR, .ref aSj, .ref aSl, .ref aSs, .ref aSo, .int (nI sn), .int (nI st), .int (nI sb), .int (nI sx)])), (aSl, .inl (cI, 9216, .inl (nF slb))), (aSj, .inl (cI, 324, .inl (nF sj))), (aR, .inr (2, [.ref aRb, .ref aRr, .ref aRa])), (aRb, .inl (cI, 9, .inl (nF rb))), (aRr, .inl (cI, 9, .inl (nF rr)))]) hD hS hA [0, 1, 2, 3, 4, 5] rfl
                  refine va_callv (va_runV (As := [.int (nI set), .int (nI i), .int (nI (m_nbr ra i (nclr set (2 ^ i))))]) (rest := []) ⟨hx, hb, hml, hown, hts⟩ (k_X4_fillLast l dC dI cI cZ aS aR aSj aSl aSs aSo aRb aRr aRa sn st sb sx slb sj rb rr set i (m_nbr ra i (nclr set (2 ^ i))) H.size bSlb bSj bRb bRr (by omega) (by omega) (by omega) (by omega) hah) (cwV 3 hts gX4_fill_X4_fillLast rfl rfl rfl (by decide +kernel) ⟨Nat.le_of_ble_eq_true rfl, Nat.le_of_ble_eq_true rfl⟩) (ln_preVM (q0 := 0) (ci := 4) hPc hKK hDc rfl rfl) rfl rfl hl.1 rfl (lv_room (Nat.le_of_ble_eq_true rfl)) dX4_fill_76 ⟨Nat.le_of_ble_eq_true rfl, Nat.le_of_ble_eq_true rfl⟩) hS (fun q _ h => hFc q h) hFc (fun u t H1 locs ht hvm w_10 hB hzH hkH hS => ?_)
                  obtain ⟨slz_11, rfl⟩ : ∃ z, z = u := ⟨_, rfl⟩
                  obtain ⟨hP1, hD1⟩ := hB
                  rw [ht] at hP1
                  try dsimp only at w_10
                  obtain ⟨hP, hD⟩ := va_join (wr := [(aRa, .inl (cI, 9, .inl (nF ra)))]) (w1 := [(aS, .inr (4, [.ref aR, .ref aSj, .ref aSl, .ref aSs, .ref aSo, .int (nI sn), .int (nI st), .int (nI sb), .int (nI sx)])), (aSl, .inl (cI, 9216, .inl (nF slz_11))), (aSj, .inl (cI, 324, .inl (nF sj))), (aR, .inr (2, [.ref aRb, .ref aRr, .ref aRa])), (aRb, .inl (cI, 9, .inl (nF rb))), (aRr, .inl (cI, 9, .inl (nF rr)))]) hP hD [0, 1, 2, 3, 4, 5] [6] rfl rfl (by decide) (by decide) hkH hFc hP1 hD1
                  generalize H1 = H at hP hS ⊢
                  have hP := hP.sub (ws' := [(aS, .inr (4, [.ref aR, .ref aSj, .ref aSl, .ref aSs, .ref aSo, .int (nI sn), .int (nI st), .int (nI sb), .int (nI sx)])), (aSl, .inl (cI, 9216, .inl (nF slz_11))), (aSj, .inl (cI, 324, .inl (nF sj))), (aR, .inr (2, [.ref aRb, .ref aRr, .ref aRa])), (aRb, .inl (cI, 9, .inl (nF rb))), (aRr, .inl (cI, 9, .inl (nF rr))), (aRa, .inl (cI, 9, .inl (nF ra)))]) [1, 2, 3, 4, 5, 6, 0] rfl
                  have hD := hD.sub (ws' := [(aS, .inr (4, [.ref aR, .ref aSj, .ref aSl, .ref aSs, .ref aSo, .int (nI sn), .int (nI st), .int (nI sb), .int (nI sx)])), (aSl, .inl (cI, 9216, .inl (nF slz_11))), (aSj, .inl (cI, 324, .inl (nF sj))), (aR, .inr (2, [.ref aRb, .ref aRr, .ref aRa])), (aRb, .inl (cI, 9, .inl (nF rb))), (aRr, .inl (cI, 9, .inl (nF rr))), (aRa, .inl (cI, 9, .inl (nF ra)))]) [1, 2, 3, 4, 5, 6, 0] (by decide) rfl
                  obtain ⟨w_10, b_12⟩ := w_10
                  refine lv_iinc (v := (nI (i + 1))) (lv' := [(4, .int (nI (i + 1))), (6, .int (nI (m_nbr ra i (nclr set (2 ^ i))))), (5, .int (nI (nclr set (2 ^ i)))), (0, .ref aS), (1, .int (bhN ba)), (2, .int (bhN bb)), (3, .int (nI set))]) hx hb dX4_fill_79 hl (k := 6) rfl (by first | exact nI_1 _ | rfl) (by decide) rfl (fun ls hl => ?_)
                  refine lv_goto (tgt := 13) hx hb dX4_fill_82 (by decide) ?_
                  exact ih13 (i + 1) slz_11 (by omega) b_12 (by omega) (by rw [m_fillS, if_neg c_5, haE, ← hfs]; exact w_10) _ _ hP hD hS ls (lv_sub hl [3, 4, 5, 6, 0] rfl)
                · have hie : i = bb := bhN_leaf (by omega) c_8
                  refine lv_iload hx hb dX4_fill_60 (lv_at hl 0 rfl) ?_
                  refine lv_iconst (v := nI 1) hx hb dX4_fill_62 (by decide) ?_
                  refine lv_iload_n hx hb dX4_fill_63 rfl (lv_at hl 3 rfl) ?_
                  have hba9 : ba < 9 := hbb (by omega)
                  have eba : bhN ba = nI ba := bhN_lt (by omega)
                  refine W.eq (g2 := F0 m 64 ls [.int (nI ba), .int (nI 1), .int (nI (m_nbr ra i (nclr set (2 ^ i))))]) (by rw [eba]) ?_
                  refine ln_ishl1 hx hb dX4_fill_64 (by omega) ?_
                  refine lv_iconst (v := (-1)) hx hb dX4_fill_65 (by decide) ?_
                  refine lv_ixor hx hb dX4_fill_66 ?_
                  refine ln_iclr hx hb dX4_fill_67 ?_
                  refine lv_istore (lv' := [(6, .int (nI (nclr (m_nbr ra i (nclr set (2 ^ i))) (2 ^ ba)))), (5, .int (nI (nclr set (2 ^ i)))), (0, .ref aS), (1, .int (bhN ba)), (2, .int (bhN bb)), (3, .int (nI set)), (4, .int (nI i))]) hx hb dX4_fill_68 hl (by decide) rfl (fun ls hl => ?_)
                  have hnb := m_nbr_lt ra i (nclr set (2 ^ i)) (Nat.lt_of_le_of_lt (nclr_le _ _) (by omega))
                  have hah : nclr (m_nbr ra i (nclr set (2 ^ i))) (2 ^ ba) < 512 := Nat.lt_of_le_of_lt (nclr_le _ _) hnb
                  have haE : m_ahead ra ba bb i (nclr set (2 ^ i)) = nclr (m_nbr ra i (nclr set (2 ^ i))) (2 ^ ba) := by unfold m_ahead; rw [if_pos hie]
                  refine lv_aload_n hx hb dX4_fill_70 rfl (lv_at hl 2 rfl) ?_
                  refine lv_iload_n hx hb dX4_fill_71 rfl (lv_at hl 5 rfl) ?_
                  refine lv_iload hx hb dX4_fill_72 (lv_at hl 6 rfl) ?_
                  refine lv_iload hx hb dX4_fill_74 (lv_at hl 0 rfl) ?_
                  have hPc := hP.sub (ws' := [(aS, .inr (4, [.ref aR, .ref aSj, .ref aSl, .ref aSs, .ref aSo, .int (nI sn), .int (nI st), .int (nI sb), .int (nI sx)])), (aSl, .inl (cI, 9216, .inl (nF slb))), (aSj, .inl (cI, 324, .inl (nF sj))), (aR, .inr (2, [.ref aRb, .ref aRr, .ref aRa])), (aRb, .inl (cI, 9, .inl (nF rb))), (aRr, .inl (cI, 9, .inl (nF rr)))]) [0, 1, 2, 3, 4, 5] rfl
                  have hDc := hD.sub (ws' := [(aS, .inr (4, [.ref aR, .ref aSj, .ref aSl, .ref aSs, .ref aSo, .int (nI sn), .int (nI st), .int (nI sb), .int (nI sx)])), (aSl, .inl (cI, 9216, .inl (nF slb))), (aSj, .inl (cI, 324, .inl (nF sj))), (aR, .inr (2, [.ref aRb, .ref aRr, .ref aRa])), (aRb, .inl (cI, 9, .inl (nF rb))), (aRr, .inl (cI, 9, .inl (nF rr)))]) [0, 1, 2, 3, 4, 5] (by decide) rfl
                  have hFc := va_free (wc := [(aS, .inr (4, [.ref aR, .ref aSj, .ref aSl, .ref aSs, .ref aSo, .int (nI sn), .int (nI st), .int (nI sb), .int (nI sx)])), (aSl, .inl (cI, 9216, .inl (nF slb))), (aSj, .inl (cI, 324, .inl (nF sj))), (aR, .inr (2, [.ref aRb, .ref aRr, .ref aRa])), (aRb, .inl (cI, 9, .inl (nF rb))), (aRr, .inl (cI, 9, .inl (nF rr)))]) hD hS hA [0, 1, 2, 3, 4, 5] rfl
                  refine va_callv (va_runV (As := [.int (nI set), .int (nI i), .int (nI (nclr (m_nbr ra i (nclr set (2 ^ i))) (2 ^ ba)))]) (rest := []) ⟨hx, hb, hml, hown, hts⟩ (k_X4_fillLast l dC dI cI cZ aS aR aSj aSl aSs aSo aRb aRr aRa sn st sb sx slb sj rb rr set i (nclr (m_nbr ra i (nclr set (2 ^ i))) (2 ^ ba)) H.size bSlb bSj bRb bRr (by omega) (by omega) (by omega) (by omega) hah) (cwV 3 hts gX4_fill_X4_fillLast rfl rfl rfl (by decide +kernel) ⟨Nat.le_of_ble_eq_true rfl, Nat.le_of_ble_eq_true rfl⟩) (ln_preVM (q0 := 0) (ci := 4) hPc hKK hDc rfl rfl) rfl rfl hl.1 rfl (lv_room (Nat.le_of_ble_eq_true rfl)) dX4_fill_76 ⟨Nat.le_of_ble_eq_true rfl, Nat.le_of_ble_eq_true rfl⟩) hS (fun q _ h => hFc q h) hFc (fun u t H1 locs ht hvm w_14 hB hzH hkH hS => ?_)
                  obtain ⟨slz_15, rfl⟩ : ∃ z, z = u := ⟨_, rfl⟩
                  obtain ⟨hP1, hD1⟩ := hB
                  rw [ht] at hP1
                  try dsimp only at w_14
                  obtain ⟨hP, hD⟩ := va_join (wr := [(aRa, .inl (cI, 9, .inl (nF ra)))]) (w1 := [(aS, .inr (4, [.ref aR, .ref aSj, .ref aSl, .ref aSs, .ref aSo, .int (nI sn), .int (nI st), .int (nI sb), .int (nI sx)])), (aSl, .inl (cI, 9216, .inl (nF slz_15))), (aSj, .inl (cI, 324, .inl (nF sj))), (aR, .inr (2, [.ref aRb, .ref aRr, .ref aRa])), (aRb, .inl (cI, 9, .inl (nF rb))), (aRr, .inl (cI, 9, .inl (nF rr)))]) hP hD [0, 1, 2, 3, 4, 5] [6] rfl rfl (by decide) (by decide) hkH hFc hP1 hD1
                  generalize H1 = H at hP hS ⊢
                  have hP := hP.sub (ws' := [(aS, .inr (4, [.ref aR, .ref aSj, .ref aSl, .ref aSs, .ref aSo, .int (nI sn), .int (nI st), .int (nI sb), .int (nI sx)])), (aSl, .inl (cI, 9216, .inl (nF slz_15))), (aSj, .inl (cI, 324, .inl (nF sj))), (aR, .inr (2, [.ref aRb, .ref aRr, .ref aRa])), (aRb, .inl (cI, 9, .inl (nF rb))), (aRr, .inl (cI, 9, .inl (nF rr))), (aRa, .inl (cI, 9, .inl (nF ra)))]) [1, 2, 3, 4, 5, 6, 0] rfl
                  have hD := hD.sub (ws' := [(aS, .inr (4, [.ref aR, .ref aSj, .ref aSl, .ref aSs, .ref aSo, .int (nI sn), .int (nI st), .int (nI sb), .int (nI sx)])), (aSl, .inl (cI, 9216, .inl (nF slz_15))), (aSj, .inl (cI, 324, .inl (nF sj))), (aR, .inr (2, [.ref aRb, .ref aRr, .ref aRa])), (aRb, .inl (cI, 9, .inl (nF rb))), (aRr, .inl (cI, 9, .inl (nF rr))), (aRa, .inl (cI, 9, .inl (nF ra)))]) [1, 2, 3, 4, 5, 6, 0] (by decide) rfl
                  obtain ⟨w_14, b_16⟩ := w_14
                  refine lv_iinc (v := (nI (i + 1))) (lv' := [(4, .int (nI (i + 1))), (6, .int (nI (nclr (m_nbr ra i (nclr set (2 ^ i))) (2 ^ ba)))), (5, .int (nI (nclr set (2 ^ i)))), (0, .ref aS), (1, .int (bhN ba)), (2, .int (bhN bb)), (3, .int (nI set))]) hx hb dX4_fill_79 hl (k := 6) rfl (by first | exact nI_1 _ | rfl) (by decide) rfl (fun ls hl => ?_)
                  refine lv_goto (tgt := 13) hx hb dX4_fill_82 (by decide) ?_
                  exact ih13 (i + 1) slz_15 (by omega) b_16 (by omega) (by rw [m_fillS, if_neg c_5, haE, ← hfs]; exact w_14) _ _ hP hD hS ls (lv_sub hl [3, 4, 5, 6, 0] rfl)
        exact LP13 _ 0 sla (Nat.lt_succ_self _) bSla (Nat.zero_le _) rfl _ _ hP hD hS ls (lv_sub hl [1, 2, 3, 4, 0] rfl)
  exact LP2 _ 1 sl (Nat.lt_succ_self _) bSl ⟨Nat.le_refl _, ln_one_two_pow _⟩ rfl _ _ hP hD hS ls (lv_sub hl [1, 2, 3, 0] rfl)
theorem mX4_pick_0 : Cond.constant RX4 44 (1000000) ∈ wsX4_pick := by decide +kernel
theorem mX4_pick_1 : Cond.fieldLink RX4 40 "LeafOrder$Search" "count" "I" ∈ wsX4_pick := by decide +kernel
theorem mX4_pick_inX4 : ∀ w ∈ wsX40, w ∈ wsX4_pick := by decide +kernel
theorem mX4_pick_3 : Cond.fieldLink RX4 15 "LeafOrder$Search" "least" "[I" ∈ wsX4_pick := by decide +kernel
theorem mX4_pick_4 : Cond.fieldLink RX4 67 "LeafOrder$Search" "nextCost" "I" ∈ wsX4_pick := by decide +kernel
theorem mX4_pick_5 : Cond.methodLink RX4 93 Lib.Math.min.name ∈ wsX4_pick := by decide +kernel
theorem mX4_pick_6 : Cond.static Lib.Math.min.name ∈ wsX4_pick := by decide +kernel
theorem mX4_pick_7 : Cond.initialized "java/lang/Math" ∈ wsX4_pick := by decide +kernel
theorem mX4_pick_8 : Cond.code Lib.Math.min.name Lib.Math.min.code 2 (some .int) ∈ wsX4_pick := by decide +kernel
theorem mX4_pick_9 : Cond.fieldLink RX4 24 "LeafOrder$Search" "rules" "LLeafOrder$Rules;" ∈ wsX4_pick := by decide +kernel
set_option maxHeartbeats 4000000 in
set_option maxRecDepth 100000 in
theorem k_X4_pick (l : Launch) (dC : Nat → ClassId) (dI : Nat → Nat → Nat) (cI cZ : ClassId) (aS aR aSj aSl aSs aSo aRb aRr aRa : Nat) (sn : Nat) (st : Nat) (sb : Nat) (sx : Nat) (sl : Nat → Nat) (sj : Nat → Nat) (ra : Nat → Nat) (q1 : Nat) (q2 : Nat) (q3 : Nat) (sz : Nat) (bSl : ∀ k, sl k ≤ 1000000) (bSj : ∀ k, sj k ≤ 10000) (bRa : ∀ k, ra k ≤ 511) (hn : sn ≤ 9) (h1 : q1 < 512) (h2 : q2 ≤ 18) (h3 : q3 ≤ 10000000) (hsx : sx ≤ 1000000) : Met l yX4_pick wsX4_pick { frames := 2, cells := 0, slots := 0, locals := 43 } (va_Pc [.ref aS, .int (nI q1), .int (bhN q2), .int (nI q3)] (fun U => U.heap.size = sz ∧ va_P (dC, dI) vwCl [(aS, .inr (4, [.ref aR, .ref aSj, .ref aSl, .ref aSs, .ref aSo, .int (nI sn), .int (nI st), .int (nI sb), .int (nI sx)])), (aSl, .inl (cI, 9216, .inl (nF sl))), (aSj, .inl (cI, 324, .inl (nF sj))), (aR, .inr (2, [.ref aRb, .ref aRr, .ref aRa])), (aRa, .inl (cI, 9, .inl (nF ra)))] U.heap ∧ lK dC dI cI cZ U ∧ va_D (fun _ => True) [(aS, .inr (4, [.ref aR, .ref aSj, .ref aSl, .ref aSs, .ref aSo, .int (nI sn), .int (nI st), .int (nI sb), .int (nI sx)])), (aSl, .inl (cI, 9216, .inl (nF sl))), (aSj, .inl (cI, 324, .inl (nF sj))), (aR, .inr (2, [.ref aRb, .ref aRr, .ref aRa])), (aRa, .inl (cI, 9, .inl (nF ra)))])) (va_Qi (fun (r : Int32) (sxz : (Nat)) => ∃ z pcz, r = nI z ∧ z ≤ 17 ∧ sxz ≤ 1000000 ∧ (z, pcz, sxz) = m_pick sl sj (m_ends ra q1 q2) q1 q2 q3 sx (2 * sn)) (fun (sxz : (Nat)) (t : State) => va_P (dC, dI) vwCl [(aS, .inr (4, [.ref aR, .ref aSj, .ref aSl, .ref aSs, .ref aSo, .int (nI sn), .int (nI st), .int (nI sb), .int (nI sxz)])), (aSl, .inl (cI, 9216, .inl (nF sl))), (aSj, .inl (cI, 324, .inl (nF sj))), (aR, .inr (2, [.ref aRb, .ref aRr, .ref aRa])), (aRa, .inl (cI, 9, .inl (nF ra)))] t.heap ∧ va_D (va_A [(aS, .inr (4, [.ref aR, .ref aSj, .ref aSl, .ref aSs, .ref aSo, .int (nI sn), .int (nI st), .int (nI sb), .int (nI sx)])), (aSl, .inl (cI, 9216, .inl (nF sl))), (aSj, .inl (cI, 324, .inl (nF sj))), (aR, .inr (2, [.ref aRb, .ref aRr, .ref aRa])), (aRa, .inl (cI, 9, .inl (nF ra)))] sz) [(aS, .inr (4, [.ref aR, .ref aSj, .ref aSl, .ref aSs, .ref aSo, .int (nI sn), .int (nI st), .int (nI sb), .int (nI sxz)])), (aSl, .inl (cI, 9216, .inl (nF sl))), (aSj, .inl (cI, 324, .inl (nF sj))), (aR, .inr (2, [.ref aRb, .ref aRr, .ref aRa])), (aRa, .inl (cI, 9, .inl (nF ra)))]) (va_A [(aS, .inr (4, [.ref aR, .ref aSj, .ref aSl, .ref aSs, .ref aSo, .int (nI sn), .int (nI st), .int (nI sb), .int (nI sx)])), (aSl, .inl (cI, 9216, .inl (nF sl))), (aSj, .inl (cI, 324, .inl (nF sj))), (aR, .inr (2, [.ref aRb, .ref aRr, .ref aRa])), (aRa, .inl (cI, 9, .inl (nF ra)))] sz)) 0 0 (va_A [(aS, .inr (4, [.ref aR, .ref aSj, .ref aSl, .ref aSs, .ref aSo, .int (nI sn), .int (nI st), .int (nI sb), .int (nI sx)])), (aSl, .inl (cI, 9216, .inl (nF sl))), (aSj, .inl (cI, 324, .inl (nF sj))), (aR, .inr (2, [.ref aRb, .ref aRr, .ref aRa])), (aRa, .inl (cI, 9, .inl (nF ra)))] sz) := by
  refine Met.ofW (cc := cX4_pick) (maxL := 9) (ret := (some .int)) (by decide) rfl ?_
  intro p e s m args below meth c s₁ B hml hv
  obtain ⟨rfl, hsz, hP, hKK, hD0⟩ := hv
  have hK := hKK.1
  have hx := B.exec
  have hb := B.bytes
  have hr := B.returns
  have hts := atoms_spec (ws := wsX4_pick) B.pre
  have hown : s.vm.findClass RX4 = some m.cls := findClass_of_methodNamed B.named
  have hlocks := B.notSynchronized
  subst hsz
  have hD := hD0.self (sz := s.heap.size)
  generalize hAe : va_A [(aS, .inr (4, [.ref aR, .ref aSj, .ref aSl, .ref aSs, .ref aSo, .int (nI sn), .int (nI st), .int (nI sb), .int (nI sx)])), (aSl, .inl (cI, 9216, .inl (nF sl))), (aSj, .inl (cI, 324, .inl (nF sj))), (aR, .inr (2, [.ref aRb, .ref aRr, .ref aRa])), (aRa, .inl (cI, 9, .inl (nF ra)))] s.heap.size = A at hD ⊢
  have hA : ∀ q : Nat, s.heap.size ≤ q → A q := fun q h => by rw [← hAe]; exact Or.inr h
  have hS : va_S A s.heap s.heap [] := va_S.rf
  have hl := lv_entry ([.ref aS, .int (nI q1), .int (bhN q2), .int (nI q3)]) (n := 9) (Nat.le_of_ble_eq_true rfl)
  rw [lg_entry_eq]
  generalize (lg_sl ([.ref aS, .int (nI q1), .int (bhN q2), .int (nI q3)]) ++ List.replicate (9 - (lg_sl ([.ref aS, .int (nI q1), .int (bhN q2), .int (nI q3)])).length) Slot.unset).toArray = ls at hl ⊢
  have hl : lv_has ls 9 [(0, .ref aS), (1, .int (nI q1)), (2, .int (bhN q2)), (3, .int (nI q3))] := hl
  have hen := m_ends_lt ra q1 q2 h1
  have CUT20 : ∀ (ls : Array Slot), lv_has ls 9 [(0, .ref aS), (1, .int (nI q1)), (2, .int (bhN q2)), (3, .int (nI q3))] → W p l e { frames := 2, cells := 0, slots := 0, locals := 43 } s m [.ref aS, .int (nI q1), .int (bhN q2), .int (nI q3)].toArray below meth c s.heap [] 0 0 (MQ below (va_Qi (fun (r : Int32) (sxz : (Nat)) => ∃ z pcz, r = nI z ∧ z ≤ 17 ∧ sxz ≤ 1000000 ∧ (z, pcz, sxz) = m_pick sl sj (m_ends ra q1 q2) q1 q2 q3 sx (2 * sn)) (fun (sxz : (Nat)) (t : State) => va_P (dC, dI) vwCl [(aS, .inr (4, [.ref aR, .ref aSj, .ref aSl, .ref aSs, .ref aSo, .int (nI sn), .int (nI st), .int (nI sb), .int (nI sxz)])), (aSl, .inl (cI, 9216, .inl (nF sl))), (aSj, .inl (cI, 324, .inl (nF sj))), (aR, .inr (2, [.ref aRb, .ref aRr, .ref aRa])), (aRa, .inl (cI, 9, .inl (nF ra)))] t.heap ∧ va_D A [(aS, .inr (4, [.ref aR, .ref aSj, .ref aSl, .ref aSs, .ref aSo, .int (nI sn), .int (nI st), .int (nI sb), .int (nI sxz)])), (aSl, .inl (cI, 9216, .inl (nF sl))), (aSj, .inl (cI, 324, .inl (nF sj))), (aR, .inr (2, [.ref aRb, .ref aRr, .ref aRa])), (aRa, .inl (cI, 9, .inl (nF ra)))]) A) [.ref aS, .int (nI q1), .int (bhN q2), .int (nI q3)].toArray s 0 0 A) (F0 m 20 ls [.int (nI (m_ends ra q1 q2))]) := by
    intro ls hl
    refine lv_istore (lv' := [(4, .int (nI (m_ends ra q1 q2))), (0, .ref aS), (1, .int (nI q1)), (2, .int (bhN q2)), (3, .int (nI q3))]) hx hb dX4_pick_20 hl (by decide) rfl (fun ls hl => ?_)
    refine lv_iconst (v := nI 0) hx hb dX4_pick_22 (by decide) ?_
    refine lv_istore (lv' := [(5, .int (nI 0)), (4, .int (nI (m_ends ra q1 q2))), (0, .ref aS), (1, .int (nI q1)), (2, .int (bhN q2)), (3, .int (nI q3))]) hx hb dX4_pick_23 hl (by decide) rfl (fun ls hl => ?_)
    refine lv_ldc (v := nI 1000000) hx hb hown (hts (.constant RX4 44 (1000000)) mX4_pick_0) dX4_pick_25 ?_
    refine lv_istore (lv' := [(6, .int (nI 1000000)), (5, .int (nI 0)), (4, .int (nI (m_ends ra q1 q2))), (0, .ref aS), (1, .int (nI q1)), (2, .int (bhN q2)), (3, .int (nI q3))]) hx hb dX4_pick_27 hl (by decide) rfl (fun ls hl => ?_)
    refine lv_iconst (v := nI 0) hx hb dX4_pick_29 (by decide) ?_
    refine lv_istore (lv' := [(7, .int (nI 0)), (6, .int (nI 1000000)), (5, .int (nI 0)), (4, .int (nI (m_ends ra q1 q2))), (0, .ref aS), (1, .int (nI q1)), (2, .int (bhN q2)), (3, .int (nI q3))]) hx hb dX4_pick_30 hl (by decide) rfl (fun ls hl => ?_)
    have LP32 : ∀ (n32 : Nat) (i : Nat) (pk : Nat) (pcs : Nat) (nx : Nat), 2 * sn - i < n32 → (i ≤ 2 * sn) → (pk ≤ 17) → (pcs ≤ 1000000) → (nx ≤ 1000000) → ((pk, pcs, nx) = m_pick sl sj (m_ends ra q1 q2) q1 q2 q3 sx i) → ∀ (H : Heap) (locs : List Loc), va_P (dC, dI) vwCl [(aS, .inr (4, [.ref aR, .ref aSj, .ref aSl, .ref aSs, .ref aSo, .int (nI sn), .int (nI st), .int (nI sb), .int (nI nx)])), (aSl, .inl (cI, 9216, .inl (nF sl))), (aSj, .inl (cI, 324, .inl (nF sj))), (aR, .inr (2, [.ref aRb, .ref aRr, .ref aRa])), (aRa, .inl (cI, 9, .inl (nF ra)))] H → va_D A [(aS, .inr (4, [.ref aR, .ref aSj, .ref aSl, .ref aSs, .ref aSo, .int (nI sn), .int (nI st), .int (nI sb), .int (nI nx)])), (aSl, .inl (cI, 9216, .inl (nF sl))), (aSj, .inl (cI, 324, .inl (nF sj))), (aR, .inr (2, [.ref aRb, .ref aRr, .ref aRa])), (aRa, .inl (cI, 9, .inl (nF ra)))] → va_S A s.heap H locs → ∀ (ls : Array Slot), lv_has ls 9 [(0, .ref aS), (1, .int (nI q1)), (2, .int (bhN q2)), (3, .int (nI q3)), (4, .int (nI (m_ends ra q1 q2))), (5, .int (nI pk)), (6, .int (nI pcs)), (7, .int (nI i))] → W p l e { frames := 2, cells := 0, slots := 0, locals := 43 } s m [.ref aS, .int (nI q1), .int (bhN q2), .int (nI q3)].toArray below meth c H locs 0 0 (MQ below (va_Qi (fun (r : Int32) (sxz : (Nat)) => ∃ z pcz, r = nI z ∧ z ≤ 17 ∧ sxz ≤ 1000000 ∧ (z, pcz, sxz) = m_pick sl sj (m_ends ra q1 q2) q1 q2 q3 sx (2 * sn)) (fun (sxz : (Nat)) (t : State) => va_P (dC, dI) vwCl [(aS, .inr (4, [.ref aR, .ref aSj, .ref aSl, .ref aSs, .ref aSo, .int (nI sn), .int (nI st), .int (nI sb), .int (nI sxz)])), (aSl, .inl (cI, 9216, .inl (nF sl))), (aSj, .inl (cI, 324, .inl (nF sj))), (aR, .inr (2, [.ref aRb, .ref aRr, .ref aRa])), (aRa, .inl (cI, 9, .inl (nF ra)))] t.heap ∧ va_D A [(aS, .inr (4, [.ref aR, .ref aSj, .ref aSl, .ref aSs, .ref aSo, .int (nI sn), .int (nI st), .int (nI sb), .int (nI sxz)])), (aSl, .inl (cI, 9216, .inl (nF sl))), (aSj, .inl (cI, 324, .inl (nF sj))), (aR, .inr (2, [.ref aRb, .ref aRr, .ref aRa])), (aRa, .inl (cI, 9, .inl (nF ra)))]) A) [.ref aS, .int (nI q1), .int (bhN q2), .int (nI q3)].toArray s 0 0 A) (F0 m 32 ls []) := by
      intro n32
      induction n32 with
      | zero =>
        intro i pk pcs nx hm
        exact absurd hm (Nat.not_lt_zero _)
      | succ n32 ih32 =>
        intro i pk pcs nx hm32  hi hk17 hpc hnx hq1 H locs hP hD hS ls hl
        refine lv_iload hx hb dX4_pick_32 (lv_at hl 7 rfl) ?_
        refine lv_iconst (v := nI 2) hx hb dX4_pick_34 (by decide) ?_
        refine lv_aload_n hx hb dX4_pick_35 rfl (lv_at hl 0 rfl) ?_
        refine va_get (D := (dC, dI)) (ci := 4) (v := .int (nI sn)) (C := RX4) (T := TX4) (N := 9) hx hb hts mX4_pick_inX4 hown hK hP 0 rfl rfl 5 (by decide) (hts (.fieldLink RX4 40 "LeafOrder$Search" "count" "I") mX4_pick_1) (fun _ h9 => h9) rfl dX4_pick_36 ?_
        refine ln_imul hx hb dX4_pick_39 ?_
        refine ln_icmp_ge (tgt := 129) hx hb dX4_pick_40 (by decide) (by omega) (by omega) (fun c_1 => ?_) (fun c_1 => ?_)
        · refine lv_iload hx hb dX4_pick_129 (lv_at hl 5 rfl) ?_
          exact W.iret (v := (nI pk)) hx hb hr (fun t ht hW => ⟨⟨(nI pk), nx, rfl, ⟨_, _, rfl, hk17, hnx, (by rw [hq1, show i = 2 * sn by omega])⟩, by rw [ht]; exact hP, hD⟩, hS.F ht⟩) hS.2.2 dX4_pick_131
        · refine lv_iload hx hb dX4_pick_43 (lv_at hl 4 rfl) ?_
          refine lv_iload hx hb dX4_pick_45 (lv_at hl 7 rfl) ?_
          refine lv_iconst (v := nI 1) hx hb dX4_pick_47 (by decide) ?_
          refine ln_ishr hx hb dX4_pick_48 (by omega) (by omega) ?_
          refine ln_ishr hx hb dX4_pick_49 (by omega) (by omega) ?_
          refine lv_iconst (v := nI 1) hx hb dX4_pick_50 (by decide) ?_
          refine ln_iand hx hb dX4_pick_51 ?_
          refine ln_if_eq (tgt := 123) hx hb dX4_pick_52 (by decide) (ln_b31 _) (fun c_2 => ?_) (fun c_2 => ?_)
          · refine lv_iinc (v := (nI (i + 1))) (lv' := [(7, .int (nI (i + 1))), (0, .ref aS), (1, .int (nI q1)), (2, .int (bhN q2)), (3, .int (nI q3)), (4, .int (nI (m_ends ra q1 q2))), (5, .int (nI pk)), (6, .int (nI pcs))]) hx hb dX4_pick_123 hl (k := 7) rfl (by first | exact nI_1 _ | rfl) (by decide) rfl (fun ls hl => ?_)
            refine lv_goto (tgt := 32) hx hb dX4_pick_126 (by decide) ?_
            exact ih32 (i + 1) pk pcs nx (by omega)  (by omega) (by omega) (by omega) (by omega) (by rw [m_pick, if_pos c_2]; exact hq1) _ _ hP hD hS ls (lv_sub hl [1, 2, 3, 4, 5, 6, 7, 0] rfl)
          · refine lv_aload_n hx hb dX4_pick_55 rfl (lv_at hl 0 rfl) ?_
            refine va_get (D := (dC, dI)) (ci := 4) (v := .ref aSl) (C := RX4) (T := TX4) (N := 9) hx hb hts mX4_pick_inX4 hown hK hP 0 rfl rfl 2 (by decide) (hts (.fieldLink RX4 15 "LeafOrder$Search" "least" "[I") mX4_pick_3) (fun _ h9 => h9) rfl dX4_pick_56 ?_
            refine lv_iload_n hx hb dX4_pick_59 rfl (lv_at hl 1 rfl) ?_
            refine lv_bipush (v := nI 18) hx hb dX4_pick_60 (by decide) ?_
            refine ln_imul hx hb dX4_pick_62 ?_
            refine lv_iload hx hb dX4_pick_63 (lv_at hl 7 rfl) ?_
            refine ln_iadd hx hb dX4_pick_65 ?_
            refine ln_iald (i := (q1 * 18) + i) hx hb hK hP 1 0 rfl rfl (by omega) (by decide) dX4_pick_66 ?_
            have b_3 := bSl ((q1 * 18) + i)
            refine lv_aload_n hx hb dX4_pick_67 rfl (lv_at hl 0 rfl) ?_
            refine lv_iload hx hb dX4_pick_68 (lv_at hl 7 rfl) ?_
            refine lv_iload_n hx hb dX4_pick_70 rfl (lv_at hl 2 rfl) ?_
            have hPc := hP.sub (ws' := [(aS, .inr (4, [.ref aR, .ref aSj, .ref aSl, .ref aSs, .ref aSo, .int (nI sn), .int (nI st), .int (nI sb), .int (nI nx)])), (aSj, .inl (cI, 324, .inl (nF sj)))]) [0, 2] rfl
            refine vp_callSi (W.runV (As := [.int (nI i), .int (bhN q2)]) (rest := [.int (nI (sl ((q1 * 18) + i)))]) ⟨hx, hb, hml, hown, hts⟩ (k_X4_linkCost l dC dI cI cZ aS aR aSj aSl aSs aSo sn st sb nx sj i q2 bSj (by omega) (by omega)) (cwV 2 hts gX4_pick_X4_linkCost rfl rfl rfl (by decide +kernel) ⟨Nat.le_of_ble_eq_true rfl, Nat.le_of_ble_eq_true rfl⟩) (ln_preV (q0 := 0) (ci := 4) hPc hKK rfl rfl) rfl rfl hl.1 rfl (lv_room (Nat.le_of_ble_eq_true rfl)) dX4_pick_71 ⟨Nat.le_of_ble_eq_true rfl, Nat.le_of_ble_eq_true rfl⟩) (fun r_4 w_5 => ?_)
            subst w_5
            refine ln_iadd hx hb dX4_pick_74 ?_
            have hlk := m_link_le bSj i q2
            refine lv_iload_n hx hb dX4_pick_75 rfl (lv_at hl 3 rfl) ?_
            refine ln_iadd hx hb dX4_pick_76 ?_
            refine lv_istore (lv' := [(8, .int (nI (((sl ((q1 * 18) + i)) + (m_link sj i q2)) + q3))), (0, .ref aS), (1, .int (nI q1)), (2, .int (bhN q2)), (3, .int (nI q3)), (4, .int (nI (m_ends ra q1 q2))), (5, .int (nI pk)), (6, .int (nI pcs)), (7, .int (nI i))]) hx hb dX4_pick_77 hl (by decide) rfl (fun ls hl => ?_)
            refine lv_iload hx hb dX4_pick_79 (lv_at hl 0 rfl) ?_
            refine lv_iload hx hb dX4_pick_81 (lv_at hl 7 rfl) ?_
            refine ln_icmp_ge (tgt := 110) hx hb dX4_pick_83 (by decide) (by omega) (by omega) (fun c_6 => ?_) (fun c_6 => ?_)
            · refine lv_aload_n hx hb dX4_pick_110 rfl (lv_at hl 1 rfl) ?_
              refine lv_aload_n hx hb dX4_pick_111 rfl (lv_at hl 1 rfl) ?_
              refine va_get (D := (dC, dI)) (ci := 4) (v := .int (nI nx)) (C := RX4) (T := TX4) (N := 9) hx hb hts mX4_pick_inX4 hown hK hP 0 rfl rfl 8 (by decide) (hts (.fieldLink RX4 67 "LeafOrder$Search" "nextCost" "I") mX4_pick_4) (fun _ h9 => h9) rfl dX4_pick_112 ?_
              refine lv_iload hx hb dX4_pick_115 (lv_at hl 0 rfl) ?_
              refine ln_mmin (x := nx) (y := ((sl ((q1 * 18) + i)) + (m_link sj i q2)) + q3) hx hb (by rw [hml]; exact hl.1.symm) hown (hts (.methodLink RX4 93 Lib.Math.min.name) mX4_pick_5) (hts (.static Lib.Math.min.name) mX4_pick_6) (hts (.initialized "java/lang/Math") mX4_pick_7) (hts (.code Lib.Math.min.name Lib.Math.min.code 2 (some .int)) mX4_pick_8) (Nat.le_of_ble_eq_true rfl) (Nat.le_of_ble_eq_true rfl) (Nat.zero_le _) (Nat.zero_le _) (by omega) (by omega) dX4_pick_117 ?_
              refine va_put (D := (dC, dI)) (ci := 4) (v := .int (nI (min nx (((sl ((q1 * 18) + i)) + (m_link sj i q2)) + q3)))) (ty := .int) (C := RX4) (T := TX4) (N := 9) hx hb hts mX4_pick_inX4 tyX4 tyX4_ok nmX4 hown hK hP hD hS 0 rfl rfl 8 (by decide) (hts (.fieldLink RX4 67 "LeafOrder$Search" "nextCost" "I") mX4_pick_4) (fun _ h9 => h9) rfl (by decide +kernel) rfl rfl (Nat.le_of_ble_eq_true rfl) dX4_pick_120 (fun H locs hP hD hS => ?_)
              have hP : va_P (dC, dI) vwCl [(aS, .inr (4, [.ref aR, .ref aSj, .ref aSl, .ref aSs, .ref aSo, .int (nI sn), .int (nI st), .int (nI sb), .int (nI (min nx (((sl ((q1 * 18) + i)) + (m_link sj i q2)) + q3)))])), (aSl, .inl (cI, 9216, .inl (nF sl))), (aSj, .inl (cI, 324, .inl (nF sj))), (aR, .inr (2, [.ref aRb, .ref aRr, .ref aRa])), (aRa, .inl (cI, 9, .inl (nF ra)))] H := hP
              have hD : va_D A [(aS, .inr (4, [.ref aR, .ref aSj, .ref aSl, .ref aSs, .ref aSo, .int (nI sn), .int (nI st), .int (nI sb), .int (nI (min nx (((sl ((q1 * 18) + i)) + (m_link sj i q2)) + q3)))])), (aSl, .inl (cI, 9216, .inl (nF sl))), (aSj, .inl (cI, 324, .inl (nF sj))), (aR, .inr (2, [.ref aRb, .ref aRr, .ref aRa])), (aRa, .inl (cI, 9, .inl (nF ra)))] := hD
              refine lv_iinc (v := (nI (i + 1))) (lv' := [(7, .int (nI (i + 1))), (8, .int (nI (((sl ((q1 * 18) + i)) + (m_link sj i q2)) + q3))), (0, .ref aS), (1, .int (nI q1)), (2, .int (bhN q2)), (3, .int (nI q3)), (4, .int (nI (m_ends ra q1 q2))), (5, .int (nI pk)), (6, .int (nI pcs))]) hx hb dX4_pick_123 hl (k := 8) rfl (by first | exact nI_1 _ | rfl) (by decide) rfl (fun ls hl => ?_)
              refine lv_goto (tgt := 32) hx hb dX4_pick_126 (by decide) ?_
              exact ih32 (i + 1) pk pcs (min nx (((sl ((q1 * 18) + i)) + (m_link sj i q2)) + q3)) (by omega)  (by omega) (by omega) (by omega) (by omega) (by rw [m_pick, if_neg c_2, ← hq1, m_pst]; exact (if_neg (Nat.not_lt.mpr c_6)).symm) _ _ hP hD hS ls (lv_sub hl [2, 3, 4, 5, 6, 7, 8, 0] rfl)
            · refine lv_aload_n hx hb dX4_pick_86 rfl (lv_at hl 1 rfl) ?_
              refine lv_aload_n hx hb dX4_pick_87 rfl (lv_at hl 1 rfl) ?_
              refine va_get (D := (dC, dI)) (ci := 4) (v := .int (nI nx)) (C := RX4) (T := TX4) (N := 9) hx hb hts mX4_pick_inX4 hown hK hP 0 rfl rfl 8 (by decide) (hts (.fieldLink RX4 67 "LeafOrder$Search" "nextCost" "I") mX4_pick_4) (fun _ h9 => h9) rfl dX4_pick_88 ?_
              refine lv_iload hx hb dX4_pick_91 (lv_at hl 7 rfl) ?_
              refine ln_mmin (x := nx) (y := pcs) hx hb (by rw [hml]; exact hl.1.symm) hown (hts (.methodLink RX4 93 Lib.Math.min.name) mX4_pick_5) (hts (.static Lib.Math.min.name) mX4_pick_6) (hts (.initialized "java/lang/Math") mX4_pick_7) (hts (.code Lib.Math.min.name Lib.Math.min.code 2 (some .int)) mX4_pick_8) (Nat.le_of_ble_eq_true rfl) (Nat.le_of_ble_eq_true rfl) (Nat.zero_le _) (Nat.zero_le _) (by omega) (by omega) dX4_pick_93 ?_
              refine va_put (D := (dC, dI)) (ci := 4) (v := .int (nI (min nx pcs))) (ty := .int) (C := RX4) (T := TX4) (N := 9) hx hb hts mX4_pick_inX4 tyX4 tyX4_ok nmX4 hown hK hP hD hS 0 rfl rfl 8 (by decide) (hts (.fieldLink RX4 67 "LeafOrder$Search" "nextCost" "I") mX4_pick_4) (fun _ h9 => h9) rfl (by decide +kernel) rfl rfl (Nat.le_of_ble_eq_true rfl) dX4_pick_96 (fun H locs hP hD hS => ?_)
              have hP : va_P (dC, dI) vwCl [(aS, .inr (4, [.ref aR, .ref aSj, .ref aSl, .ref aSs, .ref aSo, .int (nI sn), .int (nI st), .int (nI sb), .int (nI (min nx pcs))])), (aSl, .inl (cI, 9216, .inl (nF sl))), (aSj, .inl (cI, 324, .inl (nF sj))), (aR, .inr (2, [.ref aRb, .ref aRr, .ref aRa])), (aRa, .inl (cI, 9, .inl (nF ra)))] H := hP
              have hD : va_D A [(aS, .inr (4, [.ref aR, .ref aSj, .ref aSl, .ref aSs, .ref aSo, .int (nI sn), .int (nI st), .int (nI sb), .int (nI (min nx pcs))])), (aSl, .inl (cI, 9216, .inl (nF sl))), (aSj, .inl (cI, 324, .inl (nF sj))), (aR, .inr (2, [.ref aRb, .ref aRr, .ref aRa])), (aRa, .inl (cI, 9, .inl (nF ra)))] := hD
              refine lv_iload hx hb dX4_pick_99 (lv_at hl 8 rfl) ?_
              refine lv_istore (lv' := [(5, .int (nI i)), (8, .int (nI (((sl ((q1 * 18) + i)) + (m_link sj i q2)) + q3))), (0, .ref aS), (1, .int (nI q1)), (2, .int (bhN q2)), (3, .int (nI q3)), (4, .int (nI (m_ends ra q1 q2))), (6, .int (nI pcs)), (7, .int (nI i))]) hx hb dX4_pick_101 hl (by decide) rfl (fun ls hl => ?_)
              refine lv_iload hx hb dX4_pick_103 (lv_at hl 1 rfl) ?_
              refine lv_istore (lv' := [(6, .int (nI (((sl ((q1 * 18) + i)) + (m_link sj i q2)) + q3))), (5, .int (nI i)), (8, .int (nI (((sl ((q1 * 18) + i)) + (m_link sj i q2)) + q3))), (0, .ref aS), (1, .int (nI q1)), (2, .int (bhN q2)), (3, .int (nI q3)), (4, .int (nI (m_ends ra q1 q2))), (7, .int (nI i))]) hx hb dX4_pick_105 hl (by decide) rfl (fun ls hl => ?_)
              refine lv_goto (tgt := 123) hx hb dX4_pick_107 (by decide) ?_
              refine lv_iinc (v := (nI (i + 1))) (lv' := [(7, .int (nI (i + 1))), (6, .int (nI (((sl ((q1 * 18) + i)) + (m_link sj i q2)) + q3))), (5, .int (nI i)), (8, .int (nI (((sl ((q1 * 18) + i)) + (m_link sj i q2)) + q3))), (0, .ref aS), (1, .int (nI q1)), (2, .int (bhN q2)), (3, .int (nI q3)), (4, .int (nI (m_ends ra q1 q2)))]) hx hb dX4_pick_123 hl (k := 8) rfl (by first | exact nI_1 _ | rfl) (by decide) rfl (fun ls hl => ?_)
              refine lv_goto (tgt := 32) hx hb dX4_pick_126 (by decide) ?_
              exact ih32 (i + 1) i (((sl ((q1 * 18) + i)) + (m_link sj i q2)) + q3) (min nx pcs) (by omega)  (by omega) (by omega) (by omega) (by omega) (by rw [m_pick, if_neg c_2, ← hq1, m_pst]; exact (if_pos c_6).symm) _ _ hP hD hS ls (lv_sub hl [4, 5, 6, 7, 8, 2, 1, 0] rfl)
    exact LP32 _ 0 0 1000000 sx (Nat.lt_succ_self _)  (Nat.zero_le _) (by decide) (by decide) hsx rfl _ _ hP hD hS ls (lv_sub hl [4, 5, 6, 7, 3, 2, 1, 0] rfl)
  rcases Nat.lt_or_ge q2 18 with hq | hq
  · have hl : lv_has ls 9 [(0, .ref aS), (1, .int (nI q1)), (2, .int (nI q2)), (3, .int (nI q3))] := by rw [bhN_lt hq] at hl; exact hl
    refine lv_iload_n hx hb dX4_pick_0 rfl (lv_at hl 2 rfl) ?_
    refine lv_iconst (v := (-1)) hx hb dX4_pick_1 (by decide) ?_
    refine ln_icmp_neT (tgt := 9) hx hb dX4_pick_2 (by decide) (ln_nm1 (by omega)) ?_
    refine lv_aload_n hx hb dX4_pick_9 rfl (lv_at hl 0 rfl) ?_
    refine va_get (D := (dC, dI)) (ci := 4) (v := .ref aR) (C := RX4) (T := TX4) (N := 9) hx hb hts mX4_pick_inX4 hown hK hP 0 rfl rfl 0 (by decide) (hts (.fieldLink RX4 24 "LeafOrder$Search" "rules" "LLeafOrder$Rules;") mX4_pick_9) (fun _ h9 => h9) rfl dX4_pick_10 ?_
    refine lv_iload_n hx hb dX4_pick_13 rfl (lv_at hl 2 rfl) ?_
    refine lv_iconst (v := nI 1) hx hb dX4_pick_14 (by decide) ?_
    refine ln_ishr hx hb dX4_pick_15 (by omega) (by omega) ?_
    refine lv_iload_n hx hb dX4_pick_16 rfl (lv_at hl 1 rfl) ?_
    have hPc := hP.sub (ws' := [(aR, .inr (2, [.ref aRb, .ref aRr, .ref aRa])), (aRa, .inl (cI, 9, .inl (nF ra)))]) [3, 4] rfl
    refine vp_callSi (W.runV (As := [.int (nI (q2 >>> 1)), .int (nI q1)]) (rest := []) ⟨hx, hb, hml, hown, hts⟩ (k_X2_neighboursOf l dC dI cI cZ aR aRb aRr aRa ra (q2 >>> 1) q1 bRa (by omega) (by omega)) (cwV 2 hts gX4_pick_X2_neighboursOf rfl rfl rfl (by decide +kernel) ⟨Nat.le_of_ble_eq_true rfl, Nat.le_of_ble_eq_true rfl⟩) (ln_preV (q0 := 0) (ci := 2) hPc hKK rfl rfl) rfl rfl hl.1 rfl (lv_room (Nat.le_of_ble_eq_true rfl)) dX4_pick_17 ⟨Nat.le_of_ble_eq_true rfl, Nat.le_of_ble_eq_true rfl⟩) (fun r_7 w_8 => ?_)
    subst w_8
    refine W.eq (g2 := F0 m 20 ls [.int (nI (m_ends ra q1 q2))]) (by unfold m_ends; rw [if_pos hq]) ?_
    exact CUT20 ls (by rw [bhN_lt hq]; exact lv_sub hl [0, 1, 2, 3] rfl)
  · have hl : lv_has ls 9 [(0, .ref aS), (1, .int (nI q1)), (2, .int (-1)), (3, .int (nI q3))] := by rw [show q2 = 18 by omega, bhN_18] at hl; exact hl
    refine lv_iload_n hx hb dX4_pick_0 rfl (lv_at hl 2 rfl) ?_
    refine lv_iconst (v := (-1)) hx hb dX4_pick_1 (by decide) ?_
    refine ln_icmp_neF (tgt := 9) hx hb dX4_pick_2 (by decide) (fun q => q rfl) ?_
    refine lv_iload_n hx hb dX4_pick_5 rfl (lv_at hl 1 rfl) ?_
    refine lv_goto (tgt := 20) hx hb dX4_pick_6 (by decide) ?_
    refine W.eq (g2 := F0 m 20 ls [.int (nI (m_ends ra q1 q2))]) (by unfold m_ends; rw [if_neg (by omega)]) ?_
    exact CUT20 ls (by rw [show q2 = 18 by omega, bhN_18]; exact lv_sub hl [0, 1, 2, 3] rfl)
theorem mX4_trace_0 : Cond.fieldLink RX4 40 "LeafOrder$Search" "count" "I" ∈ wsX4_trace := by decide +kernel
theorem mX4_trace_inX4 : ∀ w ∈ wsX40, w ∈ wsX4_trace := by decide +kernel
theorem mX4_trace_2 : Cond.fieldLink RX4 21 "LeafOrder$Search" "order" "[I" ∈ wsX4_trace := by decide +kernel
theorem mX4_trace_3 : Cond.fieldLink RX4 45 "LeafOrder$Search" "turnCost" "I" ∈ wsX4_trace := by decide +kernel
set_option maxHeartbeats 4000000 in
set_option maxRecDepth 100000 in
theorem k_X4_trace (l : Launch) (dC : Nat → ClassId) (dI : Nat → Nat → Nat) (cI cZ : ClassId) (aS aR aSj aSl aSs aSo aRb aRr aRa : Nat) (sn : Nat) (st : Nat) (sb : Nat) (sx : Nat) (sl : Nat → Nat) (sj : Nat → Nat) (so : Nat → Nat) (ra : Nat → Nat) (sz : Nat) (bSl : ∀ k, sl k ≤ 1000000) (bSj : ∀ k, sj k ≤ 10000) (bSo : ∀ k, so k ≤ 17) (bRa : ∀ k, ra k ≤ 511) (hn : sn ≤ 9) (ht : st ≤ 1000000) (hsx : sx ≤ 1000000) : Met l yX4_trace wsX4_trace { frames := 3, cells := 0, slots := 0, locals := 71 } (va_Pc [.ref aS] (fun U => U.heap.size = sz ∧ va_P (dC, dI) vwCl [(aS, .inr (4, [.ref aR, .ref aSj, .ref aSl, .ref aSs, .ref aSo, .int (nI sn), .int (nI st), .int (nI sb), .int (nI sx)])), (aSl, .inl (cI, 9216, .inl (nF sl))), (aSj, .inl (cI, 324, .inl (nF sj))), (aSo, .inl (cI, 9, .inl (nF so))), (aR, .inr (2, [.ref aRb, .ref aRr, .ref aRa])), (aRa, .inl (cI, 9, .inl (nF ra)))] U.heap ∧ lK dC dI cI cZ U ∧ va_D (fun _ => True) [(aS, .inr (4, [.ref aR, .ref aSj, .ref aSl, .ref aSs, .ref aSo, .int (nI sn), .int (nI st), .int (nI sb), .int (nI sx)])), (aSl, .inl (cI, 9216, .inl (nF sl))), (aSj, .inl (cI, 324, .inl (nF sj))), (aSo, .inl (cI, 9, .inl (nF so))), (aR, .inr (2, [.ref aRb, .ref aRr, .ref aRa])), (aRa, .inl (cI, 9, .inl (nF ra)))])) (va_Qv (fun (u : (Nat → Nat) × (Nat)) => match u with | (soz, sxz) => (∀ k, soz k ≤ 17) ∧ sxz ≤ 1000000 ∧ ∃ a1 a2 a3, (a1, a2, a3, soz, sxz) = m_trace sl sj ra so sn st sx sn) (fun (u : (Nat → Nat) × (Nat)) (t : State) => match u with | (soz, sxz) => va_P (dC, dI) vwCl [(aS, .inr (4, [.ref aR, .ref aSj, .ref aSl, .ref aSs, .ref aSo, .int (nI sn), .int (nI st), .int (nI sb), .int (nI sxz)])), (aSl, .inl (cI, 9216, .inl (nF sl))), (aSj, .inl (cI, 324, .inl (nF sj))), (aSo, .inl (cI, 9, .inl (nF soz))), (aR, .inr (2, [.ref aRb, .ref aRr, .ref aRa])), (aRa, .inl (cI, 9, .inl (nF ra)))] t.heap ∧ va_D (va_A [(aS, .inr (4, [.ref aR, .ref aSj, .ref aSl, .ref aSs, .ref aSo, .int (nI sn), .int (nI st), .int (nI sb), .int (nI sx)])), (aSl, .inl (cI, 9216, .inl (nF sl))), (aSj, .inl (cI, 324, .inl (nF sj))), (aSo, .inl (cI, 9, .inl (nF so))), (aR, .inr (2, [.ref aRb, .ref aRr, .ref aRa])), (aRa, .inl (cI, 9, .inl (nF ra)))] sz) [(aS, .inr (4, [.ref aR, .ref aSj, .ref aSl, .ref aSs, .ref aSo, .int (nI sn), .int (nI st), .int (nI sb), .int (nI sxz)])), (aSl, .inl (cI, 9216, .inl (nF sl))), (aSj, .inl (cI, 324, .inl (nF sj))), (aSo, .inl (cI, 9, .inl (nF soz))), (aR, .inr (2, [.ref aRb, .ref aRr, .ref aRa])), (aRa, .inl (cI, 9, .inl (nF ra)))]) (va_A [(aS, .inr (4, [.ref aR, .ref aSj, .ref aSl, .ref aSs, .ref aSo, .int (nI sn), .int (nI st), .int (nI sb), .int (nI sx)])), (aSl, .inl (cI, 9216, .inl (nF sl))), (aSj, .inl (cI, 324, .inl (nF sj))), (aSo, .inl (cI, 9, .inl (nF so))), (aR, .inr (2, [.ref aRb, .ref aRr, .ref aRa])), (aRa, .inl (cI, 9, .inl (nF ra)))] sz)) 0 0 (va_A [(aS, .inr (4, [.ref aR, .ref aSj, .ref aSl, .ref aSs, .ref aSo, .int (nI sn), .int (nI st), .int (nI sb), .int (nI sx)])), (aSl, .inl (cI, 9216, .inl (nF sl))), (aSj, .inl (cI, 324, .inl (nF sj))), (aSo, .inl (cI, 9, .inl (nF so))), (aR, .inr (2, [.ref aRb, .ref aRr, .ref aRa])), (aRa, .inl (cI, 9, .inl (nF ra)))] sz) := by
  refine Met.ofW (cc := cX4_trace) (maxL := 6) (ret := none) (by decide) rfl ?_
  intro p e s m args below meth c s₁ B hml hv
  obtain ⟨rfl, hsz, hP, hKK, hD0⟩ := hv
  have hK := hKK.1
  have hx := B.exec
  have hb := B.bytes
  have hr := B.returns
  have hts := atoms_spec (ws := wsX4_trace) B.pre
  have hown : s.vm.findClass RX4 = some m.cls := findClass_of_methodNamed B.named
  have hlocks := B.notSynchronized
  subst hsz
  have hD := hD0.self (sz := s.heap.size)
  generalize hAe : va_A [(aS, .inr (4, [.ref aR, .ref aSj, .ref aSl, .ref aSs, .ref aSo, .int (nI sn), .int (nI st), .int (nI sb), .int (nI sx)])), (aSl, .inl (cI, 9216, .inl (nF sl))), (aSj, .inl (cI, 324, .inl (nF sj))), (aSo, .inl (cI, 9, .inl (nF so))), (aR, .inr (2, [.ref aRb, .ref aRr, .ref aRa])), (aRa, .inl (cI, 9, .inl (nF ra)))] s.heap.size = A at hD ⊢
  have hA : ∀ q : Nat, s.heap.size ≤ q → A q := fun q h => by rw [← hAe]; exact Or.inr h
  have hS : va_S A s.heap s.heap [] := va_S.rf
  have hl := lv_entry ([.ref aS]) (n := 6) (Nat.le_of_ble_eq_true rfl)
  rw [lg_entry_eq]
  generalize (lg_sl ([.ref aS]) ++ List.replicate (6 - (lg_sl ([.ref aS])).length) Slot.unset).toArray = ls at hl ⊢
  have hl : lv_has ls 6 [(0, .ref aS)] := hl
  refine lv_aload_n hx hb dX4_trace_0 rfl (lv_at hl 0 rfl) ?_
  have hPc := hP.sub (ws' := [(aS, .inr (4, [.ref aR, .ref aSj, .ref aSl, .ref aSs, .ref aSo, .int (nI sn), .int (nI st), .int (nI sb), .int (nI sx)]))]) [0] rfl
  refine vp_callSi (W.runV (As := []) (rest := []) ⟨hx, hb, hml, hown, hts⟩ (k_X4_all l dC dI cI cZ aS aR aSj aSl aSs aSo sn st sb sx (by omega)) (cwV 0 hts gX4_trace_X4_all rfl rfl rfl (by decide +kernel) ⟨Nat.le_of_ble_eq_true rfl, Nat.le_of_ble_eq_true rfl⟩) (ln_preV (q0 := 0) (ci := 4) hPc hKK rfl rfl) rfl rfl hl.1 rfl (lv_room (Nat.le_of_ble_eq_true rfl)) dX4_trace_1 ⟨Nat.le_of_ble_eq_true rfl, Nat.le_of_ble_eq_true rfl⟩) (fun r_1 w_2 => ?_)
  subst w_2
  refine lv_istore_n (lv' := [(1, .int (nI (2 ^ sn - 1))), (0, .ref aS)]) hx hb dX4_trace_4 rfl hl (by decide) rfl (fun ls hl => ?_)
  refine lv_iconst (v := (-1)) hx hb dX4_trace_5 (by decide) ?_
  refine lv_istore_n (lv' := [(2, .int (-1)), (1, .int (nI (2 ^ sn - 1))), (0, .ref aS)]) hx hb dX4_trace_6 rfl hl (by decide) rfl (fun ls hl => ?_)
  refine lv_iconst (v := nI 0) hx hb dX4_trace_7 (by decide) ?_
  refine lv_istore_n (lv' := [(3, .int (nI 0)), (2, .int (-1)), (1, .int (nI (2 ^ sn - 1))), (0, .ref aS)]) hx hb dX4_trace_8 rfl hl (by decide) rfl (fun ls hl => ?_)
  refine lv_aload_n hx hb dX4_trace_9 rfl (lv_at hl 3 rfl) ?_
  refine va_get (D := (dC, dI)) (ci := 4) (v := .int (nI sn)) (C := RX4) (T := TX4) (N := 9) hx hb hts mX4_trace_inX4 hown hK hP 0 rfl rfl 5 (by decide) (hts (.fieldLink RX4 40 "LeafOrder$Search" "count" "I") mX4_trace_0) (fun _ h9 => h9) rfl dX4_trace_10 ?_
  refine lv_iconst (v := nI 1) hx hb dX4_trace_13 (by decide) ?_
  refine lv_isub hx hb dX4_trace_14 ?_
  refine lv_istore (lv' := [(4, .int (nI sn - nI 1)), (3, .int (nI 0)), (2, .int (-1)), (1, .int (nI (2 ^ sn - 1))), (0, .ref aS)]) hx hb dX4_trace_15 hl (by decide) rfl (fun ls hl => ?_)
  have hl : lv_has ls 6 [(4, .int (nI sn - nI 1)), (3, .int (nI 0)), (2, .int (bhN 18)), (1, .int (nI (2 ^ sn - 1))), (0, .ref aS)] := hl
  have LP17 : ∀ (n17 : Nat) (p' : Nat) (set : Nat) (b : Nat) (tail : Nat) (sov : Nat → Nat) (nx : Nat), p' < n17 → (∀ k, sov k ≤ 17) → (p' ≤ sn) → (set < 512) → (b ≤ 18) → (tail ≤ (sn - p') * 1010000) → (nx ≤ 1000000) → ((set, b, tail, sov, nx) = m_trace sl sj ra so sn st sx (sn - p')) → ∀ (H : Heap) (locs : List Loc), va_P (dC, dI) vwCl [(aS, .inr (4, [.ref aR, .ref aSj, .ref aSl, .ref aSs, .ref aSo, .int (nI sn), .int (nI st), .int (nI sb), .int (nI nx)])), (aSl, .inl (cI, 9216, .inl (nF sl))), (aSj, .inl (cI, 324, .inl (nF sj))), (aSo, .inl (cI, 9, .inl (nF sov))), (aR, .inr (2, [.ref aRb, .ref aRr, .ref aRa])), (aRa, .inl (cI, 9, .inl (nF ra)))] H → va_D A [(aS, .inr (4, [.ref aR, .ref aSj, .ref aSl, .ref aSs, .ref aSo, .int (nI sn), .int (nI st), .int (nI sb), .int (nI nx)])), (aSl, .inl (cI, 9216, .inl (nF sl))), (aSj, .inl (cI, 324, .inl (nF sj))), (aSo, .inl (cI, 9, .inl (nF sov))), (aR, .inr (2, [.ref aRb, .ref aRr, .ref aRa])), (aRa, .inl (cI, 9, .inl (nF ra)))] → va_S A s.heap H locs → ∀ (ls : Array Slot), lv_has ls 6 [(0, .ref aS), (1, .int (nI set)), (2, .int (bhN b)), (3, .int (nI tail)), (4, .int (nI p' - nI 1))] → W p l e { frames := 3, cells := 0, slots := 0, locals := 71 } s m [.ref aS].toArray below meth c H locs 0 0 (MQ below (va_Qv (fun (u : (Nat → Nat) × (Nat)) => match u with | (soz, sxz) => (∀ k, soz k ≤ 17) ∧ sxz ≤ 1000000 ∧ ∃ a1 a2 a3, (a1, a2, a3, soz, sxz) = m_trace sl sj ra so sn st sx sn) (fun (u : (Nat → Nat) × (Nat)) (t : State) => match u with | (soz, sxz) => va_P (dC, dI) vwCl [(aS, .inr (4, [.ref aR, .ref aSj, .ref aSl, .ref aSs, .ref aSo, .int (nI sn), .int (nI st), .int (nI sb), .int (nI sxz)])), (aSl, .inl (cI, 9216, .inl (nF sl))), (aSj, .inl (cI, 324, .inl (nF sj))), (aSo, .inl (cI, 9, .inl (nF soz))), (aR, .inr (2, [.ref aRb, .ref aRr, .ref aRa])), (aRa, .inl (cI, 9, .inl (nF ra)))] t.heap ∧ va_D A [(aS, .inr (4, [.ref aR, .ref aSj, .ref aSl, .ref aSs, .ref aSo, .int (nI sn), .int (nI st), .int (nI sb), .int (nI sxz)])), (aSl, .inl (cI, 9216, .inl (nF sl))), (aSj, .inl (cI, 324, .inl (nF sj))), (aSo, .inl (cI, 9, .inl (nF soz))), (aR, .inr (2, [.ref aRb, .ref aRr, .ref aRa])), (aRa, .inl (cI, 9, .inl (nF ra)))]) A) [.ref aS].toArray s 0 0 A) (F0 m 17 ls []) := by
    intro n17
    induction n17 with
    | zero =>
      intro p' set b tail sov nx hm
      exact absurd hm (Nat.not_lt_zero _)
    | succ n17 ih17 =>
      intro p' set b tail sov nx hm17 bSov hp hset hb18 htl hnx hq1 H locs hP hD hS ls hl
      refine lv_iload hx hb dX4_trace_17 (lv_at hl 4 rfl) ?_
      refine lv_if_lt (tgt := 80) hx hb dX4_trace_19 (by decide) (fun c_3 => ?_) (fun c_3 => ?_)
      · have hp0 : p' = 0 := pl_neg (by omega) c_3
        exact W.vret hx hb hr (fun t ht hW => ⟨⟨(sov, nx), rfl, ⟨bSov, hnx, _, _, _, (by rw [hq1, show sn - p' = sn by omega])⟩, by rw [ht]; exact hP, hD⟩, hS.F ht⟩) hS.2.2 dX4_trace_80
      · have hp1 : 1 ≤ p' := pl_pos c_3
        obtain ⟨pp, rfl⟩ : ∃ pp, p' = pp + 1 := ⟨p' - 1, by omega⟩
        have hl : lv_has ls 6 [(0, .ref aS), (1, .int (nI set)), (2, .int (bhN b)), (3, .int (nI tail)), (4, .int (nI pp))] := by rw [show nI (pp + 1) - nI 1 = nI pp from by rw [pk_sub (by omega)]; rfl] at hl; exact hl
        refine lv_aload_n hx hb dX4_trace_22 rfl (lv_at hl 0 rfl) ?_
        refine lv_iload_n hx hb dX4_trace_23 rfl (lv_at hl 1 rfl) ?_
        refine lv_iload_n hx hb dX4_trace_24 rfl (lv_at hl 2 rfl) ?_
        refine lv_iload_n hx hb dX4_trace_25 rfl (lv_at hl 3 rfl) ?_
        have hPc := hP.sub (ws' := [(aS, .inr (4, [.ref aR, .ref aSj, .ref aSl, .ref aSs, .ref aSo, .int (nI sn), .int (nI st), .int (nI sb), .int (nI nx)])), (aSl, .inl (cI, 9216, .inl (nF sl))), (aSj, .inl (cI, 324, .inl (nF sj))), (aR, .inr (2, [.ref aRb, .ref aRr, .ref aRa])), (aRa, .inl (cI, 9, .inl (nF ra)))]) [0, 1, 2, 4, 5] rfl
        have hDc := hD.sub (ws' := [(aS, .inr (4, [.ref aR, .ref aSj, .ref aSl, .ref aSs, .ref aSo, .int (nI sn), .int (nI st), .int (nI sb), .int (nI nx)])), (aSl, .inl (cI, 9216, .inl (nF sl))), (aSj, .inl (cI, 324, .inl (nF sj))), (aR, .inr (2, [.ref aRb, .ref aRr, .ref aRa])), (aRa, .inl (cI, 9, .inl (nF ra)))]) [0, 1, 2, 4, 5] (by decide) rfl
        have hFc := va_free (wc := [(aS, .inr (4, [.ref aR, .ref aSj, .ref aSl, .ref aSs, .ref aSo, .int (nI sn), .int (nI st), .int (nI sb), .int (nI nx)])), (aSl, .inl (cI, 9216, .inl (nF sl))), (aSj, .inl (cI, 324, .inl (nF sj))), (aR, .inr (2, [.ref aRb, .ref aRr, .ref aRa])), (aRa, .inl (cI, 9, .inl (nF ra)))]) hD hS hA [0, 1, 2, 4, 5] rfl
        refine va_calli (va_runV (As := [.int (nI set), .int (bhN b), .int (nI tail)]) (rest := []) ⟨hx, hb, hml, hown, hts⟩ (k_X4_pick l dC dI cI cZ aS aR aSj aSl aSs aSo aRb aRr aRa sn st sb nx sl sj ra set b tail H.size bSl bSj bRa (by omega) (by omega) (by omega) (by omega) (by omega)) (cwV 3 hts gX4_trace_X4_pick rfl rfl rfl (by decide +kernel) ⟨Nat.le_of_ble_eq_true rfl, Nat.le_of_ble_eq_true rfl⟩) (ln_preVM (q0 := 0) (ci := 4) hPc hKK hDc rfl rfl) rfl rfl hl.1 rfl (lv_room (Nat.le_of_ble_eq_true rfl)) dX4_trace_26 ⟨Nat.le_of_ble_eq_true rfl, Nat.le_of_ble_eq_true rfl⟩) hS (fun q _ h => hFc q h) hFc (fun r_4 u t H1 locs ht hvm w_5 hB hzH hkH hS => ?_)
        obtain ⟨sxz_6, rfl⟩ : ∃ z, z = u := ⟨_, rfl⟩
        obtain ⟨hP1, hD1⟩ := hB
        rw [ht] at hP1
        try dsimp only at w_5
        obtain ⟨hP, hD⟩ := va_join (wr := [(aSo, .inl (cI, 9, .inl (nF sov)))]) (w1 := [(aS, .inr (4, [.ref aR, .ref aSj, .ref aSl, .ref aSs, .ref aSo, .int (nI sn), .int (nI st), .int (nI sb), .int (nI sxz_6)])), (aSl, .inl (cI, 9216, .inl (nF sl))), (aSj, .inl (cI, 324, .inl (nF sj))), (aR, .inr (2, [.ref aRb, .ref aRr, .ref aRa])), (aRa, .inl (cI, 9, .inl (nF ra)))]) hP hD [0, 1, 2, 4, 5] [3] rfl rfl (by decide) (by decide) hkH hFc hP1 hD1
        generalize H1 = H at hP hS ⊢
        have hP := hP.sub (ws' := [(aS, .inr (4, [.ref aR, .ref aSj, .ref aSl, .ref aSs, .ref aSo, .int (nI sn), .int (nI st), .int (nI sb), .int (nI sxz_6)])), (aSl, .inl (cI, 9216, .inl (nF sl))), (aSj, .inl (cI, 324, .inl (nF sj))), (aSo, .inl (cI, 9, .inl (nF sov))), (aR, .inr (2, [.ref aRb, .ref aRr, .ref aRa])), (aRa, .inl (cI, 9, .inl (nF ra)))]) [1, 2, 3, 0, 4, 5] rfl
        have hD := hD.sub (ws' := [(aS, .inr (4, [.ref aR, .ref aSj, .ref aSl, .ref aSs, .ref aSo, .int (nI sn), .int (nI st), .int (nI sb), .int (nI sxz_6)])), (aSl, .inl (cI, 9216, .inl (nF sl))), (aSj, .inl (cI, 324, .inl (nF sj))), (aSo, .inl (cI, 9, .inl (nF sov))), (aR, .inr (2, [.ref aRb, .ref aRr, .ref aRa])), (aRa, .inl (cI, 9, .inl (nF ra)))]) [1, 2, 3, 0, 4, 5] (by decide) rfl
        obtain ⟨z, pcz, rfl, hz17, hzx, hz⟩ := w_5
        refine lv_istore (lv' := [(5, .int (nI z)), (0, .ref aS), (1, .int (nI set)), (2, .int (bhN b)), (3, .int (nI tail)), (4, .int (nI pp))]) hx hb dX4_trace_29 hl (by decide) rfl (fun ls hl => ?_)
        refine lv_aload_n hx hb dX4_trace_31 rfl (lv_at hl 1 rfl) ?_
        refine va_get (D := (dC, dI)) (ci := 4) (v := .ref aSo) (C := RX4) (T := TX4) (N := 9) hx hb hts mX4_trace_inX4 hown hK hP 0 rfl rfl 4 (by decide) (hts (.fieldLink RX4 21 "LeafOrder$Search" "order" "[I") mX4_trace_2) (fun _ h9 => h9) rfl dX4_trace_32 ?_
        refine lv_iload hx hb dX4_trace_35 (lv_at hl 5 rfl) ?_
        refine lv_iload hx hb dX4_trace_37 (lv_at hl 0 rfl) ?_
        refine ln_iast (i := pp) hx hb hK hP hD hS 3 0 rfl rfl (by omega) (by decide) dX4_trace_39 (fun H locs hP hD hS => ?_)
        have b_7 : ∀ k, (upN sov pp z) k ≤ 17 := upN_le bSov (by omega)
        have hP : va_P (dC, dI) vwCl [(aS, .inr (4, [.ref aR, .ref aSj, .ref aSl, .ref aSs, .ref aSo, .int (nI sn), .int (nI st), .int (nI sb), .int (nI sxz_6)])), (aSl, .inl (cI, 9216, .inl (nF sl))), (aSj, .inl (cI, 324, .inl (nF sj))), (aSo, .inl (cI, 9, .inl (nF (upN sov pp z)))), (aR, .inr (2, [.ref aRb, .ref aRr, .ref aRa])), (aRa, .inl (cI, 9, .inl (nF ra)))] H := hP
        have hD : va_D A [(aS, .inr (4, [.ref aR, .ref aSj, .ref aSl, .ref aSs, .ref aSo, .int (nI sn), .int (nI st), .int (nI sb), .int (nI sxz_6)])), (aSl, .inl (cI, 9216, .inl (nF sl))), (aSj, .inl (cI, 324, .inl (nF sj))), (aSo, .inl (cI, 9, .inl (nF (upN sov pp z)))), (aR, .inr (2, [.ref aRb, .ref aRr, .ref aRa])), (aRa, .inl (cI, 9, .inl (nF ra)))] := hD
        refine lv_iload_n hx hb dX4_trace_40 rfl (lv_at hl 4 rfl) ?_
        refine lv_aload_n hx hb dX4_trace_41 rfl (lv_at hl 1 rfl) ?_
        refine lv_iload hx hb dX4_trace_42 (lv_at hl 0 rfl) ?_
        refine lv_iload_n hx hb dX4_trace_44 rfl (lv_at hl 3 rfl) ?_
        have hPc := hP.sub (ws' := [(aS, .inr (4, [.ref aR, .ref aSj, .ref aSl, .ref aSs, .ref aSo, .int (nI sn), .int (nI st), .int (nI sb), .int (nI sxz_6)])), (aSj, .inl (cI, 324, .inl (nF sj)))]) [0, 2] rfl
        refine vp_callSi (W.runV (As := [.int (nI z), .int (bhN b)]) (rest := [.int (nI tail)]) ⟨hx, hb, hml, hown, hts⟩ (k_X4_linkCost l dC dI cI cZ aS aR aSj aSl aSs aSo sn st sb sxz_6 sj z b bSj (by omega) (by omega)) (cwV 2 hts gX4_trace_X4_linkCost rfl rfl rfl (by decide +kernel) ⟨Nat.le_of_ble_eq_true rfl, Nat.le_of_ble_eq_true rfl⟩) (ln_preV (q0 := 0) (ci := 4) hPc hKK rfl rfl) rfl rfl hl.1 rfl (lv_room (Nat.le_of_ble_eq_true rfl)) dX4_trace_45 ⟨Nat.le_of_ble_eq_true rfl, Nat.le_of_ble_eq_true rfl⟩) (fun r_8 w_9 => ?_)
        subst w_9
        refine lv_iload hx hb dX4_trace_48 (lv_at hl 0 rfl) ?_
        refine lv_iconst (v := nI 1) hx hb dX4_trace_50 (by decide) ?_
        refine ln_iand hx hb dX4_trace_51 ?_
        refine lv_aload_n hx hb dX4_trace_52 rfl (lv_at hl 1 rfl) ?_
        refine va_get (D := (dC, dI)) (ci := 4) (v := .int (nI st)) (C := RX4) (T := TX4) (N := 9) hx hb hts mX4_trace_inX4 hown hK hP 0 rfl rfl 6 (by decide) (hts (.fieldLink RX4 45 "LeafOrder$Search" "turnCost" "I") mX4_trace_3) (fun _ h9 => h9) rfl dX4_trace_53 ?_
        refine ln_imul hx hb dX4_trace_56 ?_
        refine ln_iadd hx hb dX4_trace_57 ?_
        refine ln_iadd hx hb dX4_trace_58 ?_
        refine lv_istore_n (lv' := [(3, .int (nI (tail + ((m_link sj z b) + ((z &&& 1) * st))))), (5, .int (nI z)), (0, .ref aS), (1, .int (nI set)), (2, .int (bhN b)), (4, .int (nI pp))]) hx hb dX4_trace_59 rfl hl (by decide) rfl (fun ls hl => ?_)
        refine lv_iload_n hx hb dX4_trace_60 rfl (lv_at hl 3 rfl) ?_
        refine lv_iconst (v := nI 1) hx hb dX4_trace_61 (by decide) ?_
        refine lv_iload hx hb dX4_trace_62 (lv_at hl 1 rfl) ?_
        refine lv_iconst (v := nI 1) hx hb dX4_trace_64 (by decide) ?_
        refine ln_ishr hx hb dX4_trace_65 (by omega) (by omega) ?_
        refine ln_ishl1 hx hb dX4_trace_66 (by omega) ?_
        refine lv_iconst (v := (-1)) hx hb dX4_trace_67 (by decide) ?_
        refine lv_ixor hx hb dX4_trace_68 ?_
        refine ln_iclr hx hb dX4_trace_69 ?_
        refine lv_istore_n (lv' := [(1, .int (nI (nclr set (2 ^ (z >>> 1))))), (3, .int (nI (tail + ((m_link sj z b) + ((z &&& 1) * st))))), (5, .int (nI z)), (0, .ref aS), (2, .int (bhN b)), (4, .int (nI pp))]) hx hb dX4_trace_70 rfl hl (by decide) rfl (fun ls hl => ?_)
        refine lv_iload hx hb dX4_trace_71 (lv_at hl 2 rfl) ?_
        refine lv_istore_n (lv' := [(2, .int (nI z)), (1, .int (nI (nclr set (2 ^ (z >>> 1))))), (3, .int (nI (tail + ((m_link sj z b) + ((z &&& 1) * st))))), (5, .int (nI z)), (0, .ref aS), (4, .int (nI pp))]) hx hb dX4_trace_73 rfl hl (by decide) rfl (fun ls hl => ?_)
        have hl : lv_has ls 6 [(2, .int (bhN z)), (1, .int (nI (nclr set (2 ^ (z >>> 1))))), (3, .int (nI (tail + ((m_link sj z b) + ((z &&& 1) * st))))), (5, .int (nI z)), (0, .ref aS), (4, .int (nI pp))] := by rw [bhN_lt (show z < 18 by omega)]; exact hl
        have hlk := m_link_le bSj z b
        have hz1 : (z &&& 1) * st ≤ 1000000 := Nat.le_trans (Nat.mul_le_mul_right _ (show z &&& 1 ≤ 1 by rw [Nat.and_one_is_mod]; omega)) (by omega)
        have hcl := nclr_le set (2 ^ (z >>> 1))
        have hk9 : sn - pp = (sn - (pp + 1)) + 1 := by omega
        refine lv_iinc (v := (nI pp - nI 1)) (lv' := [(4, .int (nI pp - nI 1)), (2, .int (bhN z)), (1, .int (nI (nclr set (2 ^ (z >>> 1))))), (3, .int (nI (tail + ((m_link sj z b) + ((z &&& 1) * st))))), (5, .int (nI z)), (0, .ref aS)]) hx hb dX4_trace_74 hl (k := 5) rfl (pl_dec _) (by decide) rfl (fun ls hl => ?_)
        refine lv_goto (tgt := 17) hx hb dX4_trace_77 (by decide) ?_
        exact ih17 pp (nclr set (2 ^ (z >>> 1))) z (tail + ((m_link sj z b) + ((z &&& 1) * st))) (upN sov pp z) sxz_6 (by omega) b_7 (by omega) (by omega) (by omega) (by rw [hk9, Nat.succ_mul]; omega) hzx (by rw [hk9, m_trace, ← hq1]; unfold m_tst m_tz; dsimp only; rw [← hz, show sn - 1 - (sn - (pp + 1)) = pp by omega]) _ _ hP hD hS ls (lv_sub hl [5, 2, 1, 3, 0] rfl)
  exact LP17 _ sn (2 ^ sn - 1) 18 0 so sx (Nat.lt_succ_self _) bSo (Nat.le_refl _) (by have := ln_p9 hn; omega) (Nat.le_refl _) (Nat.zero_le _) hsx (by rw [Nat.sub_self]; rfl) _ _ hP hD hS ls (lv_sub hl [4, 3, 2, 1, 0] rfl)
