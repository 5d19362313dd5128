theorem mX1_stainsApart_0 : Cond.fieldLink RX1 27 "LeafOrder$Leaves" "stains" "[I" ∈ wsX1_stainsApart := by decide +kernel
theorem mX1_stainsApart_inX1 : ∀ w ∈ wsX10, w ∈ wsX1_stainsApart := by decide +kernel
theorem mX1_stainsApart_2 : Cond.methodLink RX1 42 Lib.Math.abs.name ∈ wsX1_stainsApart := by decide +kernel
theorem mX1_stainsApart_3 : Cond.static Lib.Math.abs.name ∈ wsX1_stainsApart := by decide +kernel
theorem mX1_stainsApart_4 : Cond.initialized "java/lang/Math" ∈ wsX1_stainsApart := by decide +kernel
theorem mX1_stainsApart_5 : Cond.code Lib.Math.abs.name Lib.Math.abs.code 1 (some .int) ∈ wsX1_stainsApart := by decide +kernel
set_option maxHeartbeats 4000000 in
set_option maxRecDepth 100000 in
theorem k_X1_stainsApart (l : Launch) (dC : Nat → ClassId) (dI : Nat → Nat → Nat) (cI cZ : ClassId) (aL aLb aLe aLw aLc aLd aLs : Nat) (nL : Nat) (fs : Nat → Nat) (q1 : Nat) (q2 : Nat) (bLs : ∀ k, fs k ≤ 99) (h1 : q1 < 9) (h2 : q2 < 9) : Met l yX1_stainsApart wsX1_stainsApart { frames := 1, cells := 0, slots := 0, locals := 21 } (va_Pc [.ref aL, .int (nI q1), .int (nI q2)] (fun U => va_P (dC, dI) vwCl [(aL, .inr (1, [.int (nI nL), .ref aLb, .ref aLe, .ref aLw, .ref aLc, .ref aLd, .ref aLs])), (aLs, .inl (cI, 27, .inl (nF fs)))] U.heap ∧ lK dC dI cI cZ U)) (vp_Si (fun r => r = (nI (m_sap fs q1 q2 3)))) 0 0 (fun _ => False) := by
  refine Met.ofW (cc := cX1_stainsApart) (maxL := 5) (ret := (some .int)) (by decide) rfl ?_
  intro p e s m args below meth c s₁ B hml hv
  obtain ⟨rfl, hP, hKK⟩ := hv
  have hK := hKK.1
  have hx := B.exec
  have hb := B.bytes
  have hr := B.returns
  have hts := atoms_spec (ws := wsX1_stainsApart) B.pre
  have hown : s.vm.findClass RX1 = some m.cls := findClass_of_methodNamed B.named
  have hlocks := B.notSynchronized
  have hl := lv_entry ([.ref aL, .int (nI q1), .int (nI q2)]) (n := 5) (Nat.le_of_ble_eq_true rfl)
  rw [lg_entry_eq]
  generalize (lg_sl ([.ref aL, .int (nI q1), .int (nI q2)]) ++ List.replicate (5 - (lg_sl ([.ref aL, .int (nI q1), .int (nI q2)])).length) Slot.unset).toArray = ls at hl ⊢
  have hl : lv_has ls 5 [(0, .ref aL), (1, .int (nI q1)), (2, .int (nI q2))] := hl
  refine lv_iconst (v := nI 0) hx hb dX1_stainsApart_0 (by decide) ?_
  refine lv_istore_n (lv' := [(3, .int (nI 0)), (0, .ref aL), (1, .int (nI q1)), (2, .int (nI q2))]) hx hb dX1_stainsApart_1 rfl hl (by decide) rfl (fun ls hl => ?_)
  refine lv_iconst (v := nI 0) hx hb dX1_stainsApart_2 (by decide) ?_
  refine lv_istore (lv' := [(4, .int (nI 0)), (3, .int (nI 0)), (0, .ref aL), (1, .int (nI q1)), (2, .int (nI q2))]) hx hb dX1_stainsApart_3 hl (by decide) rfl (fun ls hl => ?_)
  have LP5 : ∀ (n5 : Nat) (i : Nat) (acc : Nat), 3 - i < n5 → (i ≤ 3) → (acc = m_sap fs q1 q2 i) → ∀ (ls : Array Slot), lv_has ls 5 [(0, .ref aL), (1, .int (nI q1)), (2, .int (nI q2)), (3, .int (nI acc)), (4, .int (nI i))] → W p l e { frames := 1, cells := 0, slots := 0, locals := 21 } s m [.ref aL, .int (nI q1), .int (nI q2)].toArray below meth c s.heap [] 0 0 (MQ below (vp_Si (fun r => r = (nI (m_sap fs q1 q2 3)))) [.ref aL, .int (nI q1), .int (nI q2)].toArray s 0 0 (fun _ => False)) (F0 m 5 ls []) := by
    intro n5
    induction n5 with
    | zero =>
      intro i acc hm
      exact absurd hm (Nat.not_lt_zero _)
    | succ n5 ih5 =>
      intro i acc hm5  hi hacc ls hl
      refine lv_iload hx hb dX1_stainsApart_5 (lv_at hl 4 rfl) ?_
      refine lv_iconst (v := nI 3) hx hb dX1_stainsApart_7 (by decide) ?_
      refine ln_icmp_ge (tgt := 46) hx hb dX1_stainsApart_8 (by decide) (by omega) (by decide) (fun c_1 => ?_) (fun c_1 => ?_)
      · refine lv_iload_n hx hb dX1_stainsApart_46 rfl (lv_at hl 3 rfl) ?_
        exact W.iret (v := (nI acc)) hx hb hr (fun t ht hW => ⟨(nI acc), rfl, (by rw [hacc, show i = 3 by omega]), ht⟩) (fun _ h => by cases h) dX1_stainsApart_47
      · refine lv_iload_n hx hb dX1_stainsApart_11 rfl (lv_at hl 3 rfl) ?_
        refine lv_aload_n hx hb dX1_stainsApart_12 rfl (lv_at hl 0 rfl) ?_
        refine va_get (D := (dC, dI)) (ci := 1) (v := .ref aLs) (C := RX1) (T := TX1) (N := 7) hx hb hts mX1_stainsApart_inX1 hown hK hP 0 rfl rfl 6 (by decide) (hts (.fieldLink RX1 27 "LeafOrder$Leaves" "stains" "[I") mX1_stainsApart_0) (fun _ h9 => h9) rfl dX1_stainsApart_13 ?_
        refine lv_iconst (v := nI 3) hx hb dX1_stainsApart_16 (by decide) ?_
        refine lv_iload_n hx hb dX1_stainsApart_17 rfl (lv_at hl 1 rfl) ?_
        refine ln_imul hx hb dX1_stainsApart_18 ?_
        refine lv_iload hx hb dX1_stainsApart_19 (lv_at hl 4 rfl) ?_
        refine ln_iadd hx hb dX1_stainsApart_21 ?_
        refine ln_iald (i := (3 * q1) + i) hx hb hK hP 1 0 rfl rfl (by omega) (by decide) dX1_stainsApart_22 ?_
        have b_2 := bLs ((3 * q1) + i)
        refine lv_aload_n hx hb dX1_stainsApart_23 rfl (lv_at hl 0 rfl) ?_
        refine va_get (D := (dC, dI)) (ci := 1) (v := .ref aLs) (C := RX1) (T := TX1) (N := 7) hx hb hts mX1_stainsApart_inX1 hown hK hP 0 rfl rfl 6 (by decide) (hts (.fieldLink RX1 27 "LeafOrder$Leaves" "stains" "[I") mX1_stainsApart_0) (fun _ h9 => h9) rfl dX1_stainsApart_24 ?_
        refine lv_iconst (v := nI 3) hx hb dX1_stainsApart_27 (by decide) ?_
        refine lv_iload_n hx hb dX1_stainsApart_28 rfl (lv_at hl 2 rfl) ?_
        refine ln_imul hx hb dX1_stainsApart_29 ?_
        refine lv_iload hx hb dX1_stainsApart_30 (lv_at hl 4 rfl) ?_
        refine ln_iadd hx hb dX1_stainsApart_32 ?_
        refine ln_iald (i := (3 * q2) + i) hx hb hK hP 1 0 rfl rfl (by omega) (by decide) dX1_stainsApart_33 ?_
        have b_3 := bLs ((3 * q2) + i)
        refine lv_isub hx hb dX1_stainsApart_34 ?_
        refine ln_mabs (x := fs ((3 * q1) + i)) (y := fs ((3 * q2) + i)) hx hb (by rw [hml]; exact hl.1.symm) hown (hts (.methodLink RX1 42 Lib.Math.abs.name) mX1_stainsApart_2) (hts (.static Lib.Math.abs.name) mX1_stainsApart_3) (hts (.initialized "java/lang/Math") mX1_stainsApart_4) (hts (.code Lib.Math.abs.name Lib.Math.abs.code 1 (some .int)) mX1_stainsApart_5) (Nat.le_of_ble_eq_true rfl) (Nat.le_of_ble_eq_true rfl) (Nat.zero_le _) (Nat.zero_le _) (by omega) (by omega) dX1_stainsApart_35 ?_
        refine ln_iadd hx hb dX1_stainsApart_38 ?_
        refine lv_istore_n (lv' := [(3, .int (nI (acc + (m_dist (fs ((3 * q1) + i)) (fs ((3 * q2) + i)))))), (0, .ref aL), (1, .int (nI q1)), (2, .int (nI q2)), (4, .int (nI i))]) hx hb dX1_stainsApart_39 rfl hl (by decide) rfl (fun ls hl => ?_)
        refine lv_iinc (v := (nI (i + 1))) (lv' := [(4, .int (nI (i + 1))), (3, .int (nI (acc + (m_dist (fs ((3 * q1) + i)) (fs ((3 * q2) + i)))))), (0, .ref aL), (1, .int (nI q1)), (2, .int (nI q2))]) hx hb dX1_stainsApart_40 hl (k := 4) rfl (by first | exact nI_1 _ | rfl) (by decide) rfl (fun ls hl => ?_)
        refine lv_goto (tgt := 5) hx hb dX1_stainsApart_43 (by decide) ?_
        exact ih5 (i + 1) (acc + (m_dist (fs ((3 * q1) + i)) (fs ((3 * q2) + i)))) (by omega)  (by omega) (by rw [m_sap, hacc]) ls (lv_sub hl [2, 3, 4, 1, 0] rfl)
  exact LP5 _ 0 0 (Nat.lt_succ_self _)  (by decide) rfl ls (lv_sub hl [2, 3, 4, 1, 0] rfl)
theorem mX3_fullCost_0 : Cond.fieldLink RX3 15 "LeafOrder$Scale" "pile" "LLeafOrder$Leaves;" ∈ wsX3_fullCost := by decide +kernel
theorem mX3_fullCost_inX3 : ∀ w ∈ wsX30, w ∈ wsX3_fullCost := by decide +kernel
theorem mX3_fullCost_2 : Cond.fieldLink RX3 27 "LeafOrder$Leaves" "begins" "[I" ∈ wsX3_fullCost := by decide +kernel
theorem mX3_fullCost_inX1 : ∀ w ∈ wsX10, w ∈ wsX3_fullCost := by decide +kernel
theorem mX3_fullCost_4 : Cond.fieldLink RX3 32 "LeafOrder$Leaves" "words" "[I" ∈ wsX3_fullCost := by decide +kernel
theorem mX3_fullCost_5 : Cond.fieldLink RX3 9 "LeafOrder$Scale" "sizes" "[I" ∈ wsX3_fullCost := by decide +kernel
theorem mX3_fullCost_6 : Cond.fieldLink RX3 35 "LeafOrder$Leaves" "ends" "[I" ∈ wsX3_fullCost := by decide +kernel
theorem mX3_fullCost_7 : Cond.methodLink RX3 38 Lib.Math.abs.name ∈ wsX3_fullCost := by decide +kernel
theorem mX3_fullCost_8 : Cond.static Lib.Math.abs.name ∈ wsX3_fullCost := by decide +kernel
theorem mX3_fullCost_9 : Cond.initialized "java/lang/Math" ∈ wsX3_fullCost := by decide +kernel
theorem mX3_fullCost_10 : Cond.code Lib.Math.abs.name Lib.Math.abs.code 1 (some .int) ∈ wsX3_fullCost := by decide +kernel
theorem mX3_fullCost_11 : Cond.fieldLink RX3 44 "LeafOrder$Leaves" "cutEnds" "[I" ∈ wsX3_fullCost := by decide +kernel
theorem mX3_fullCost_12 : Cond.fieldLink RX3 47 "LeafOrder$Leaves" "cutBegins" "[I" ∈ wsX3_fullCost := by decide +kernel
set_option maxHeartbeats 4000000 in
set_option maxRecDepth 100000 in
theorem k_X3_fullCost (l : Launch) (dC : Nat → ClassId) (dI : Nat → Nat → Nat) (cI cZ : ClassId) (aC aL aCz aLb aLe aLw aLc aLd aLs : Nat) (fz : Nat → Nat) (nL : Nat) (fb : Nat → Nat) (fe : Nat → Nat) (fw : Nat → Int32) (fc : Nat → Nat) (fd : Nat → Nat) (fs : Nat → Nat) (q1 : Nat) (q2 : Nat) (bCz : ∀ k, fz k ≤ 999) (bLb : ∀ k, fb k ≤ 99) (bLe : ∀ k, fe k ≤ 99) (bLc : ∀ k, fc k ≤ 99) (bLd : ∀ k, fd k ≤ 99) (bLs : ∀ k, fs k ≤ 99) (h1 : q1 < 18) (h2 : q2 < 18) : Met l yX3_fullCost wsX3_fullCost { frames := 2, cells := 0, slots := 0, locals := 45 } (va_Pc [.ref aC, .int (nI q1), .int (nI q2)] (fun U => va_P (dC, dI) vwCl [(aC, .inr (3, [.ref aL, .ref aCz])), (aCz, .inl (cI, 6, .inl (nF fz))), (aL, .inr (1, [.int (nI nL), .ref aLb, .ref aLe, .ref aLw, .ref aLc, .ref aLd, .ref aLs])), (aLb, .inl (cI, 18, .inl (nF fb))), (aLe, .inl (cI, 18, .inl (nF fe))), (aLw, .inl (cI, 18, .inl fw)), (aLc, .inl (cI, 18, .inl (nF fc))), (aLd, .inl (cI, 18, .inl (nF fd))), (aLs, .inl (cI, 27, .inl (nF fs)))] U.heap ∧ lK dC dI cI cZ U)) (vp_Si (fun r => r = (nI (m_full fb fe fw fc fd fs fz q1 q2)))) 0 0 (fun _ => False) := by
  refine Met.ofW (cc := cX3_fullCost) (maxL := 8) (ret := (some .int)) (by decide) rfl ?_
  intro p e s m args below meth c s₁ B hml hv
  obtain ⟨rfl, hP, hKK⟩ := hv
  have hK := hKK.1
  have hx := B.exec
  have hb := B.bytes
  have hr := B.returns
  have hts := atoms_spec (ws := wsX3_fullCost) B.pre
  have hown : s.vm.findClass RX3 = some m.cls := findClass_of_methodNamed B.named
  have hlocks := B.notSynchronized
  have hl := lv_entry ([.ref aC, .int (nI q1), .int (nI q2)]) (n := 8) (Nat.le_of_ble_eq_true rfl)
  rw [lg_entry_eq]
  generalize (lg_sl ([.ref aC, .int (nI q1), .int (nI q2)]) ++ List.replicate (8 - (lg_sl ([.ref aC, .int (nI q1), .int (nI q2)])).length) Slot.unset).toArray = ls at hl ⊢
  have hl : lv_has ls 8 [(0, .ref aC), (1, .int (nI q1)), (2, .int (nI q2))] := hl
  have hx1 : q1 ^^^ 1 < 18 := xor1_lt h1
  refine lv_iload_n hx hb dX3_fullCost_0 rfl (lv_at hl 1 rfl) ?_
  refine lv_iconst (v := nI 1) hx hb dX3_fullCost_1 (by decide) ?_
  refine ln_ixor hx hb dX3_fullCost_2 ?_
  refine lv_istore_n (lv' := [(3, .int (nI (q1 ^^^ 1))), (0, .ref aC), (1, .int (nI q1)), (2, .int (nI q2))]) hx hb dX3_fullCost_3 rfl hl (by decide) rfl (fun ls hl => ?_)
  refine lv_iload_n hx hb dX3_fullCost_4 rfl (lv_at hl 3 rfl) ?_
  refine lv_istore (lv' := [(4, .int (nI q2)), (3, .int (nI (q1 ^^^ 1))), (0, .ref aC), (1, .int (nI q1)), (2, .int (nI q2))]) hx hb dX3_fullCost_5 hl (by decide) rfl (fun ls hl => ?_)
  refine lv_aload_n hx hb dX3_fullCost_7 rfl (lv_at hl 2 rfl) ?_
  refine va_get (D := (dC, dI)) (ci := 3) (v := .ref aL) (C := RX3) (T := TX3) (N := 2) hx hb hts mX3_fullCost_inX3 hown hK hP 0 rfl rfl 0 (by decide) (hts (.fieldLink RX3 15 "LeafOrder$Scale" "pile" "LLeafOrder$Leaves;") mX3_fullCost_0) (fun _ h9 => h9) rfl dX3_fullCost_8 ?_
  refine va_get (D := (dC, dI)) (ci := 1) (v := .ref aLb) (C := RX1) (T := TX1) (N := 7) hx hb hts mX3_fullCost_inX1 hown hK hP 2 rfl rfl 1 (by decide) (hts (.fieldLink RX3 27 "LeafOrder$Leaves" "begins" "[I") mX3_fullCost_2) (fun _ h9 => h9) rfl dX3_fullCost_11 ?_
  refine lv_iload hx hb dX3_fullCost_14 (lv_at hl 0 rfl) ?_
  refine ln_iald (i := q2) hx hb hK hP 3 0 rfl rfl (by omega) (by decide) dX3_fullCost_16 ?_
  have b_1 := bLb q2
  refine lv_istore (lv' := [(5, .int (nI (fb q2))), (4, .int (nI q2)), (3, .int (nI (q1 ^^^ 1))), (0, .ref aC), (1, .int (nI q1)), (2, .int (nI q2))]) hx hb dX3_fullCost_17 hl (by decide) rfl (fun ls hl => ?_)
  refine lv_aload_n hx hb dX3_fullCost_19 rfl (lv_at hl 3 rfl) ?_
  refine va_get (D := (dC, dI)) (ci := 3) (v := .ref aL) (C := RX3) (T := TX3) (N := 2) hx hb hts mX3_fullCost_inX3 hown hK hP 0 rfl rfl 0 (by decide) (hts (.fieldLink RX3 15 "LeafOrder$Scale" "pile" "LLeafOrder$Leaves;") mX3_fullCost_0) (fun _ h9 => h9) rfl dX3_fullCost_20 ?_
  refine va_get (D := (dC, dI)) (ci := 1) (v := .ref aLw) (C := RX1) (T := TX1) (N := 7) hx hb hts mX3_fullCost_inX1 hown hK hP 2 rfl rfl 3 (by decide) (hts (.fieldLink RX3 32 "LeafOrder$Leaves" "words" "[I") mX3_fullCost_4) (fun _ h9 => h9) rfl dX3_fullCost_23 ?_
  refine lv_iload_n hx hb dX3_fullCost_26 rfl (lv_at hl 2 rfl) ?_
  refine ln_ialdI (i := q1 ^^^ 1) hx hb hK hP 5 0 rfl rfl (by omega) (by decide) dX3_fullCost_27 ?_
  refine lv_istore (lv' := [(6, .int (fw (q1 ^^^ 1))), (5, .int (nI (fb q2))), (4, .int (nI q2)), (3, .int (nI (q1 ^^^ 1))), (0, .ref aC), (1, .int (nI q1)), (2, .int (nI q2))]) hx hb dX3_fullCost_28 hl (by decide) rfl (fun ls hl => ?_)
  refine lv_aload_n hx hb dX3_fullCost_30 rfl (lv_at hl 4 rfl) ?_
  refine va_get (D := (dC, dI)) (ci := 3) (v := .ref aCz) (C := RX3) (T := TX3) (N := 2) hx hb hts mX3_fullCost_inX3 hown hK hP 0 rfl rfl 1 (by decide) (hts (.fieldLink RX3 9 "LeafOrder$Scale" "sizes" "[I") mX3_fullCost_5) (fun _ h9 => h9) rfl dX3_fullCost_31 ?_
  refine lv_iconst (v := nI 0) hx hb dX3_fullCost_34 (by decide) ?_
  refine ln_iald (i := 0) hx hb hK hP 1 0 rfl rfl (by omega) (by decide) dX3_fullCost_35 ?_
  have b_2 := bCz 0
  refine lv_iload hx hb dX3_fullCost_36 (lv_at hl 1 rfl) ?_
  refine lv_aload_n hx hb dX3_fullCost_38 rfl (lv_at hl 4 rfl) ?_
  refine va_get (D := (dC, dI)) (ci := 3) (v := .ref aL) (C := RX3) (T := TX3) (N := 2) hx hb hts mX3_fullCost_inX3 hown hK hP 0 rfl rfl 0 (by decide) (hts (.fieldLink RX3 15 "LeafOrder$Scale" "pile" "LLeafOrder$Leaves;") mX3_fullCost_0) (fun _ h9 => h9) rfl dX3_fullCost_39 ?_
  refine va_get (D := (dC, dI)) (ci := 1) (v := .ref aLe) (C := RX1) (T := TX1) (N := 7) hx hb hts mX3_fullCost_inX1 hown hK hP 2 rfl rfl 2 (by decide) (hts (.fieldLink RX3 35 "LeafOrder$Leaves" "ends" "[I") mX3_fullCost_6) (fun _ h9 => h9) rfl dX3_fullCost_42 ?_
  refine lv_iload_n hx hb dX3_fullCost_45 rfl (lv_at hl 3 rfl) ?_
  refine ln_iald (i := q1 ^^^ 1) hx hb hK hP 4 0 rfl rfl (by omega) (by decide) dX3_fullCost_46 ?_
  have b_3 := bLe (q1 ^^^ 1)
  refine lv_isub hx hb dX3_fullCost_47 ?_
  refine ln_mabs (x := fb q2) (y := fe (q1 ^^^ 1)) hx hb (by rw [hml]; exact hl.1.symm) hown (hts (.methodLink RX3 38 Lib.Math.abs.name) mX3_fullCost_7) (hts (.static Lib.Math.abs.name) mX3_fullCost_8) (hts (.initialized "java/lang/Math") mX3_fullCost_9) (hts (.code Lib.Math.abs.name Lib.Math.abs.code 1 (some .int)) mX3_fullCost_10) (Nat.le_of_ble_eq_true rfl) (Nat.le_of_ble_eq_true rfl) (Nat.zero_le _) (Nat.zero_le _) (by omega) (by omega) dX3_fullCost_48 ?_
  refine ln_imul hx hb dX3_fullCost_51 ?_
  refine lv_istore (lv' := [(7, .int (nI ((fz 0) * (m_dist (fb q2) (fe (q1 ^^^ 1)))))), (6, .int (fw (q1 ^^^ 1))), (5, .int (nI (fb q2))), (4, .int (nI q2)), (3, .int (nI (q1 ^^^ 1))), (0, .ref aC), (1, .int (nI q1)), (2, .int (nI q2))]) hx hb dX3_fullCost_52 hl (by decide) rfl (fun ls hl => ?_)
  refine lv_iload hx hb dX3_fullCost_54 (lv_at hl 1 rfl) ?_
  refine lv_iconst (v := (-1)) hx hb dX3_fullCost_56 (by decide) ?_
  refine lv_icmp_eq (tgt := 78) hx hb dX3_fullCost_57 (by decide) (fun c_4 => ?_) (fun c_4 => ?_)
  · refine lv_aload_n hx hb dX3_fullCost_78 rfl (lv_at hl 5 rfl) ?_
    refine va_get (D := (dC, dI)) (ci := 3) (v := .ref aL) (C := RX3) (T := TX3) (N := 2) hx hb hts mX3_fullCost_inX3 hown hK hP 0 rfl rfl 0 (by decide) (hts (.fieldLink RX3 15 "LeafOrder$Scale" "pile" "LLeafOrder$Leaves;") mX3_fullCost_0) (fun _ h9 => h9) rfl dX3_fullCost_79 ?_
    refine va_get (D := (dC, dI)) (ci := 1) (v := .ref aLd) (C := RX1) (T := TX1) (N := 7) hx hb hts mX3_fullCost_inX1 hown hK hP 2 rfl rfl 5 (by decide) (hts (.fieldLink RX3 44 "LeafOrder$Leaves" "cutEnds" "[I") mX3_fullCost_11) (fun _ h9 => h9) rfl dX3_fullCost_82 ?_
    refine lv_iload_n hx hb dX3_fullCost_85 rfl (lv_at hl 4 rfl) ?_
    refine ln_iald (i := q1 ^^^ 1) hx hb hK hP 7 0 rfl rfl (by omega) (by decide) dX3_fullCost_86 ?_
    have b_5 := bLd (q1 ^^^ 1)
    refine lv_aload_n hx hb dX3_fullCost_87 rfl (lv_at hl 5 rfl) ?_
    refine va_get (D := (dC, dI)) (ci := 3) (v := .ref aL) (C := RX3) (T := TX3) (N := 2) hx hb hts mX3_fullCost_inX3 hown hK hP 0 rfl rfl 0 (by decide) (hts (.fieldLink RX3 15 "LeafOrder$Scale" "pile" "LLeafOrder$Leaves;") mX3_fullCost_0) (fun _ h9 => h9) rfl dX3_fullCost_88 ?_
    refine va_get (D := (dC, dI)) (ci := 1) (v := .ref aLc) (C := RX1) (T := TX1) (N := 7) hx hb hts mX3_fullCost_inX1 hown hK hP 2 rfl rfl 4 (by decide) (hts (.fieldLink RX3 47 "LeafOrder$Leaves" "cutBegins" "[I") mX3_fullCost_12) (fun _ h9 => h9) rfl dX3_fullCost_91 ?_
    refine lv_iload hx hb dX3_fullCost_94 (lv_at hl 3 rfl) ?_
    refine ln_iald (i := q2) hx hb hK hP 6 0 rfl rfl (by omega) (by decide) dX3_fullCost_96 ?_
    have b_6 := bLc q2
    refine ln_icmp_eq (tgt := 111) hx hb dX3_fullCost_97 (by decide) (by omega) (by omega) (fun c_7 => ?_) (fun c_7 => ?_)
    · refine lv_iload hx hb dX3_fullCost_111 (lv_at hl 0 rfl) ?_
      refine lv_aload_n hx hb dX3_fullCost_113 rfl (lv_at hl 5 rfl) ?_
      refine va_get (D := (dC, dI)) (ci := 3) (v := .ref aCz) (C := RX3) (T := TX3) (N := 2) hx hb hts mX3_fullCost_inX3 hown hK hP 0 rfl rfl 1 (by decide) (hts (.fieldLink RX3 9 "LeafOrder$Scale" "sizes" "[I") mX3_fullCost_5) (fun _ h9 => h9) rfl dX3_fullCost_114 ?_
      refine lv_iconst (v := nI 1) hx hb dX3_fullCost_117 (by decide) ?_
      refine ln_iald (i := 1) hx hb hK hP 1 0 rfl rfl (by omega) (by decide) dX3_fullCost_118 ?_
      have b_8 := bCz 1
      refine lv_aload_n hx hb dX3_fullCost_119 rfl (lv_at hl 5 rfl) ?_
      refine va_get (D := (dC, dI)) (ci := 3) (v := .ref aL) (C := RX3) (T := TX3) (N := 2) hx hb hts mX3_fullCost_inX3 hown hK hP 0 rfl rfl 0 (by decide) (hts (.fieldLink RX3 15 "LeafOrder$Scale" "pile" "LLeafOrder$Leaves;") mX3_fullCost_0) (fun _ h9 => h9) rfl dX3_fullCost_120 ?_
      refine lv_iload_n hx hb dX3_fullCost_123 rfl (lv_at hl 6 rfl) ?_
      refine lv_iconst (v := nI 1) hx hb dX3_fullCost_124 (by decide) ?_
      refine ln_ishr hx hb dX3_fullCost_125 (by omega) (by omega) ?_
      refine lv_iload_n hx hb dX3_fullCost_126 rfl (lv_at hl 7 rfl) ?_
      refine lv_iconst (v := nI 1) hx hb dX3_fullCost_127 (by decide) ?_
      refine ln_ishr hx hb dX3_fullCost_128 (by omega) (by omega) ?_
      have hPc := hP.sub (ws' := [(aL, .inr (1, [.int (nI nL), .ref aLb, .ref aLe, .ref aLw, .ref aLc, .ref aLd, .ref aLs])), (aLs, .inl (cI, 27, .inl (nF fs)))]) [2, 8] rfl
      refine vp_callSi (W.runV (As := [.int (nI (q1 >>> 1)), .int (nI (q2 >>> 1))]) (rest := [.int (nI (fz 1)), .int (nI ((fz 0) * (m_dist (fb q2) (fe (q1 ^^^ 1)))))]) ⟨hx, hb, hml, hown, hts⟩ (k_X1_stainsApart l dC dI cI cZ aL aLb aLe aLw aLc aLd aLs nL fs (q1 >>> 1) (q2 >>> 1) bLs (by omega) (by omega)) (cwV 2 hts gX3_fullCost_X1_stainsApart rfl rfl rfl (by decide +kernel) ⟨Nat.le_of_ble_eq_true rfl, Nat.le_of_ble_eq_true rfl⟩) (ln_preV (q0 := 0) (ci := 1) hPc hKK rfl rfl) rfl rfl hl.1 rfl (lv_room (Nat.le_of_ble_eq_true rfl)) dX3_fullCost_129 ⟨Nat.le_of_ble_eq_true rfl, Nat.le_of_ble_eq_true rfl⟩) (fun r_9 w_10 => ?_)
      subst w_10
      refine ln_imul hx hb dX3_fullCost_132 ?_
      refine ln_iadd hx hb dX3_fullCost_133 ?_
      exact W.iret (v := (nI (((fz 0) * (m_dist (fb q2) (fe (q1 ^^^ 1)))) + ((fz 1) * (m_sap fs (q1 >>> 1) (q2 >>> 1) 3))))) hx hb hr (fun t ht hW => ⟨(nI (((fz 0) * (m_dist (fb q2) (fe (q1 ^^^ 1)))) + ((fz 1) * (m_sap fs (q1 >>> 1) (q2 >>> 1) 3)))), rfl, (by unfold m_full; rw [if_pos c_4, if_pos c_7] <;> simp only [Nat.add_zero]), ht⟩) (fun _ h => by cases h) dX3_fullCost_134
    · refine lv_iload hx hb dX3_fullCost_100 (lv_at hl 0 rfl) ?_
      refine lv_aload_n hx hb dX3_fullCost_102 rfl (lv_at hl 5 rfl) ?_
      refine va_get (D := (dC, dI)) (ci := 3) (v := .ref aCz) (C := RX3) (T := TX3) (N := 2) hx hb hts mX3_fullCost_inX3 hown hK hP 0 rfl rfl 1 (by decide) (hts (.fieldLink RX3 9 "LeafOrder$Scale" "sizes" "[I") mX3_fullCost_5) (fun _ h9 => h9) rfl dX3_fullCost_103 ?_
      refine lv_iconst (v := nI 3) hx hb dX3_fullCost_106 (by decide) ?_
      refine ln_iald (i := 3) hx hb hK hP 1 0 rfl rfl (by omega) (by decide) dX3_fullCost_107 ?_
      have b_11 := bCz 3
      refine ln_iadd hx hb dX3_fullCost_108 ?_
      refine lv_istore (lv' := [(7, .int (nI (((fz 0) * (m_dist (fb q2) (fe (q1 ^^^ 1)))) + (fz 3)))), (6, .int (fw (q1 ^^^ 1))), (5, .int (nI (fb q2))), (4, .int (nI q2)), (3, .int (nI (q1 ^^^ 1))), (0, .ref aC), (1, .int (nI q1)), (2, .int (nI q2))]) hx hb dX3_fullCost_109 hl (by decide) rfl (fun ls hl => ?_)
      refine lv_iload hx hb dX3_fullCost_111 (lv_at hl 0 rfl) ?_
      refine lv_aload_n hx hb dX3_fullCost_113 rfl (lv_at hl 5 rfl) ?_
      refine va_get (D := (dC, dI)) (ci := 3) (v := .ref aCz) (C := RX3) (T := TX3) (N := 2) hx hb hts mX3_fullCost_inX3 hown hK hP 0 rfl rfl 1 (by decide) (hts (.fieldLink RX3 9 "LeafOrder$Scale" "sizes" "[I") mX3_fullCost_5) (fun _ h9 => h9) rfl dX3_fullCost_114 ?_
      refine lv_iconst (v := nI 1) hx hb dX3_fullCost_117 (by decide) ?_
      refine ln_iald (i := 1) hx hb hK hP 1 0 rfl rfl (by omega) (by decide) dX3_fullCost_118 ?_
      have b_12 := bCz 1
      refine lv_aload_n hx hb dX3_fullCost_119 rfl (lv_at hl 5 rfl) ?_
      refine va_get (D := (dC, dI)) (ci := 3) (v := .ref aL) (C := RX3) (T := TX3) (N := 2) hx hb hts mX3_fullCost_inX3 hown hK hP 0 rfl rfl 0 (by decide) (hts (.fieldLink RX3 15 "LeafOrder$Scale" "pile" "LLeafOrder$Leaves;") mX3_fullCost_0) (fun _ h9 => h9) rfl dX3_fullCost_120 ?_
      refine lv_iload_n hx hb dX3_fullCost_123 rfl (lv_at hl 6 rfl) ?_
      refine lv_iconst (v := nI 1) hx hb dX3_fullCost_124 (by decide) ?_
      refine ln_ishr hx hb dX3_fullCost_125 (by omega) (by omega) ?_
      refine lv_iload_n hx hb dX3_fullCost_126 rfl (lv_at hl 7 rfl) ?_
      refine lv_iconst (v := nI 1) hx hb dX3_fullCost_127 (by decide) ?_
      refine ln_ishr hx hb dX3_fullCost_128 (by omega) (by omega) ?_
      have hPc := hP.sub (ws' := [(aL, .inr (1, [.int (nI nL), .ref aLb, .ref aLe, .ref aLw, .ref aLc, .ref aLd, .ref aLs])), (aLs, .inl (cI, 27, .inl (nF fs)))]) [2, 8] rfl
      refine vp_callSi (W.runV (As := [.int (nI (q1 >>> 1)), .int (nI (q2 >>> 1))]) (rest := [.int (nI (fz 1)), .int (nI (((fz 0) * (m_dist (fb q2) (fe (q1 ^^^ 1)))) + (fz 3)))]) ⟨hx, hb, hml, hown, hts⟩ (k_X1_stainsApart l dC dI cI cZ aL aLb aLe aLw aLc aLd aLs nL fs (q1 >>> 1) (q2 >>> 1) bLs (by omega) (by omega)) (cwV 2 hts gX3_fullCost_X1_stainsApart rfl rfl rfl (by decide +kernel) ⟨Nat.le_of_ble_eq_true rfl, Nat.le_of_ble_eq_true rfl⟩) (ln_preV (q0 := 0) (ci := 1) hPc hKK rfl rfl) rfl rfl hl.1 rfl (lv_room (Nat.le_of_ble_eq_true rfl)) dX3_fullCost_129 ⟨Nat.le_of_ble_eq_true rfl, Nat.le_of_ble_eq_true rfl⟩) (fun r_13 w_14 => ?_)
      subst w_14
      refine ln_imul hx hb dX3_fullCost_132 ?_
      refine ln_iadd hx hb dX3_fullCost_133 ?_
      exact W.iret (v := (nI ((((fz 0) * (m_dist (fb q2) (fe (q1 ^^^ 1)))) + (fz 3)) + ((fz 1) * (m_sap fs (q1 >>> 1) (q2 >>> 1) 3))))) hx hb hr (fun t ht hW => ⟨(nI ((((fz 0) * (m_dist (fb q2) (fe (q1 ^^^ 1)))) + (fz 3)) + ((fz 1) * (m_sap fs (q1 >>> 1) (q2 >>> 1) 3)))), rfl, (by unfold m_full; rw [if_pos c_4, if_neg c_7] <;> simp only [Nat.add_zero]), ht⟩) (fun _ h => by cases h) dX3_fullCost_134
  · refine lv_iload hx hb dX3_fullCost_60 (lv_at hl 1 rfl) ?_
    refine lv_iload hx hb dX3_fullCost_62 (lv_at hl 2 rfl) ?_
    refine lv_icmp_eq (tgt := 78) hx hb dX3_fullCost_64 (by decide) (fun c_15 => ?_) (fun c_15 => ?_)
    · refine lv_aload_n hx hb dX3_fullCost_78 rfl (lv_at hl 5 rfl) ?_
      refine va_get (D := (dC, dI)) (ci := 3) (v := .ref aL) (C := RX3) (T := TX3) (N := 2) hx hb hts mX3_fullCost_inX3 hown hK hP 0 rfl rfl 0 (by decide) (hts (.fieldLink RX3 15 "LeafOrder$Scale" "pile" "LLeafOrder$Leaves;") mX3_fullCost_0) (fun _ h9 => h9) rfl dX3_fullCost_79 ?_
      refine va_get (D := (dC, dI)) (ci := 1) (v := .ref aLd) (C := RX1) (T := TX1) (N := 7) hx hb hts mX3_fullCost_inX1 hown hK hP 2 rfl rfl 5 (by decide) (hts (.fieldLink RX3 44 "LeafOrder$Leaves" "cutEnds" "[I") mX3_fullCost_11) (fun _ h9 => h9) rfl dX3_fullCost_82 ?_
      refine lv_iload_n hx hb dX3_fullCost_85 rfl (lv_at hl 4 rfl) ?_
      refine ln_iald (i := q1 ^^^ 1) hx hb hK hP 7 0 rfl rfl (by omega) (by decide) dX3_fullCost_86 ?_
      have b_16 := bLd (q1 ^^^ 1)
      refine lv_aload_n hx hb dX3_fullCost_87 rfl (lv_at hl 5 rfl) ?_
      refine va_get (D := (dC, dI)) (ci := 3) (v := .ref aL) (C := RX3) (T := TX3) (N := 2) hx hb hts mX3_fullCost_inX3 hown hK hP 0 rfl rfl 0 (by decide) (hts (.fieldLink RX3 15 "LeafOrder$Scale" "pile" "LLeafOrder$Leaves;") mX3_fullCost_0) (fun _ h9 => h9) rfl dX3_fullCost_88 ?_
      refine va_get (D := (dC, dI)) (ci := 1) (v := .ref aLc) (C := RX1) (T := TX1) (N := 7) hx hb hts mX3_fullCost_inX1 hown hK hP 2 rfl rfl 4 (by decide) (hts (.fieldLink RX3 47 "LeafOrder$Leaves" "cutBegins" "[I") mX3_fullCost_12) (fun _ h9 => h9) rfl dX3_fullCost_91 ?_
      refine lv_iload hx hb dX3_fullCost_94 (lv_at hl 3 rfl) ?_
      refine ln_iald (i := q2) hx hb hK hP 6 0 rfl rfl (by omega) (by decide) dX3_fullCost_96 ?_
      have b_17 := bLc q2
      refine ln_icmp_eq (tgt := 111) hx hb dX3_fullCost_97 (by decide) (by omega) (by omega) (fun c_18 => ?_) (fun c_18 => ?_)
      · refine lv_iload hx hb dX3_fullCost_111 (lv_at hl 0 rfl) ?_
        refine lv_aload_n hx hb dX3_fullCost_113 rfl (lv_at hl 5 rfl) ?_
        refine va_get (D := (dC, dI)) (ci := 3) (v := .ref aCz) (C := RX3) (T := TX3) (N := 2) hx hb hts mX3_fullCost_inX3 hown hK hP 0 rfl rfl 1 (by decide) (hts (.fieldLink RX3 9 "LeafOrder$Scale" "sizes" "[I") mX3_fullCost_5) (fun _ h9 => h9) rfl dX3_fullCost_114 ?_
        refine lv_iconst (v := nI 1) hx hb dX3_fullCost_117 (by decide) ?_
        refine ln_iald (i := 1) hx hb hK hP 1 0 rfl rfl (by omega) (by decide) dX3_fullCost_118 ?_
        have b_19 := bCz 1
        refine lv_aload_n hx hb dX3_fullCost_119 rfl (lv_at hl 5 rfl) ?_
        refine va_get (D := (dC, dI)) (ci := 3) (v := .ref aL) (C := RX3) (T := TX3) (N := 2) hx hb hts mX3_fullCost_inX3 hown hK hP 0 rfl rfl 0 (by decide) (hts (.fieldLink RX3 15 "LeafOrder$Scale" "pile" "LLeafOrder$Leaves;") mX3_fullCost_0) (fun _ h9 => h9) rfl dX3_fullCost_120 ?_
        refine lv_iload_n hx hb dX3_fullCost_123 rfl (lv_at hl 6 rfl) ?_
        refine lv_iconst (v := nI 1) hx hb dX3_fullCost_124 (by decide) ?_
        refine ln_ishr hx hb dX3_fullCost_125 (by omega) (by omega) ?_
        refine lv_iload_n hx hb dX3_fullCost_126 rfl (lv_at hl 7 rfl) ?_
        refine lv_iconst (v := nI 1) hx hb dX3_fullCost_127 (by decide) ?_
        refine ln_ishr hx hb dX3_fullCost_128 (by omega) (by omega) ?_
        have hPc := hP.sub (ws' := [(aL, .inr (1, [.int (nI nL), .ref aLb, .ref aLe, .ref aLw, .ref aLc, .ref aLd, .ref aLs])), (aLs, .inl (cI, 27, .inl (nF fs)))]) [2, 8] rfl
        refine vp_callSi (W.runV (As := [.int (nI (q1 >>> 1)), .int (nI (q2 >>> 1))]) (rest := [.int (nI (fz 1)), .int (nI ((fz 0) * (m_dist (fb q2) (fe (q1 ^^^ 1)))))]) ⟨hx, hb, hml, hown, hts⟩ (k_X1_stainsApart l dC dI cI cZ aL aLb aLe aLw aLc aLd aLs nL fs (q1 >>> 1) (q2 >>> 1) bLs (by omega) (by omega)) (cwV 2 hts gX3_fullCost_X1_stainsApart rfl rfl rfl (by decide +kernel) ⟨Nat.le_of_ble_eq_true rfl, Nat.le_of_ble_eq_true rfl⟩) (ln_preV (q0 := 0) (ci := 1) hPc hKK rfl rfl) rfl rfl hl.1 rfl (lv_room (Nat.le_of_ble_eq_true rfl)) dX3_fullCost_129 ⟨Nat.le_of_ble_eq_true rfl, Nat.le_of_ble_eq_true rfl⟩) (fun r_20 w_21 => ?_)
        subst w_21
        refine ln_imul hx hb dX3_fullCost_132 ?_
        refine ln_iadd hx hb dX3_fullCost_133 ?_
        exact W.iret (v := (nI (((fz 0) * (m_dist (fb q2) (fe (q1 ^^^ 1)))) + ((fz 1) * (m_sap fs (q1 >>> 1) (q2 >>> 1) 3))))) hx hb hr (fun t ht hW => ⟨(nI (((fz 0) * (m_dist (fb q2) (fe (q1 ^^^ 1)))) + ((fz 1) * (m_sap fs (q1 >>> 1) (q2 >>> 1) 3)))), rfl, (by unfold m_full; rw [if_neg c_4, if_pos c_15, if_pos c_18] <;> simp only [Nat.add_zero]), ht⟩) (fun _ h => by cases h) dX3_fullCost_134
      · refine lv_iload hx hb dX3_fullCost_100 (lv_at hl 0 rfl) ?_
        refine lv_aload_n hx hb dX3_fullCost_102 rfl (lv_at hl 5 rfl) ?_
        refine va_get (D := (dC, dI)) (ci := 3) (v := .ref aCz) (C := RX3) (T := TX3) (N := 2) hx hb hts mX3_fullCost_inX3 hown hK hP 0 rfl rfl 1 (by decide) (hts (.fieldLink RX3 9 "LeafOrder$Scale" "sizes" "[I") mX3_fullCost_5) (fun _ h9 => h9) rfl dX3_fullCost_103 ?_
        refine lv_iconst (v := nI 3) hx hb dX3_fullCost_106 (by decide) ?_
        refine ln_iald (i := 3) hx hb hK hP 1 0 rfl rfl (by omega) (by decide) dX3_fullCost_107 ?_
        have b_22 := bCz 3
        refine ln_iadd hx hb dX3_fullCost_108 ?_
        refine lv_istore (lv' := [(7, .int (nI (((fz 0) * (m_dist (fb q2) (fe (q1 ^^^ 1)))) + (fz 3)))), (6, .int (fw (q1 ^^^ 1))), (5, .int (nI (fb q2))), (4, .int (nI q2)), (3, .int (nI (q1 ^^^ 1))), (0, .ref aC), (1, .int (nI q1)), (2, .int (nI q2))]) hx hb dX3_fullCost_109 hl (by decide) rfl (fun ls hl => ?_)
        refine lv_iload hx hb dX3_fullCost_111 (lv_at hl 0 rfl) ?_
        refine lv_aload_n hx hb dX3_fullCost_113 rfl (lv_at hl 5 rfl) ?_
        refine va_get (D := (dC, dI)) (ci := 3) (v := .ref aCz) (C := RX3) (T := TX3) (N := 2) hx hb hts mX3_fullCost_inX3 hown hK hP 0 rfl rfl 1 (by decide) (hts (.fieldLink RX3 9 "LeafOrder$Scale" "sizes" "[I") mX3_fullCost_5) (fun _ h9 => h9) rfl dX3_fullCost_114 ?_
        refine lv_iconst (v := nI 1) hx hb dX3_fullCost_117 (by decide) ?_
        refine ln_iald (i := 1) hx hb hK hP 1 0 rfl rfl (by omega) (by decide) dX3_fullCost_118 ?_
        have b_23 := bCz 1
        refine lv_aload_n hx hb dX3_fullCost_119 rfl (lv_at hl 5 rfl) ?_
        refine va_get (D := (dC, dI)) (ci := 3) (v := .ref aL) (C := RX3) (T := TX3) (N := 2) hx hb hts mX3_fullCost_inX3 hown hK hP 0 rfl rfl 0 (by decide) (hts (.fieldLink RX3 15 "LeafOrder$Scale" "pile" "LLeafOrder$Leaves;") mX3_fullCost_0) (fun _ h9 => h9) rfl dX3_fullCost_120 ?_
        refine lv_iload_n hx hb dX3_fullCost_123 rfl (lv_at hl 6 rfl) ?_
        refine lv_iconst (v := nI 1) hx hb dX3_fullCost_124 (by decide) ?_
        refine ln_ishr hx hb dX3_fullCost_125 (by omega) (by omega) ?_
        refine lv_iload_n hx hb dX3_fullCost_126 rfl (lv_at hl 7 rfl) ?_
        refine lv_iconst (v := nI 1) hx hb dX3_fullCost_127 (by decide) ?_
        refine ln_ishr hx hb dX3_fullCost_128 (by omega) (by omega) ?_
        have hPc := hP.sub (ws' := [(aL, .inr (1, [.int (nI nL), .ref aLb, .ref aLe, .ref aLw, .ref aLc, .ref aLd, .ref aLs])), (aLs, .inl (cI, 27, .inl (nF fs)))]) [2, 8] rfl
        refine vp_callSi (W.runV (As := [.int (nI (q1 >>> 1)), .int (nI (q2 >>> 1))]) (rest := [.int (nI (fz 1)), .int (nI (((fz 0) * (m_dist (fb q2) (fe (q1 ^^^ 1)))) + (fz 3)))]) ⟨hx, hb, hml, hown, hts⟩ (k_X1_stainsApart l dC dI cI cZ aL aLb aLe aLw aLc aLd aLs nL fs (q1 >>> 1) (q2 >>> 1) bLs (by omega) (by omega)) (cwV 2 hts gX3_fullCost_X1_stainsApart rfl rfl rfl (by decide +kernel) ⟨Nat.le_of_ble_eq_true rfl, Nat.le_of_ble_eq_true rfl⟩) (ln_preV (q0 := 0) (ci := 1) hPc hKK rfl rfl) rfl rfl hl.1 rfl (lv_room (Nat.le_of_ble_eq_true rfl)) dX3_fullCost_129 ⟨Nat.le_of_ble_eq_true rfl, Nat.le_of_ble_eq_true rfl⟩) (fun r_24 w_25 => ?_)
        subst w_25
        refine ln_imul hx hb dX3_fullCost_132 ?_
        refine ln_iadd hx hb dX3_fullCost_133 ?_
        exact W.iret (v := (nI ((((fz 0) * (m_dist (fb q2) (fe (q1 ^^^ 1)))) + (fz 3)) + ((fz 1) * (m_sap fs (q1 >>> 1) (q2 >>> 1) 3))))) hx hb hr (fun t ht hW => ⟨(nI ((((fz 0) * (m_dist (fb q2) (fe (q1 ^^^ 1)))) + (fz 3)) + ((fz 1) * (m_sap fs (q1 >>> 1) (q2 >>> 1) 3)))), rfl, (by unfold m_full; rw [if_neg c_4, if_pos c_15, if_neg c_18] <;> simp only [Nat.add_zero]), ht⟩) (fun _ h => by cases h) dX3_fullCost_134
    · refine lv_iload hx hb dX3_fullCost_67 (lv_at hl 0 rfl) ?_
      refine lv_aload_n hx hb dX3_fullCost_69 rfl (lv_at hl 5 rfl) ?_
      refine va_get (D := (dC, dI)) (ci := 3) (v := .ref aCz) (C := RX3) (T := TX3) (N := 2) hx hb hts mX3_fullCost_inX3 hown hK hP 0 rfl rfl 1 (by decide) (hts (.fieldLink RX3 9 "LeafOrder$Scale" "sizes" "[I") mX3_fullCost_5) (fun _ h9 => h9) rfl dX3_fullCost_70 ?_
      refine lv_iconst (v := nI 2) hx hb dX3_fullCost_73 (by decide) ?_
      refine ln_iald (i := 2) hx hb hK hP 1 0 rfl rfl (by omega) (by decide) dX3_fullCost_74 ?_
      have b_26 := bCz 2
      refine ln_iadd hx hb dX3_fullCost_75 ?_
      refine lv_istore (lv' := [(7, .int (nI (((fz 0) * (m_dist (fb q2) (fe (q1 ^^^ 1)))) + (fz 2)))), (6, .int (fw (q1 ^^^ 1))), (5, .int (nI (fb q2))), (4, .int (nI q2)), (3, .int (nI (q1 ^^^ 1))), (0, .ref aC), (1, .int (nI q1)), (2, .int (nI q2))]) hx hb dX3_fullCost_76 hl (by decide) rfl (fun ls hl => ?_)
      refine lv_aload_n hx hb dX3_fullCost_78 rfl (lv_at hl 5 rfl) ?_
      refine va_get (D := (dC, dI)) (ci := 3) (v := .ref aL) (C := RX3) (T := TX3) (N := 2) hx hb hts mX3_fullCost_inX3 hown hK hP 0 rfl rfl 0 (by decide) (hts (.fieldLink RX3 15 "LeafOrder$Scale" "pile" "LLeafOrder$Leaves;") mX3_fullCost_0) (fun _ h9 => h9) rfl dX3_fullCost_79 ?_
      refine va_get (D := (dC, dI)) (ci := 1) (v := .ref aLd) (C := RX1) (T := TX1) (N := 7) hx hb hts mX3_fullCost_inX1 hown hK hP 2 rfl rfl 5 (by decide) (hts (.fieldLink RX3 44 "LeafOrder$Leaves" "cutEnds" "[I") mX3_fullCost_11) (fun _ h9 => h9) rfl dX3_fullCost_82 ?_
      refine lv_iload_n hx hb dX3_fullCost_85 rfl (lv_at hl 4 rfl) ?_
      refine ln_iald (i := q1 ^^^ 1) hx hb hK hP 7 0 rfl rfl (by omega) (by decide) dX3_fullCost_86 ?_
      have b_27 := bLd (q1 ^^^ 1)
      refine lv_aload_n hx hb dX3_fullCost_87 rfl (lv_at hl 5 rfl) ?_
      refine va_get (D := (dC, dI)) (ci := 3) (v := .ref aL) (C := RX3) (T := TX3) (N := 2) hx hb hts mX3_fullCost_inX3 hown hK hP 0 rfl rfl 0 (by decide) (hts (.fieldLink RX3 15 "LeafOrder$Scale" "pile" "LLeafOrder$Leaves;") mX3_fullCost_0) (fun _ h9 => h9) rfl dX3_fullCost_88 ?_
      refine va_get (D := (dC, dI)) (ci := 1) (v := .ref aLc) (C := RX1) (T := TX1) (N := 7) hx hb hts mX3_fullCost_inX1 hown hK hP 2 rfl rfl 4 (by decide) (hts (.fieldLink RX3 47 "LeafOrder$Leaves" "cutBegins" "[I") mX3_fullCost_12) (fun _ h9 => h9) rfl dX3_fullCost_91 ?_
      refine lv_iload hx hb dX3_fullCost_94 (lv_at hl 3 rfl) ?_
      refine ln_iald (i := q2) hx hb hK hP 6 0 rfl rfl (by omega) (by decide) dX3_fullCost_96 ?_
      have b_28 := bLc q2
      refine ln_icmp_eq (tgt := 111) hx hb dX3_fullCost_97 (by decide) (by omega) (by omega) (fun c_29 => ?_) (fun c_29 => ?_)
      · refine lv_iload hx hb dX3_fullCost_111 (lv_at hl 0 rfl) ?_
        refine lv_aload_n hx hb dX3_fullCost_113 rfl (lv_at hl 5 rfl) ?_
        refine va_get (D := (dC, dI)) (ci := 3) (v := .ref aCz) (C := RX3) (T := TX3) (N := 2) hx hb hts mX3_fullCost_inX3 hown hK hP 0 rfl rfl 1 (by decide) (hts (.fieldLink RX3 9 "LeafOrder$Scale" "sizes" "[I") mX3_fullCost_5) (fun _ h9 => h9) rfl dX3_fullCost_114 ?_
        refine lv_iconst (v := nI 1) hx hb dX3_fullCost_117 (by decide) ?_
        refine ln_iald (i := 1) hx hb hK hP 1 0 rfl rfl (by omega) (by decide) dX3_fullCost_118 ?_
        have b_30 := bCz 1
        refine lv_aload_n hx hb dX3_fullCost_119 rfl (lv_at hl 5 rfl) ?_
        refine va_get (D := (dC, dI)) (ci := 3) (v := .ref aL) (C := RX3) (T := TX3) (N := 2) hx hb hts mX3_fullCost_inX3 hown hK hP 0 rfl rfl 0 (by decide) (hts (.fieldLink RX3 15 "LeafOrder$Scale" "pile" "LLeafOrder$Leaves;") mX3_fullCost_0) (fun _ h9 => h9) rfl dX3_fullCost_120 ?_
        refine lv_iload_n hx hb dX3_fullCost_123 rfl (lv_at hl 6 rfl) ?_
        refine lv_iconst (v := nI 1) hx hb dX3_fullCost_124 (by decide) ?_
        refine ln_ishr hx hb dX3_fullCost_125 (by omega) (by omega) ?_
        refine lv_iload_n hx hb dX3_fullCost_126 rfl (lv_at hl 7 rfl) ?_
        refine lv_iconst (v := nI 1) hx hb dX3_fullCost_127 (by decide) ?_
        refine ln_ishr hx hb dX3_fullCost_128 (by omega) (by omega) ?_
        have hPc := hP.sub (ws' := [(aL, .inr (1, [.int (nI nL), .ref aLb, .ref aLe, .ref aLw, .ref aLc, .ref aLd, .ref aLs])), (aLs, .inl (cI, 27, .inl (nF fs)))]) [2, 8] rfl
        refine vp_callSi (W.runV (As := [.int (nI (q1 >>> 1)), .int (nI (q2 >>> 1))]) (rest := [.int (nI (fz 1)), .int (nI (((fz 0) * (m_dist (fb q2) (fe (q1 ^^^ 1)))) + (fz 2)))]) ⟨hx, hb, hml, hown, hts⟩ (k_X1_stainsApart l dC dI cI cZ aL aLb aLe aLw aLc aLd aLs nL fs (q1 >>> 1) (q2 >>> 1) bLs (by omega) (by omega)) (cwV 2 hts gX3_fullCost_X1_stainsApart rfl rfl rfl (by decide +kernel) ⟨Nat.le_of_ble_eq_true rfl, Nat.le_of_ble_eq_true rfl⟩) (ln_preV (q0 := 0) (ci := 1) hPc hKK rfl rfl) rfl rfl hl.1 rfl (lv_room (Nat.le_of_ble_eq_true rfl)) dX3_fullCost_129 ⟨Nat.le_of_ble_eq_true rfl, Nat.le_of_ble_eq_true rfl⟩) (fun r_31 w_32 => ?_)
        subst w_32
        refine ln_imul hx hb dX3_fullCost_132 ?_
        refine ln_iadd hx hb dX3_fullCost_133 ?_
        exact W.iret (v := (nI ((((fz 0) * (m_dist (fb q2) (fe (q1 ^^^ 1)))) + (fz 2)) + ((fz 1) * (m_sap fs (q1 >>> 1) (q2 >>> 1) 3))))) hx hb hr (fun t ht hW => ⟨(nI ((((fz 0) * (m_dist (fb q2) (fe (q1 ^^^ 1)))) + (fz 2)) + ((fz 1) * (m_sap fs (q1 >>> 1) (q2 >>> 1) 3)))), rfl, (by unfold m_full; rw [if_neg c_4, if_neg c_15, if_pos c_29] <;> simp only [Nat.add_zero]), ht⟩) (fun _ h => by cases h) dX3_fullCost_134
      · refine lv_iload hx hb dX3_fullCost_100 (lv_at hl 0 rfl) ?_
        refine lv_aload_n hx hb dX3_fullCost_102 rfl (lv_at hl 5 rfl) ?_
        refine va_get (D := (dC, dI)) (ci := 3) (v := .ref aCz) (C := RX3) (T := TX3) (N := 2) hx hb hts mX3_fullCost_inX3 hown hK hP 0 rfl rfl 1 (by decide) (hts (.fieldLink RX3 9 "LeafOrder$Scale" "sizes" "[I") mX3_fullCost_5) (fun _ h9 => h9) rfl dX3_fullCost_103 ?_
        refine lv_iconst (v := nI 3) hx hb dX3_fullCost_106 (by decide) ?_
        refine ln_iald (i := 3) hx hb hK hP 1 0 rfl rfl (by omega) (by decide) dX3_fullCost_107 ?_
        have b_33 := bCz 3
        refine ln_iadd hx hb dX3_fullCost_108 ?_
        refine lv_istore (lv' := [(7, .int (nI ((((fz 0) * (m_dist (fb q2) (fe (q1 ^^^ 1)))) + (fz 2)) + (fz 3)))), (6, .int (fw (q1 ^^^ 1))), (5, .int (nI (fb q2))), (4, .int (nI q2)), (3, .int (nI (q1 ^^^ 1))), (0, .ref aC), (1, .int (nI q1)), (2, .int (nI q2))]) hx hb dX3_fullCost_109 hl (by decide) rfl (fun ls hl => ?_)
        refine lv_iload hx hb dX3_fullCost_111 (lv_at hl 0 rfl) ?_
        refine lv_aload_n hx hb dX3_fullCost_113 rfl (lv_at hl 5 rfl) ?_
        refine va_get (D := (dC, dI)) (ci := 3) (v := .ref aCz) (C := RX3) (T := TX3) (N := 2) hx hb hts mX3_fullCost_inX3 hown hK hP 0 rfl rfl 1 (by decide) (hts (.fieldLink RX3 9 "LeafOrder$Scale" "sizes" "[I") mX3_fullCost_5) (fun _ h9 => h9) rfl dX3_fullCost_114 ?_
        refine lv_iconst (v := nI 1) hx hb dX3_fullCost_117 (by decide) ?_
        refine ln_iald (i := 1) hx hb hK hP 1 0 rfl rfl (by omega) (by decide) dX3_fullCost_118 ?_
        have b_34 := bCz 1
        refine lv_aload_n hx hb dX3_fullCost_119 rfl (lv_at hl 5 rfl) ?_
        refine va_get (D := (dC, dI)) (ci := 3) (v := .ref aL) (C := RX3) (T := TX3) (N := 2) hx hb hts mX3_fullCost_inX3 hown hK hP 0 rfl rfl 0 (by decide) (hts (.fieldLink RX3 15 "LeafOrder$Scale" "pile" "LLeafOrder$Leaves;") mX3_fullCost_0) (fun _ h9 => h9) rfl dX3_fullCost_120 ?_
        refine lv_iload_n hx hb dX3_fullCost_123 rfl (lv_at hl 6 rfl) ?_
        refine lv_iconst (v := nI 1) hx hb dX3_fullCost_124 (by decide) ?_
        refine ln_ishr hx hb dX3_fullCost_125 (by omega) (by omega) ?_
        refine lv_iload_n hx hb dX3_fullCost_126 rfl (lv_at hl 7 rfl) ?_
        refine lv_iconst (v := nI 1) hx hb dX3_fullCost_127 (by decide) ?_
        refine ln_ishr hx hb dX3_fullCost_128 (by omega) (by omega) ?_
        have hPc := hP.sub (ws' := [(aL, .inr (1, [.int (nI nL), .ref aLb, .ref aLe, .ref aLw, .ref aLc, .ref aLd, .ref aLs])), (aLs, .inl (cI, 27, .inl (nF fs)))]) [2, 8] rfl
        refine vp_callSi (W.runV (As := [.int (nI (q1 >>> 1)), .int (nI (q2 >>> 1))]) (rest := [.int (nI (fz 1)), .int (nI ((((fz 0) * (m_dist (fb q2) (fe (q1 ^^^ 1)))) + (fz 2)) + (fz 3)))]) ⟨hx, hb, hml, hown, hts⟩ (k_X1_stainsApart l dC dI cI cZ aL aLb aLe aLw aLc aLd aLs nL fs (q1 >>> 1) (q2 >>> 1) bLs (by omega) (by omega)) (cwV 2 hts gX3_fullCost_X1_stainsApart rfl rfl rfl (by decide +kernel) ⟨Nat.le_of_ble_eq_true rfl, Nat.le_of_ble_eq_true rfl⟩) (ln_preV (q0 := 0) (ci := 1) hPc hKK rfl rfl) rfl rfl hl.1 rfl (lv_room (Nat.le_of_ble_eq_true rfl)) dX3_fullCost_129 ⟨Nat.le_of_ble_eq_true rfl, Nat.le_of_ble_eq_true rfl⟩) (fun r_35 w_36 => ?_)
        subst w_36
        refine ln_imul hx hb dX3_fullCost_132 ?_
        refine ln_iadd hx hb dX3_fullCost_133 ?_
        exact W.iret (v := (nI (((((fz 0) * (m_dist (fb q2) (fe (q1 ^^^ 1)))) + (fz 2)) + (fz 3)) + ((fz 1) * (m_sap fs (q1 >>> 1) (q2 >>> 1) 3))))) hx hb hr (fun t ht hW => ⟨(nI (((((fz 0) * (m_dist (fb q2) (fe (q1 ^^^ 1)))) + (fz 2)) + (fz 3)) + ((fz 1) * (m_sap fs (q1 >>> 1) (q2 >>> 1) 3)))), rfl, (by unfold m_full; rw [if_neg c_4, if_neg c_15, if_neg c_29] <;> simp only [Nat.add_zero]), ht⟩) (fun _ h => by cases h) dX3_fullCost_134
theorem mX3_isOverGap_0 : Cond.fieldLink RX3 9 "LeafOrder$Scale" "sizes" "[I" ∈ wsX3_isOverGap := by decide +kernel
theorem mX3_isOverGap_inX3 : ∀ w ∈ wsX30, w ∈ wsX3_isOverGap := by decide +kernel
set_option maxHeartbeats 4000000 in
set_option maxRecDepth 100000 in
theorem k_X3_isOverGap (l : Launch) (dC : Nat → ClassId) (dI : Nat → Nat → Nat) (cI cZ : ClassId) (aC aL aCz : Nat) (fz : Nat → Nat) (q1 : Nat) (bCz : ∀ k, fz k ≤ 999) (h1 : q1 < 2147483648) : Met l yX3_isOverGap wsX3_isOverGap { frames := 0, cells := 0, slots := 0, locals := 0 } (va_Pc [.ref aC, .int (nI q1)] (fun U => va_P (dC, dI) vwCl [(aC, .inr (3, [.ref aL, .ref aCz])), (aCz, .inl (cI, 6, .inl (nF fz)))] U.heap ∧ lK dC dI cI cZ U)) (vp_Si (fun r => (r = nI 1 ∧ (0 < fz 5 ∧ fz 5 < q1)) ∨ (r = nI 0 ∧ ¬ (0 < fz 5 ∧ fz 5 < q1)))) 0 0 (fun _ => False) := by
  refine Met.ofW (cc := cX3_isOverGap) (maxL := 2) (ret := (some .boolean)) (by decide) rfl ?_
  intro p e s m args below meth c s₁ B hml hv
  obtain ⟨rfl, hP, hKK⟩ := hv
  have hK := hKK.1
  have hx := B.exec
  have hb := B.bytes
  have hr := B.returns
  have hts := atoms_spec (ws := wsX3_isOverGap) B.pre
  have hown : s.vm.findClass RX3 = some m.cls := findClass_of_methodNamed B.named
  have hlocks := B.notSynchronized
  have hl := lv_entry ([.ref aC, .int (nI q1)]) (n := 2) (Nat.le_of_ble_eq_true rfl)
  rw [lg_entry_eq]
  generalize (lg_sl ([.ref aC, .int (nI q1)]) ++ List.replicate (2 - (lg_sl ([.ref aC, .int (nI q1)])).length) Slot.unset).toArray = ls at hl ⊢
  have hl : lv_has ls 2 [(0, .ref aC), (1, .int (nI q1))] := hl
  refine lv_aload_n hx hb dX3_isOverGap_0 rfl (lv_at hl 0 rfl) ?_
  refine va_get (D := (dC, dI)) (ci := 3) (v := .ref aCz) (C := RX3) (T := TX3) (N := 2) hx hb hts mX3_isOverGap_inX3 hown hK hP 0 rfl rfl 1 (by decide) (hts (.fieldLink RX3 9 "LeafOrder$Scale" "sizes" "[I") mX3_isOverGap_0) (fun _ h9 => h9) rfl dX3_isOverGap_1 ?_
  refine lv_iconst (v := nI 5) hx hb dX3_isOverGap_4 (by decide) ?_
  refine ln_iald (i := 5) hx hb hK hP 1 0 rfl rfl (by omega) (by decide) dX3_isOverGap_5 ?_
  have b_1 := bCz 5
  refine ln_if_le (tgt := 23) hx hb dX3_isOverGap_6 (by decide) (by omega) (fun c_2 => ?_) (fun c_2 => ?_)
  · refine lv_iconst (v := nI 0) hx hb dX3_isOverGap_23 (by decide) ?_
    exact W.zret (v := (nI 0)) hx hb hr (by decide) (fun t ht hW => ⟨(nI 0), rfl, Or.inr ⟨rfl, (by omega)⟩, ht⟩) (fun _ h => by cases h) dX3_isOverGap_24
  · refine lv_iload_n hx hb dX3_isOverGap_9 rfl (lv_at hl 1 rfl) ?_
    refine lv_aload_n hx hb dX3_isOverGap_10 rfl (lv_at hl 0 rfl) ?_
    refine va_get (D := (dC, dI)) (ci := 3) (v := .ref aCz) (C := RX3) (T := TX3) (N := 2) hx hb hts mX3_isOverGap_inX3 hown hK hP 0 rfl rfl 1 (by decide) (hts (.fieldLink RX3 9 "LeafOrder$Scale" "sizes" "[I") mX3_isOverGap_0) (fun _ h9 => h9) rfl dX3_isOverGap_11 ?_
    refine lv_iconst (v := nI 5) hx hb dX3_isOverGap_14 (by decide) ?_
    refine ln_iald (i := 5) hx hb hK hP 1 0 rfl rfl (by omega) (by decide) dX3_isOverGap_15 ?_
    have b_3 := bCz 5
    refine ln_icmp_le (tgt := 23) hx hb dX3_isOverGap_16 (by decide) (by omega) (by omega) (fun c_4 => ?_) (fun c_4 => ?_)
    · refine lv_iconst (v := nI 0) hx hb dX3_isOverGap_23 (by decide) ?_
      exact W.zret (v := (nI 0)) hx hb hr (by decide) (fun t ht hW => ⟨(nI 0), rfl, Or.inr ⟨rfl, (by omega)⟩, ht⟩) (fun _ h => by cases h) dX3_isOverGap_24
    · refine lv_iconst (v := nI 1) hx hb dX3_isOverGap_19 (by decide) ?_
      refine lv_goto (tgt := 24) hx hb dX3_isOverGap_20 (by decide) ?_
      exact W.zret (v := (nI 1)) hx hb hr (by decide) (fun t ht hW => ⟨(nI 1), rfl, Or.inl ⟨rfl, ⟨by omega, by omega⟩⟩, ht⟩) (fun _ h => by cases h) dX3_isOverGap_24
theorem mX3_joinCost_0 : Cond.fieldLink RX3 9 "LeafOrder$Scale" "sizes" "[I" ∈ wsX3_joinCost := by decide +kernel
theorem mX3_joinCost_inX3 : ∀ w ∈ wsX30, w ∈ wsX3_joinCost := by decide +kernel
set_option maxHeartbeats 4000000 in
set_option maxRecDepth 100000 in
theorem k_X3_joinCost (l : Launch) (dC : Nat → ClassId) (dI : Nat → Nat → Nat) (cI cZ : ClassId) (aC aL aCz aLb aLe aLw aLc aLd aLs : Nat) (fz : Nat → Nat) (nL : Nat) (fb : Nat → Nat) (fe : Nat → Nat) (fw : Nat → Int32) (fc : Nat → Nat) (fd : Nat → Nat) (fs : Nat → Nat) (q1 : Nat) (q2 : Nat) (bCz : ∀ k, fz k ≤ 999) (bLb : ∀ k, fb k ≤ 99) (bLe : ∀ k, fe k ≤ 99) (bLc : ∀ k, fc k ≤ 99) (bLd : ∀ k, fd k ≤ 99) (bLs : ∀ k, fs k ≤ 99) (h1 : q1 < 18) (h2 : q2 < 18) : Met l yX3_joinCost wsX3_joinCost { frames := 3, cells := 0, slots := 0, locals := 72 } (va_Pc [.ref aC, .int (nI q1), .int (nI q2)] (fun U => va_P (dC, dI) vwCl [(aC, .inr (3, [.ref aL, .ref aCz])), (aCz, .inl (cI, 6, .inl (nF fz))), (aL, .inr (1, [.int (nI nL), .ref aLb, .ref aLe, .ref aLw, .ref aLc, .ref aLd, .ref aLs])), (aLb, .inl (cI, 18, .inl (nF fb))), (aLe, .inl (cI, 18, .inl (nF fe))), (aLw, .inl (cI, 18, .inl fw)), (aLc, .inl (cI, 18, .inl (nF fc))), (aLd, .inl (cI, 18, .inl (nF fd))), (aLs, .inl (cI, 27, .inl (nF fs)))] U.heap ∧ lK dC dI cI cZ U)) (vp_Si (fun r => r = (nI (m_join fb fe fw fc fd fs fz q1 q2)))) 0 0 (fun _ => False) := by
  refine Met.ofW (cc := cX3_joinCost) (maxL := 4) (ret := (some .int)) (by decide) rfl ?_
  intro p e s m args below meth c s₁ B hml hv
  obtain ⟨rfl, hP, hKK⟩ := hv
  have hK := hKK.1
  have hx := B.exec
  have hb := B.bytes
  have hr := B.returns
  have hts := atoms_spec (ws := wsX3_joinCost) B.pre
  have hown : s.vm.findClass RX3 = some m.cls := findClass_of_methodNamed B.named
  have hlocks := B.notSynchronized
  have hl := lv_entry ([.ref aC, .int (nI q1), .int (nI q2)]) (n := 4) (Nat.le_of_ble_eq_true rfl)
  rw [lg_entry_eq]
  generalize (lg_sl ([.ref aC, .int (nI q1), .int (nI q2)]) ++ List.replicate (4 - (lg_sl ([.ref aC, .int (nI q1), .int (nI q2)])).length) Slot.unset).toArray = ls at hl ⊢
  have hl : lv_has ls 4 [(0, .ref aC), (1, .int (nI q1)), (2, .int (nI q2))] := hl
  refine lv_aload_n hx hb dX3_joinCost_0 rfl (lv_at hl 0 rfl) ?_
  refine lv_iload_n hx hb dX3_joinCost_1 rfl (lv_at hl 1 rfl) ?_
  refine lv_iload_n hx hb dX3_joinCost_2 rfl (lv_at hl 2 rfl) ?_
  have hPc := hP.sub (ws' := [(aC, .inr (3, [.ref aL, .ref aCz])), (aCz, .inl (cI, 6, .inl (nF fz))), (aL, .inr (1, [.int (nI nL), .ref aLb, .ref aLe, .ref aLw, .ref aLc, .ref aLd, .ref aLs])), (aLb, .inl (cI, 18, .inl (nF fb))), (aLe, .inl (cI, 18, .inl (nF fe))), (aLw, .inl (cI, 18, .inl fw)), (aLc, .inl (cI, 18, .inl (nF fc))), (aLd, .inl (cI, 18, .inl (nF fd))), (aLs, .inl (cI, 27, .inl (nF fs)))]) [0, 1, 2, 3, 4, 5, 6, 7, 8] rfl
  refine vp_callSi (W.runV (As := [.int (nI q1), .int (nI q2)]) (rest := []) ⟨hx, hb, hml, hown, hts⟩ (k_X3_fullCost l dC dI cI cZ aC aL aCz aLb aLe aLw aLc aLd aLs fz nL fb fe fw fc fd fs q1 q2 bCz bLb bLe bLc bLd bLs (by omega) (by omega)) (cwV 2 hts gX3_joinCost_X3_fullCost rfl rfl rfl (by decide +kernel) ⟨Nat.le_of_ble_eq_true rfl, Nat.le_of_ble_eq_true rfl⟩) (ln_preV (q0 := 0) (ci := 3) hPc hKK rfl rfl) rfl rfl hl.1 rfl (lv_room (Nat.le_of_ble_eq_true rfl)) dX3_joinCost_3 ⟨Nat.le_of_ble_eq_true rfl, Nat.le_of_ble_eq_true rfl⟩) (fun r_1 w_2 => ?_)
  subst w_2
  refine lv_istore_n (lv' := [(3, .int (nI (m_full fb fe fw fc fd fs fz q1 q2))), (0, .ref aC), (1, .int (nI q1)), (2, .int (nI q2))]) hx hb dX3_joinCost_6 rfl hl (by decide) rfl (fun ls hl => ?_)
  refine lv_aload_n hx hb dX3_joinCost_7 rfl (lv_at hl 1 rfl) ?_
  refine lv_iload_n hx hb dX3_joinCost_8 rfl (lv_at hl 0 rfl) ?_
  have hPc := hP.sub (ws' := [(aC, .inr (3, [.ref aL, .ref aCz])), (aCz, .inl (cI, 6, .inl (nF fz)))]) [0, 1] rfl
  refine vp_callSi (W.runV (As := [.int (nI (m_full fb fe fw fc fd fs fz q1 q2))]) (rest := []) ⟨hx, hb, hml, hown, hts⟩ (k_X3_isOverGap l dC dI cI cZ aC aL aCz fz (m_full fb fe fw fc fd fs fz q1 q2) bCz (Nat.lt_of_le_of_lt (m_full_le fb fe fw fc fd fs fz q1 q2 bLb bLe bLs bCz) (by decide))) (cwV 1 hts gX3_joinCost_X3_isOverGap rfl rfl rfl (by decide +kernel) ⟨Nat.le_of_ble_eq_true rfl, Nat.le_of_ble_eq_true rfl⟩) (ln_preV (q0 := 0) (ci := 3) hPc hKK rfl rfl) rfl rfl hl.1 rfl (lv_room (Nat.le_of_ble_eq_true rfl)) dX3_joinCost_9 ⟨Nat.le_of_ble_eq_true rfl, Nat.le_of_ble_eq_true rfl⟩) (fun r_3 w_4 => ?_)
  rcases w_4 with ⟨rfl, c_5⟩ | ⟨rfl, c_5⟩
  · refine ln_if_eqF (tgt := 24) hx hb dX3_joinCost_12 (by decide) (by decide) ?_
    refine lv_aload_n hx hb dX3_joinCost_15 rfl (lv_at hl 1 rfl) ?_
    refine va_get (D := (dC, dI)) (ci := 3) (v := .ref aCz) (C := RX3) (T := TX3) (N := 2) hx hb hts mX3_joinCost_inX3 hown hK hP 0 rfl rfl 1 (by decide) (hts (.fieldLink RX3 9 "LeafOrder$Scale" "sizes" "[I") mX3_joinCost_0) (fun _ h9 => h9) rfl dX3_joinCost_16 ?_
    refine lv_iconst (v := nI 5) hx hb dX3_joinCost_19 (by decide) ?_
    refine ln_iald (i := 5) hx hb hK hP 1 0 rfl rfl (by omega) (by decide) dX3_joinCost_20 ?_
    have b_6 := bCz 5
    refine lv_goto (tgt := 25) hx hb dX3_joinCost_21 (by decide) ?_
    exact W.iret (v := (nI (fz 5))) hx hb hr (fun t ht hW => ⟨(nI (fz 5)), rfl, (by unfold m_join; rw [if_pos c_5]), ht⟩) (fun _ h => by cases h) dX3_joinCost_25
  · refine ln_if_eqT (tgt := 24) hx hb dX3_joinCost_12 (by decide) (by decide) ?_
    refine lv_iload_n hx hb dX3_joinCost_24 rfl (lv_at hl 0 rfl) ?_
    exact W.iret (v := (nI (m_full fb fe fw fc fd fs fz q1 q2))) hx hb hr (fun t ht hW => ⟨(nI (m_full fb fe fw fc fd fs fz q1 q2)), rfl, (by unfold m_join; rw [if_neg c_5]), ht⟩) (fun _ h => by cases h) dX3_joinCost_25
set_option maxHeartbeats 4000000 in
set_option maxRecDepth 100000 in
theorem k_X3_isMissing (l : Launch) (dC : Nat → ClassId) (dI : Nat → Nat → Nat) (cI cZ : ClassId) (aC aL aCz aLb aLe aLw aLc aLd aLs : Nat) (fz : Nat → Nat) (nL : Nat) (fb : Nat → Nat) (fe : Nat → Nat) (fw : Nat → Int32) (fc : Nat → Nat) (fd : Nat → Nat) (fs : Nat → Nat) (q1 : Nat) (q2 : Nat) (bCz : ∀ k, fz k ≤ 999) (bLb : ∀ k, fb k ≤ 99) (bLe : ∀ k, fe k ≤ 99) (bLc : ∀ k, fc k ≤ 99) (bLd : ∀ k, fd k ≤ 99) (bLs : ∀ k, fs k ≤ 99) (h1 : q1 < 18) (h2 : q2 < 18) : Met l yX3_isMissing wsX3_isMissing { frames := 3, cells := 0, slots := 0, locals := 72 } (va_Pc [.ref aC, .int (nI q1), .int (nI q2)] (fun U => va_P (dC, dI) vwCl [(aC, .inr (3, [.ref aL, .ref aCz])), (aCz, .inl (cI, 6, .inl (nF fz))), (aL, .inr (1, [.int (nI nL), .ref aLb, .ref aLe, .ref aLw, .ref aLc, .ref aLd, .ref aLs])), (aLb, .inl (cI, 18, .inl (nF fb))), (aLe, .inl (cI, 18, .inl (nF fe))), (aLw, .inl (cI, 18, .inl fw)), (aLc, .inl (cI, 18, .inl (nF fc))), (aLd, .inl (cI, 18, .inl (nF fd))), (aLs, .inl (cI, 27, .inl (nF fs)))] U.heap ∧ lK dC dI cI cZ U)) (vp_Si (fun r => (r = nI 1 ∧ (0 < fz 5 ∧ fz 5 < m_full fb fe fw fc fd fs fz q1 q2)) ∨ (r = nI 0 ∧ ¬ (0 < fz 5 ∧ fz 5 < m_full fb fe fw fc fd fs fz q1 q2)))) 0 0 (fun _ => False) := by
  refine Met.ofW (cc := cX3_isMissing) (maxL := 3) (ret := (some .boolean)) (by decide) rfl ?_
  intro p e s m args below meth c s₁ B hml hv
  obtain ⟨rfl, hP, hKK⟩ := hv
  have hK := hKK.1
  have hx := B.exec
  have hb := B.bytes
  have hr := B.returns
  have hts := atoms_spec (ws := wsX3_isMissing) B.pre
  have hown : s.vm.findClass RX3 = some m.cls := findClass_of_methodNamed B.named
  have hlocks := B.notSynchronized
  have hl := lv_entry ([.ref aC, .int (nI q1), .int (nI q2)]) (n := 3) (Nat.le_of_ble_eq_true rfl)
  rw [lg_entry_eq]
  generalize (lg_sl ([.ref aC, .int (nI q1), .int (nI q2)]) ++ List.replicate (3 - (lg_sl ([.ref aC, .int (nI q1), .int (nI q2)])).length) Slot.unset).toArray = ls at hl ⊢
  have hl : lv_has ls 3 [(0, .ref aC), (1, .int (nI q1)), (2, .int (nI q2))] := hl
  refine lv_aload_n hx hb dX3_isMissing_0 rfl (lv_at hl 0 rfl) ?_
  refine lv_aload_n hx hb dX3_isMissing_1 rfl (lv_at hl 0 rfl) ?_
  refine lv_iload_n hx hb dX3_isMissing_2 rfl (lv_at hl 1 rfl) ?_
  refine lv_iload_n hx hb dX3_isMissing_3 rfl (lv_at hl 2 rfl) ?_
  have hPc := hP.sub (ws' := [(aC, .inr (3, [.ref aL, .ref aCz])), (aCz, .inl (cI, 6, .inl (nF fz))), (aL, .inr (1, [.int (nI nL), .ref aLb, .ref aLe, .ref aLw, .ref aLc, .ref aLd, .ref aLs])), (aLb, .inl (cI, 18, .inl (nF fb))), (aLe, .inl (cI, 18, .inl (nF fe))), (aLw, .inl (cI, 18, .inl fw)), (aLc, .inl (cI, 18, .inl (nF fc))), (aLd, .inl (cI, 18, .inl (nF fd))), (aLs, .inl (cI, 27, .inl (nF fs)))]) [0, 1, 2, 3, 4, 5, 6, 7, 8] rfl
  refine vp_callSi (W.runV (As := [.int (nI q1), .int (nI q2)]) (rest := [.ref aC]) ⟨hx, hb, hml, hown, hts⟩ (k_X3_fullCost l dC dI cI cZ aC aL aCz aLb aLe aLw aLc aLd aLs fz nL fb fe fw fc fd fs q1 q2 bCz bLb bLe bLc bLd bLs (by omega) (by omega)) (cwV 2 hts gX3_isMissing_X3_fullCost rfl rfl rfl (by decide +kernel) ⟨Nat.le_of_ble_eq_true rfl, Nat.le_of_ble_eq_true rfl⟩) (ln_preV (q0 := 0) (ci := 3) hPc hKK rfl rfl) rfl rfl hl.1 rfl (lv_room (Nat.le_of_ble_eq_true rfl)) dX3_isMissing_4 ⟨Nat.le_of_ble_eq_true rfl, Nat.le_of_ble_eq_true rfl⟩) (fun r_1 w_2 => ?_)
  subst w_2
  have hPc := hP.sub (ws' := [(aC, .inr (3, [.ref aL, .ref aCz])), (aCz, .inl (cI, 6, .inl (nF fz)))]) [0, 1] rfl
  refine vp_callSi (W.runV (As := [.int (nI (m_full fb fe fw fc fd fs fz q1 q2))]) (rest := []) ⟨hx, hb, hml, hown, hts⟩ (k_X3_isOverGap l dC dI cI cZ aC aL aCz fz (m_full fb fe fw fc fd fs fz q1 q2) bCz (Nat.lt_of_le_of_lt (m_full_le fb fe fw fc fd fs fz q1 q2 bLb bLe bLs bCz) (by decide))) (cwV 1 hts gX3_isMissing_X3_isOverGap rfl rfl rfl (by decide +kernel) ⟨Nat.le_of_ble_eq_true rfl, Nat.le_of_ble_eq_true rfl⟩) (ln_preV (q0 := 0) (ci := 3) hPc hKK rfl rfl) rfl rfl hl.1 rfl (lv_room (Nat.le_of_ble_eq_true rfl)) dX3_isMissing_7 ⟨Nat.le_of_ble_eq_true rfl, Nat.le_of_ble_eq_true rfl⟩) (fun r_3 w_4 => ?_)
  rcases w_4 with ⟨rfl, c_5⟩ | ⟨rfl, c_5⟩
  · exact W.zret (v := (nI 1)) hx hb hr (by decide) (fun t ht hW => ⟨(nI 1), rfl, Or.inl ⟨rfl, (by assumption)⟩, ht⟩) (fun _ h => by cases h) dX3_isMissing_10
  · exact W.zret (v := (nI 0)) hx hb hr (by decide) (fun t ht hW => ⟨(nI 0), rfl, Or.inr ⟨rfl, (by assumption)⟩, ht⟩) (fun _ h => by cases h) dX3_isMissing_10
theorem mX4_prepare_0 : Cond.fieldLink RX4 28 "LeafOrder$Scale" "pile" "LLeafOrder$Leaves;" ∈ wsX4_prepare := by decide +kernel
theorem mX4_prepare_inX3 : ∀ w ∈ wsX30, w ∈ wsX4_prepare := by decide +kernel
theorem mX4_prepare_2 : Cond.fieldLink RX4 34 "LeafOrder$Leaves" "count" "I" ∈ wsX4_prepare := by decide +kernel
theorem mX4_prepare_inX1 : ∀ w ∈ wsX10, w ∈ wsX4_prepare := by decide +kernel
theorem mX4_prepare_4 : Cond.fieldLink RX4 40 "LeafOrder$Search" "count" "I" ∈ wsX4_prepare := by decide +kernel
theorem mX4_prepare_inX4 : ∀ w ∈ wsX40, w ∈ wsX4_prepare := by decide +kernel
theorem mX4_prepare_6 : Cond.constant RX4 44 (1000000) ∈ wsX4_prepare := by decide +kernel
theorem mX4_prepare_7 : Cond.fieldLink RX4 45 "LeafOrder$Search" "turnCost" "I" ∈ wsX4_prepare := by decide +kernel
theorem mX4_prepare_8 : Cond.fieldLink RX4 9 "LeafOrder$Search" "joins" "[I" ∈ wsX4_prepare := by decide +kernel
theorem mX4_prepare_9 : Cond.fieldLink RX4 41 "LeafOrder$Scale" "sizes" "[I" ∈ wsX4_prepare := by decide +kernel
set_option maxHeartbeats 4000000 in
set_option maxRecDepth 100000 in
theorem k_X4_prepare (l : Launch) (dC : Nat → ClassId) (dI : Nat → Nat → Nat) (cI cZ : ClassId) (aS aR aSj aSl aSs aSo aC aL aCz aLb aLe aLw aLc aLd aLs : Nat) (sn : Nat) (st : Nat) (sb : Nat) (sx : Nat) (sj : Nat → Nat) (fz : Nat → Nat) (nL : Nat) (fb : Nat → Nat) (fe : Nat → Nat) (fw : Nat → Int32) (fc : Nat → Nat) (fd : Nat → Nat) (fs : Nat → Nat) (mt : Nat) (sz : Nat) (bSj : ∀ k, sj k ≤ 10000) (bCz : ∀ k, fz k ≤ 999) (bLb : ∀ k, fb k ≤ 99) (bLe : ∀ k, fe k ≤ 99) (bLc : ∀ k, fc k ≤ 99) (bLd : ∀ k, fd k ≤ 99) (bLs : ∀ k, fs k ≤ 99) (hn : nL ≤ 9) (hz : fz 0 ≤ 9 ∧ fz 1 ≤ 9) (bmt : mt < 2) : Met l yX4_prepare wsX4_prepare { frames := 4, cells := 0, slots := 0, locals := 95 } (va_Pc [.ref aS, .ref aC, .int (nI mt)] (fun U => U.heap.size = sz ∧ va_P (dC, dI) vwCl [(aS, .inr (4, [.ref aR, .ref aSj, .ref aSl, .ref aSs, .ref aSo, .int (nI sn), .int (nI st), .int (nI sb), .int (nI sx)])), (aSj, .inl (cI, 324, .inl (nF sj))), (aC, .inr (3, [.ref aL, .ref aCz])), (aCz, .inl (cI, 6, .inl (nF fz))), (aL, .inr (1, [.int (nI nL), .ref aLb, .ref aLe, .ref aLw, .ref aLc, .ref aLd, .ref aLs])), (aLb, .inl (cI, 18, .inl (nF fb))), (aLe, .inl (cI, 18, .inl (nF fe))), (aLw, .inl (cI, 18, .inl fw)), (aLc, .inl (cI, 18, .inl (nF fc))), (aLd, .inl (cI, 18, .inl (nF fd))), (aLs, .inl (cI, 27, .inl (nF fs)))] U.heap ∧ lK dC dI cI cZ U ∧ va_D (fun _ => True) [(aS, .inr (4, [.ref aR, .ref aSj, .ref aSl, .ref aSs, .ref aSo, .int (nI sn), .int (nI st), .int (nI sb), .int (nI sx)])), (aSj, .inl (cI, 324, .inl (nF sj))), (aC, .inr (3, [.ref aL, .ref aCz])), (aCz, .inl (cI, 6, .inl (nF fz))), (aL, .inr (1, [.int (nI nL), .ref aLb, .ref aLe, .ref aLw, .ref aLc, .ref aLd, .ref aLs])), (aLb, .inl (cI, 18, .inl (nF fb))), (aLe, .inl (cI, 18, .inl (nF fe))), (aLw, .inl (cI, 18, .inl fw)), (aLc, .inl (cI, 18, .inl (nF fc))), (aLd, .inl (cI, 18, .inl (nF fd))), (aLs, .inl (cI, 27, .inl (nF fs)))])) (va_Qv (fun (u : (Nat) × (Nat) × (Nat → Nat)) => match u with | (snz, stz, sjz) => snz = nL ∧ stz = (if mt = 0 then 1000000 else fz 4) ∧ sjz = m_prep nL (m_join fb fe fw fc fd fs fz) sj (2 * nL) ∧ ∀ k, sjz k ≤ 10000) (fun (u : (Nat) × (Nat) × (Nat → Nat)) (t : State) => match u with | (snz, stz, sjz) => va_P (dC, dI) vwCl [(aS, .inr (4, [.ref aR, .ref aSj, .ref aSl, .ref aSs, .ref aSo, .int (nI snz), .int (nI stz), .int (nI sb), .int (nI sx)])), (aSj, .inl (cI, 324, .inl (nF sjz))), (aC, .inr (3, [.ref aL, .ref aCz])), (aCz, .inl (cI, 6, .inl (nF fz))), (aL, .inr (1, [.int (nI nL), .ref aLb, .ref aLe, .ref aLw, .ref aLc, .ref aLd, .ref aLs])), (aLb, .inl (cI, 18, .inl (nF fb))), (aLe, .inl (cI, 18, .inl (nF fe))), (aLw, .inl (cI, 18, .inl fw)), (aLc, .inl (cI, 18, .inl (nF fc))), (aLd, .inl (cI, 18, .inl (nF fd))), (aLs, .inl (cI, 27, .inl (nF fs)))] t.heap ∧ va_D (va_A [(aS, .inr (4, [.ref aR, .ref aSj, .ref aSl, .ref aSs, .ref aSo, .int (nI sn), .int (nI st), .int (nI sb), .int (nI sx)])), (aSj, .inl (cI, 324, .inl (nF sj))), (aC, .inr (3, [.ref aL, .ref aCz])), (aCz, .inl (cI, 6, .inl (nF fz))), (aL, .inr (1, [.int (nI nL), .ref aLb, .ref aLe, .ref aLw, .ref aLc, .ref aLd, .ref aLs])), (aLb, .inl (cI, 18, .inl (nF fb))), (aLe, .inl (cI, 18, .inl (nF fe))), (aLw, .inl (cI, 18, .inl fw)), (aLc, .inl (cI, 18, .inl (nF fc))), (aLd, .inl (cI, 18, .inl (nF fd))), (aLs, .inl (cI, 27, .inl (nF fs)))] sz) [(aS, .inr (4, [.ref aR, .ref aSj, .ref aSl, .ref aSs, .ref aSo, .int (nI snz), .int (nI stz), .int (nI sb), .int (nI sx)])), (aSj, .inl (cI, 324, .inl (nF sjz))), (aC, .inr (3, [.ref aL, .ref aCz])), (aCz, .inl (cI, 6, .inl (nF fz))), (aL, .inr (1, [.int (nI nL), .ref aLb, .ref aLe, .ref aLw, .ref aLc, .ref aLd, .ref aLs])), (aLb, .inl (cI, 18, .inl (nF fb))), (aLe, .inl (cI, 18, .inl (nF fe))), (aLw, .inl (cI, 18, .inl fw)), (aLc, .inl (cI, 18, .inl (nF fc))), (aLd, .inl (cI, 18, .inl (nF fd))), (aLs, .inl (cI, 27, .inl (nF fs)))]) (va_A [(aS, .inr (4, [.ref aR, .ref aSj, .ref aSl, .ref aSs, .ref aSo, .int (nI sn), .int (nI st), .int (nI sb), .int (nI sx)])), (aSj, .inl (cI, 324, .inl (nF sj))), (aC, .inr (3, [.ref aL, .ref aCz])), (aCz, .inl (cI, 6, .inl (nF fz))), (aL, .inr (1, [.int (nI nL), .ref aLb, .ref aLe, .ref aLw, .ref aLc, .ref aLd, .ref aLs])), (aLb, .inl (cI, 18, .inl (nF fb))), (aLe, .inl (cI, 18, .inl (nF fe))), (aLw, .inl (cI, 18, .inl fw)), (aLc, .inl (cI, 18, .inl (nF fc))), (aLd, .inl (cI, 18, .inl (nF fd))), (aLs, .inl (cI, 27, .inl (nF fs)))] sz)) 0 0 (va_A [(aS, .inr (4, [.ref aR, .ref aSj, .ref aSl, .ref aSs, .ref aSo, .int (nI sn), .int (nI st), .int (nI sb), .int (nI sx)])), (aSj, .inl (cI, 324, .inl (nF sj))), (aC, .inr (3, [.ref aL, .ref aCz])), (aCz, .inl (cI, 6, .inl (nF fz))), (aL, .inr (1, [.int (nI nL), .ref aLb, .ref aLe, .ref aLw, .ref aLc, .ref aLd, .ref aLs])), (aLb, .inl (cI, 18, .inl (nF fb))), (aLe, .inl (cI, 18, .inl (nF fe))), (aLw, .inl (cI, 18, .inl fw)), (aLc, .inl (cI, 18, .inl (nF fc))), (aLd, .inl (cI, 18, .inl (nF fd))), (aLs, .inl (cI, 27, .inl (nF fs)))] sz) := by
  refine Met.ofW (cc := cX4_prepare) (maxL := 5) (ret := none) (by decide) rfl ?_
  intro p e s m args below meth c s₁ B hml hv
  obtain ⟨rfl, hsz, hP, hKK, hD0⟩ := hv
  have hK := hKK.1
  have hx := B.exec
  have hb := B.bytes
  have hr := B.returns
  have hts := atoms_spec (ws := wsX4_prepare) B.pre
  have hown : s.vm.findClass RX4 = some m.cls := findClass_of_methodNamed B.named
  have hlocks := B.notSynchronized
  subst hsz
  have hD := hD0.self (sz := s.heap.size)
  generalize hAe : va_A [(aS, .inr (4, [.ref aR, .ref aSj, .ref aSl, .ref aSs, .ref aSo, .int (nI sn), .int (nI st), .int (nI sb), .int (nI sx)])), (aSj, .inl (cI, 324, .inl (nF sj))), (aC, .inr (3, [.ref aL, .ref aCz])), (aCz, .inl (cI, 6, .inl (nF fz))), (aL, .inr (1, [.int (nI nL), .ref aLb, .ref aLe, .ref aLw, .ref aLc, .ref aLd, .ref aLs])), (aLb, .inl (cI, 18, .inl (nF fb))), (aLe, .inl (cI, 18, .inl (nF fe))), (aLw, .inl (cI, 18, .inl fw)), (aLc, .inl (cI, 18, .inl (nF fc))), (aLd, .inl (cI, 18, .inl (nF fd))), (aLs, .inl (cI, 27, .inl (nF fs)))] s.heap.size = A at hD ⊢
  have hA : ∀ q : Nat, s.heap.size ≤ q → A q := fun q h => by rw [← hAe]; exact Or.inr h
  have hS : va_S A s.heap s.heap [] := va_S.rf
  have hl := lv_entry ([.ref aS, .ref aC, .int (nI mt)]) (n := 5) (Nat.le_of_ble_eq_true rfl)
  rw [lg_entry_eq]
  generalize (lg_sl ([.ref aS, .ref aC, .int (nI mt)]) ++ List.replicate (5 - (lg_sl ([.ref aS, .ref aC, .int (nI mt)])).length) Slot.unset).toArray = ls at hl ⊢
  have hl : lv_has ls 5 [(0, .ref aS), (1, .ref aC), (2, .int (nI mt))] := hl
  refine lv_aload_n hx hb dX4_prepare_0 rfl (lv_at hl 0 rfl) ?_
  refine lv_aload_n hx hb dX4_prepare_1 rfl (lv_at hl 1 rfl) ?_
  refine va_get (D := (dC, dI)) (ci := 3) (v := .ref aL) (C := RX3) (T := TX3) (N := 2) hx hb hts mX4_prepare_inX3 hown hK hP 2 rfl rfl 0 (by decide) (hts (.fieldLink RX4 28 "LeafOrder$Scale" "pile" "LLeafOrder$Leaves;") mX4_prepare_0) (fun _ h9 => h9) rfl dX4_prepare_2 ?_
  refine va_get (D := (dC, dI)) (ci := 1) (v := .int (nI nL)) (C := RX1) (T := TX1) (N := 7) hx hb hts mX4_prepare_inX1 hown hK hP 4 rfl rfl 0 (by decide) (hts (.fieldLink RX4 34 "LeafOrder$Leaves" "count" "I") mX4_prepare_2) (fun _ h9 => h9) rfl dX4_prepare_5 ?_
  refine va_put (D := (dC, dI)) (ci := 4) (v := .int (nI nL)) (ty := .int) (C := RX4) (T := TX4) (N := 9) hx hb hts mX4_prepare_inX4 tyX4 tyX4_ok nmX4 hown hK hP hD hS 0 rfl rfl 5 (by decide) (hts (.fieldLink RX4 40 "LeafOrder$Search" "count" "I") mX4_prepare_4) (fun _ h9 => h9) rfl (by decide +kernel) rfl rfl (Nat.le_of_ble_eq_true rfl) dX4_prepare_8 (fun H locs hP hD hS => ?_)
  have hP : va_P (dC, dI) vwCl [(aS, .inr (4, [.ref aR, .ref aSj, .ref aSl, .ref aSs, .ref aSo, .int (nI nL), .int (nI st), .int (nI sb), .int (nI sx)])), (aSj, .inl (cI, 324, .inl (nF sj))), (aC, .inr (3, [.ref aL, .ref aCz])), (aCz, .inl (cI, 6, .inl (nF fz))), (aL, .inr (1, [.int (nI nL), .ref aLb, .ref aLe, .ref aLw, .ref aLc, .ref aLd, .ref aLs])), (aLb, .inl (cI, 18, .inl (nF fb))), (aLe, .inl (cI, 18, .inl (nF fe))), (aLw, .inl (cI, 18, .inl fw)), (aLc, .inl (cI, 18, .inl (nF fc))), (aLd, .inl (cI, 18, .inl (nF fd))), (aLs, .inl (cI, 27, .inl (nF fs)))] H := hP
  have hD : va_D A [(aS, .inr (4, [.ref aR, .ref aSj, .ref aSl, .ref aSs, .ref aSo, .int (nI nL), .int (nI st), .int (nI sb), .int (nI sx)])), (aSj, .inl (cI, 324, .inl (nF sj))), (aC, .inr (3, [.ref aL, .ref aCz])), (aCz, .inl (cI, 6, .inl (nF fz))), (aL, .inr (1, [.int (nI nL), .ref aLb, .ref aLe, .ref aLw, .ref aLc, .ref aLd, .ref aLs])), (aLb, .inl (cI, 18, .inl (nF fb))), (aLe, .inl (cI, 18, .inl (nF fe))), (aLw, .inl (cI, 18, .inl fw)), (aLc, .inl (cI, 18, .inl (nF fc))), (aLd, .inl (cI, 18, .inl (nF fd))), (aLs, .inl (cI, 27, .inl (nF fs)))] := hD
  refine lv_aload_n hx hb dX4_prepare_11 rfl (lv_at hl 0 rfl) ?_
  refine lv_iload_n hx hb dX4_prepare_12 rfl (lv_at hl 2 rfl) ?_
  refine ln_if_eq (tgt := 25) hx hb dX4_prepare_13 (by decide) (by have := bmt; omega) (fun c_1 => ?_) (fun c_1 => ?_)
  · refine lv_ldc (v := nI 1000000) hx hb hown (hts (.constant RX4 44 (1000000)) mX4_prepare_6) dX4_prepare_25 ?_
    refine va_put (D := (dC, dI)) (ci := 4) (v := .int (nI 1000000)) (ty := .int) (C := RX4) (T := TX4) (N := 9) hx hb hts mX4_prepare_inX4 tyX4 tyX4_ok nmX4 hown hK hP hD hS 0 rfl rfl 6 (by decide) (hts (.fieldLink RX4 45 "LeafOrder$Search" "turnCost" "I") mX4_prepare_7) (fun _ h9 => h9) rfl (by decide +kernel) rfl rfl (Nat.le_of_ble_eq_true rfl) dX4_prepare_27 (fun H locs hP hD hS => ?_)
    have hP : va_P (dC, dI) vwCl [(aS, .inr (4, [.ref aR, .ref aSj, .ref aSl, .ref aSs, .ref aSo, .int (nI nL), .int (nI 1000000), .int (nI sb), .int (nI sx)])), (aSj, .inl (cI, 324, .inl (nF sj))), (aC, .inr (3, [.ref aL, .ref aCz])), (aCz, .inl (cI, 6, .inl (nF fz))), (aL, .inr (1, [.int (nI nL), .ref aLb, .ref aLe, .ref aLw, .ref aLc, .ref aLd, .ref aLs])), (aLb, .inl (cI, 18, .inl (nF fb))), (aLe, .inl (cI, 18, .inl (nF fe))), (aLw, .inl (cI, 18, .inl fw)), (aLc, .inl (cI, 18, .inl (nF fc))), (aLd, .inl (cI, 18, .inl (nF fd))), (aLs, .inl (cI, 27, .inl (nF fs)))] H := hP
    have hD : va_D A [(aS, .inr (4, [.ref aR, .ref aSj, .ref aSl, .ref aSs, .ref aSo, .int (nI nL), .int (nI 1000000), .int (nI sb), .int (nI sx)])), (aSj, .inl (cI, 324, .inl (nF sj))), (aC, .inr (3, [.ref aL, .ref aCz])), (aCz, .inl (cI, 6, .inl (nF fz))), (aL, .inr (1, [.int (nI nL), .ref aLb, .ref aLe, .ref aLw, .ref aLc, .ref aLd, .ref aLs])), (aLb, .inl (cI, 18, .inl (nF fb))), (aLe, .inl (cI, 18, .inl (nF fe))), (aLw, .inl (cI, 18, .inl fw)), (aLc, .inl (cI, 18, .inl (nF fc))), (aLd, .inl (cI, 18, .inl (nF fd))), (aLs, .inl (cI, 27, .inl (nF fs)))] := hD
    refine lv_iconst (v := nI 0) hx hb dX4_prepare_30 (by decide) ?_
    refine lv_istore_n (lv' := [(3, .int (nI 0)), (0, .ref aS), (1, .ref aC), (2, .int (nI mt))]) hx hb dX4_prepare_31 rfl hl (by decide) rfl (fun ls hl => ?_)
    have LP32 : ∀ (n32 : Nat) (a : Nat) (sja : Nat → Nat), 2 * nL - a < n32 → (∀ k, sja k ≤ 10000) → (a ≤ 2 * nL) → (sja = m_prep nL (m_join fb fe fw fc fd fs fz) sj a) → ∀ (H : Heap) (locs : List Loc), va_P (dC, dI) vwCl [(aS, .inr (4, [.ref aR, .ref aSj, .ref aSl, .ref aSs, .ref aSo, .int (nI nL), .int (nI 1000000), .int (nI sb), .int (nI sx)])), (aSj, .inl (cI, 324, .inl (nF sja))), (aC, .inr (3, [.ref aL, .ref aCz])), (aCz, .inl (cI, 6, .inl (nF fz))), (aL, .inr (1, [.int (nI nL), .ref aLb, .ref aLe, .ref aLw, .ref aLc, .ref aLd, .ref aLs])), (aLb, .inl (cI, 18, .inl (nF fb))), (aLe, .inl (cI, 18, .inl (nF fe))), (aLw, .inl (cI, 18, .inl fw)), (aLc, .inl (cI, 18, .inl (nF fc))), (aLd, .inl (cI, 18, .inl (nF fd))), (aLs, .inl (cI, 27, .inl (nF fs)))] H → va_D A [(aS, .inr (4, [.ref aR, .ref aSj, .ref aSl, .ref aSs, .ref aSo, .int (nI nL), .int (nI 1000000), .int (nI sb), .int (nI sx)])), (aSj, .inl (cI, 324, .inl (nF sja))), (aC, .inr (3, [.ref aL, .ref aCz])), (aCz, .inl (cI, 6, .inl (nF fz))), (aL, .inr (1, [.int (nI nL), .ref aLb, .ref aLe, .ref aLw, .ref aLc, .ref aLd, .ref aLs])), (aLb, .inl (cI, 18, .inl (nF fb))), (aLe, .inl (cI, 18, .inl (nF fe))), (aLw, .inl (cI, 18, .inl fw)), (aLc, .inl (cI, 18, .inl (nF fc))), (aLd, .inl (cI, 18, .inl (nF fd))), (aLs, .inl (cI, 27, .inl (nF fs)))] → va_S A s.heap H locs → ∀ (ls : Array Slot), lv_has ls 5 [(0, .ref aS), (1, .ref aC), (2, .int (nI mt)), (3, .int (nI a))] → W p l e { frames := 4, cells := 0, slots := 0, locals := 95 } s m [.ref aS, .ref aC, .int (nI mt)].toArray below meth c H locs 0 0 (MQ below (va_Qv (fun (u : (Nat) × (Nat) × (Nat → Nat)) => match u with | (snz, stz, sjz) => snz = nL ∧ stz = (if mt = 0 then 1000000 else fz 4) ∧ sjz = m_prep nL (m_join fb fe fw fc fd fs fz) sj (2 * nL) ∧ ∀ k, sjz k ≤ 10000) (fun (u : (Nat) × (Nat) × (Nat → Nat)) (t : State) => match u with | (snz, stz, sjz) => va_P (dC, dI) vwCl [(aS, .inr (4, [.ref aR, .ref aSj, .ref aSl, .ref aSs, .ref aSo, .int (nI snz), .int (nI stz), .int (nI sb), .int (nI sx)])), (aSj, .inl (cI, 324, .inl (nF sjz))), (aC, .inr (3, [.ref aL, .ref aCz])), (aCz, .inl (cI, 6, .inl (nF fz))), (aL, .inr (1, [.int (nI nL), .ref aLb, .ref aLe, .ref aLw, .ref aLc, .ref aLd, .ref aLs])), (aLb, .inl (cI, 18, .inl (nF fb))), (aLe, .inl (cI, 18, .inl (nF fe))), (aLw, .inl (cI, 18, .inl fw)), (aLc, .inl (cI, 18, .inl (nF fc))), (aLd, .inl (cI, 18, .inl (nF fd))), (aLs, .inl (cI, 27, .inl (nF fs)))] t.heap ∧ va_D A [(aS, .inr (4, [.ref aR, .ref aSj, .ref aSl, .ref aSs, .ref aSo, .int (nI snz), .int (nI stz), .int (nI sb), .int (nI sx)])), (aSj, .inl (cI, 324, .inl (nF sjz))), (aC, .inr (3, [.ref aL, .ref aCz])), (aCz, .inl (cI, 6, .inl (nF fz))), (aL, .inr (1, [.int (nI nL), .ref aLb, .ref aLe, .ref aLw, .ref aLc, .ref aLd, .ref aLs])), (aLb, .inl (cI, 18, .inl (nF fb))), (aLe, .inl (cI, 18, .inl (nF fe))), (aLw, .inl (cI, 18, .inl fw)), (aLc, .inl (cI, 18, .inl (nF fc))), (aLd, .inl (cI, 18, .inl (nF fd))), (aLs, .inl (cI, 27, .inl (nF fs)))]) A) [.ref aS, .ref aC, .int (nI mt)].toArray s 0 0 A) (F0 m 32 ls []) := by
      intro n32
      induction n32 with
      | zero =>
        intro a sja hm
        exact absurd hm (Nat.not_lt_zero _)
      | succ n32 ih32 =>
        intro a sja hm32 bSja ha hja H locs hP hD hS ls hl
        refine lv_iload_n hx hb dX4_prepare_32 rfl (lv_at hl 3 rfl) ?_
        refine lv_iconst (v := nI 2) hx hb dX4_prepare_33 (by decide) ?_
        refine lv_aload_n hx hb dX4_prepare_34 rfl (lv_at hl 0 rfl) ?_
        refine va_get (D := (dC, dI)) (ci := 4) (v := .int (nI nL)) (C := RX4) (T := TX4) (N := 9) hx hb hts mX4_prepare_inX4 hown hK hP 0 rfl rfl 5 (by decide) (hts (.fieldLink RX4 40 "LeafOrder$Search" "count" "I") mX4_prepare_4) (fun _ h9 => h9) rfl dX4_prepare_35 ?_
        refine ln_imul hx hb dX4_prepare_38 ?_
        refine ln_icmp_ge (tgt := 87) hx hb dX4_prepare_39 (by decide) (by omega) (by omega) (fun c_2 => ?_) (fun c_2 => ?_)
        · exact W.vret hx hb hr (fun t ht hW => ⟨⟨(nL, 1000000, sja), rfl, ⟨rfl, (by rw [if_pos c_1]), (by rw [hja, show a = 2 * nL by omega]), bSja⟩, by rw [ht]; exact hP, hD⟩, hS.F ht⟩) hS.2.2 dX4_prepare_87
        · refine lv_iconst (v := nI 0) hx hb dX4_prepare_42 (by decide) ?_
          refine lv_istore (lv' := [(4, .int (nI 0)), (0, .ref aS), (1, .ref aC), (2, .int (nI mt)), (3, .int (nI a))]) hx hb dX4_prepare_43 hl (by decide) rfl (fun ls hl => ?_)
          have LP45 : ∀ (n45 : Nat) (b : Nat) (sjb : Nat → Nat), 2 * nL - b < n45 → (∀ k, sjb k ≤ 10000) → (b ≤ 2 * nL) → (sjb = m_joins nL (m_join fb fe fw fc fd fs fz) sja a b) → ∀ (H : Heap) (locs : List Loc), va_P (dC, dI) vwCl [(aS, .inr (4, [.ref aR, .ref aSj, .ref aSl, .ref aSs, .ref aSo, .int (nI nL), .int (nI 1000000), .int (nI sb), .int (nI sx)])), (aSj, .inl (cI, 324, .inl (nF sjb))), (aC, .inr (3, [.ref aL, .ref aCz])), (aCz, .inl (cI, 6, .inl (nF fz))), (aL, .inr (1, [.int (nI nL), .ref aLb, .ref aLe, .ref aLw, .ref aLc, .ref aLd, .ref aLs])), (aLb, .inl (cI, 18, .inl (nF fb))), (aLe, .inl (cI, 18, .inl (nF fe))), (aLw, .inl (cI, 18, .inl fw)), (aLc, .inl (cI, 18, .inl (nF fc))), (aLd, .inl (cI, 18, .inl (nF fd))), (aLs, .inl (cI, 27, .inl (nF fs)))] H → va_D A [(aS, .inr (4, [.ref aR, .ref aSj, .ref aSl, .ref aSs, .ref aSo, .int (nI nL), .int (nI 1000000), .int (nI sb), .int (nI sx)])), (aSj, .inl (cI, 324, .inl (nF sjb))), (aC, .inr (3, [.ref aL, .ref aCz])), (aCz, .inl (cI, 6, .inl (nF fz))), (aL, .inr (1, [.int (nI nL), .ref aLb, .ref aLe, .ref aLw, .ref aLc, .ref aLd, .ref aLs])), (aLb, .inl (cI, 18, .inl (nF fb))), (aLe, .inl (cI, 18, .inl (nF fe))), (aLw, .inl (cI, 18, .inl fw)), (aLc, .inl (cI, 18, .inl (nF fc))), (aLd, .inl (cI, 18, .inl (nF fd))), (aLs, .inl (cI, 27, .inl (nF fs)))] → va_S A s.heap H locs → ∀ (ls : Array Slot), lv_has ls 5 [(0, .ref aS), (1, .ref aC), (2, .int (nI mt)), (3, .int (nI a)), (4, .int (nI b))] → W p l e { frames := 4, cells := 0, slots := 0, locals := 95 } s m [.ref aS, .ref aC, .int (nI mt)].toArray below meth c H locs 0 0 (MQ below (va_Qv (fun (u : (Nat) × (Nat) × (Nat → Nat)) => match u with | (snz, stz, sjz) => snz = nL ∧ stz = (if mt = 0 then 1000000 else fz 4) ∧ sjz = m_prep nL (m_join fb fe fw fc fd fs fz) sj (2 * nL) ∧ ∀ k, sjz k ≤ 10000) (fun (u : (Nat) × (Nat) × (Nat → Nat)) (t : State) => match u with | (snz, stz, sjz) => va_P (dC, dI) vwCl [(aS, .inr (4, [.ref aR, .ref aSj, .ref aSl, .ref aSs, .ref aSo, .int (nI snz), .int (nI stz), .int (nI sb), .int (nI sx)])), (aSj, .inl (cI, 324, .inl (nF sjz))), (aC, .inr (3, [.ref aL, .ref aCz])), (aCz, .inl (cI, 6, .inl (nF fz))), (aL, .inr (1, [.int (nI nL), .ref aLb, .ref aLe, .ref aLw, .ref aLc, .ref aLd, .ref aLs])), (aLb, .inl (cI, 18, .inl (nF fb))), (aLe, .inl (cI, 18, .inl (nF fe))), (aLw, .inl (cI, 18, .inl fw)), (aLc, .inl (cI, 18, .inl (nF fc))), (aLd, .inl (cI, 18, .inl (nF fd))), (aLs, .inl (cI, 27, .inl (nF fs)))] t.heap ∧ va_D A [(aS, .inr (4, [.ref aR, .ref aSj, .ref aSl, .ref aSs, .ref aSo, .int (nI snz), .int (nI stz), .int (nI sb), .int (nI sx)])), (aSj, .inl (cI, 324, .inl (nF sjz))), (aC, .inr (3, [.ref aL, .ref aCz])), (aCz, .inl (cI, 6, .inl (nF fz))), (aL, .inr (1, [.int (nI nL), .ref aLb, .ref aLe, .ref aLw, .ref aLc, .ref aLd, .ref aLs])), (aLb, .inl (cI, 18, .inl (nF fb))), (aLe, .inl (cI, 18, .inl (nF fe))), (aLw, .inl (cI, 18, .inl fw)), (aLc, .inl (cI, 18, .inl (nF fc))), (aLd, .inl (cI, 18, .inl (nF fd))), (aLs, .inl (cI, 27, .inl (nF fs)))]) A) [.ref aS, .ref aC, .int (nI mt)].toArray s 0 0 A) (F0 m 45 ls []) := by
            intro n45
            induction n45 with
            | zero =>
              intro b sjb hm
              exact absurd hm (Nat.not_lt_zero _)
            | succ n45 ih45 =>
              intro b sjb hm45 bSjb hbb hjb H locs hP hD hS ls hl
              refine lv_iload hx hb dX4_prepare_45 (lv_at hl 4 rfl) ?_
              refine lv_iconst (v := nI 2) hx hb dX4_prepare_47 (by decide) ?_
              refine lv_aload_n hx hb dX4_prepare_48 rfl (lv_at hl 0 rfl) ?_
              refine va_get (D := (dC, dI)) (ci := 4) (v := .int (nI nL)) (C := RX4) (T := TX4) (N := 9) hx hb hts mX4_prepare_inX4 hown hK hP 0 rfl rfl 5 (by decide) (hts (.fieldLink RX4 40 "LeafOrder$Search" "count" "I") mX4_prepare_4) (fun _ h9 => h9) rfl dX4_prepare_49 ?_
              refine ln_imul hx hb dX4_prepare_52 ?_
              refine ln_icmp_ge (tgt := 81) hx hb dX4_prepare_53 (by decide) (by omega) (by omega) (fun c_3 => ?_) (fun c_3 => ?_)
              · refine lv_iinc (v := (nI (a + 1))) (lv' := [(3, .int (nI (a + 1))), (0, .ref aS), (1, .ref aC), (2, .int (nI mt)), (4, .int (nI b))]) hx hb dX4_prepare_81 hl (k := 3) rfl (by first | exact nI_1 _ | rfl) (by decide) rfl (fun ls hl => ?_)
                refine lv_goto (tgt := 32) hx hb dX4_prepare_84 (by decide) ?_
                exact ih32 (a + 1) sjb (by omega) bSjb (by omega) (by rw [hjb, show b = 2 * nL by omega, m_prep, ← hja]) _ _ hP hD hS ls (lv_sub hl [1, 2, 3, 0] rfl)
              · refine lv_aload_n hx hb dX4_prepare_56 rfl (lv_at hl 0 rfl) ?_
                refine va_get (D := (dC, dI)) (ci := 4) (v := .ref aSj) (C := RX4) (T := TX4) (N := 9) hx hb hts mX4_prepare_inX4 hown hK hP 0 rfl rfl 1 (by decide) (hts (.fieldLink RX4 9 "LeafOrder$Search" "joins" "[I") mX4_prepare_8) (fun _ h9 => h9) rfl dX4_prepare_57 ?_
                refine lv_iload_n hx hb dX4_prepare_60 rfl (lv_at hl 3 rfl) ?_
                refine lv_bipush (v := nI 18) hx hb dX4_prepare_61 (by decide) ?_
                refine ln_imul hx hb dX4_prepare_63 ?_
                refine lv_iload hx hb dX4_prepare_64 (lv_at hl 4 rfl) ?_
                refine ln_iadd hx hb dX4_prepare_66 ?_
                refine lv_aload_n hx hb dX4_prepare_67 rfl (lv_at hl 1 rfl) ?_
                refine lv_iload_n hx hb dX4_prepare_68 rfl (lv_at hl 3 rfl) ?_
                refine lv_iload hx hb dX4_prepare_69 (lv_at hl 4 rfl) ?_
                have hPc := hP.sub (ws' := [(aC, .inr (3, [.ref aL, .ref aCz])), (aCz, .inl (cI, 6, .inl (nF fz))), (aL, .inr (1, [.int (nI nL), .ref aLb, .ref aLe, .ref aLw, .ref aLc, .ref aLd, .ref aLs])), (aLb, .inl (cI, 18, .inl (nF fb))), (aLe, .inl (cI, 18, .inl (nF fe))), (aLw, .inl (cI, 18, .inl fw)), (aLc, .inl (cI, 18, .inl (nF fc))), (aLd, .inl (cI, 18, .inl (nF fd))), (aLs, .inl (cI, 27, .inl (nF fs)))]) [2, 3, 4, 5, 6, 7, 8, 9, 10] rfl
                refine vp_callSi (W.runV (As := [.int (nI a), .int (nI b)]) (rest := [.int (nI ((a * 18) + b)), .ref aSj]) ⟨hx, hb, hml, hown, hts⟩ (k_X3_joinCost l dC dI cI cZ aC aL aCz aLb aLe aLw aLc aLd aLs fz nL fb fe fw fc fd fs a b bCz bLb bLe bLc bLd bLs (by omega) (by omega)) (cwV 2 hts gX4_prepare_X3_joinCost rfl rfl rfl (by decide +kernel) ⟨Nat.le_of_ble_eq_true rfl, Nat.le_of_ble_eq_true rfl⟩) (ln_preV (q0 := 0) (ci := 3) hPc hKK rfl rfl) rfl rfl hl.1 rfl (lv_room (Nat.le_of_ble_eq_true rfl)) dX4_prepare_71 ⟨Nat.le_of_ble_eq_true rfl, Nat.le_of_ble_eq_true rfl⟩) (fun r_4 w_5 => ?_)
                subst w_5
                have hjl := m_join_le fb fe fw fc fd fs fz a b bLb bLe bLs bCz hz
                refine ln_iast (i := (a * 18) + b) hx hb hK hP hD hS 1 0 rfl rfl (by omega) (by decide) dX4_prepare_74 (fun H locs hP hD hS => ?_)
                have b_6 : ∀ k, (upN sjb ((a * 18) + b) (m_join fb fe fw fc fd fs fz a b)) k ≤ 10000 := upN_le bSjb (by omega)
                have hP : va_P (dC, dI) vwCl [(aS, .inr (4, [.ref aR, .ref aSj, .ref aSl, .ref aSs, .ref aSo, .int (nI nL), .int (nI 1000000), .int (nI sb), .int (nI sx)])), (aSj, .inl (cI, 324, .inl (nF (upN sjb ((a * 18) + b) (m_join fb fe fw fc fd fs fz a b))))), (aC, .inr (3, [.ref aL, .ref aCz])), (aCz, .inl (cI, 6, .inl (nF fz))), (aL, .inr (1, [.int (nI nL), .ref aLb, .ref aLe, .ref aLw, .ref aLc, .ref aLd, .ref aLs])), (aLb, .inl (cI, 18, .inl (nF fb))), (aLe, .inl (cI, 18, .inl (nF fe))), (aLw, .inl (cI, 18, .inl fw)), (aLc, .inl (cI, 18, .inl (nF fc))), (aLd, .inl (cI, 18, .inl (nF fd))), (aLs, .inl (cI, 27, .inl (nF fs)))] H := hP
                have hD : va_D A [(aS, .inr (4, [.ref aR, .ref aSj, .ref aSl, .ref aSs, .ref aSo, .int (nI nL), .int (nI 1000000), .int (nI sb), .int (nI sx)])), (aSj, .inl (cI, 324, .inl (nF (upN sjb ((a * 18) + b) (m_join fb fe fw fc fd fs fz a b))))), (aC, .inr (3, [.ref aL, .ref aCz])), (aCz, .inl (cI, 6, .inl (nF fz))), (aL, .inr (1, [.int (nI nL), .ref aLb, .ref aLe, .ref aLw, .ref aLc, .ref aLd, .ref aLs])), (aLb, .inl (cI, 18, .inl (nF fb))), (aLe, .inl (cI, 18, .inl (nF fe))), (aLw, .inl (cI, 18, .inl fw)), (aLc, .inl (cI, 18, .inl (nF fc))), (aLd, .inl (cI, 18, .inl (nF fd))), (aLs, .inl (cI, 27, .inl (nF fs)))] := hD
                refine lv_iinc (v := (nI (b + 1))) (lv' := [(4, .int (nI (b + 1))), (0, .ref aS), (1, .ref aC), (2, .int (nI mt)), (3, .int (nI a))]) hx hb dX4_prepare_75 hl (k := 4) rfl (by first | exact nI_1 _ | rfl) (by decide) rfl (fun ls hl => ?_)
                refine lv_goto (tgt := 45) hx hb dX4_prepare_78 (by decide) ?_
                exact ih45 (b + 1) (upN sjb ((a * 18) + b) (m_join fb fe fw fc fd fs fz a b)) (by omega) b_6 (by omega) (by rw [m_joins, ← hjb]) _ _ hP hD hS ls (lv_sub hl [1, 2, 3, 4, 0] rfl)
          exact LP45 _ 0 sja (Nat.lt_succ_self _) bSja (Nat.zero_le _) rfl _ _ hP hD hS ls (lv_sub hl [1, 2, 3, 4, 0] rfl)
    exact LP32 _ 0 sj (Nat.lt_succ_self _) bSj (Nat.zero_le _) rfl _ _ hP hD hS ls (lv_sub hl [1, 2, 3, 0] rfl)
  · refine lv_aload_n hx hb dX4_prepare_16 rfl (lv_at hl 1 rfl) ?_
    refine va_get (D := (dC, dI)) (ci := 3) (v := .ref aCz) (C := RX3) (T := TX3) (N := 2) hx hb hts mX4_prepare_inX3 hown hK hP 2 rfl rfl 1 (by decide) (hts (.fieldLink RX4 41 "LeafOrder$Scale" "sizes" "[I") mX4_prepare_9) (fun _ h9 => h9) rfl dX4_prepare_17 ?_
    refine lv_iconst (v := nI 4) hx hb dX4_prepare_20 (by decide) ?_
    refine ln_iald (i := 4) hx hb hK hP 3 0 rfl rfl (by omega) (by decide) dX4_prepare_21 ?_
    have b_7 := bCz 4
    refine lv_goto (tgt := 27) hx hb dX4_prepare_22 (by decide) ?_
    refine va_put (D := (dC, dI)) (ci := 4) (v := .int (nI (fz 4))) (ty := .int) (C := RX4) (T := TX4) (N := 9) hx hb hts mX4_prepare_inX4 tyX4 tyX4_ok nmX4 hown hK hP hD hS 0 rfl rfl 6 (by decide) (hts (.fieldLink RX4 45 "LeafOrder$Search" "turnCost" "I") mX4_prepare_7) (fun _ h9 => h9) rfl (by decide +kernel) rfl rfl (Nat.le_of_ble_eq_true rfl) dX4_prepare_27 (fun H locs hP hD hS => ?_)
    have hP : va_P (dC, dI) vwCl [(aS, .inr (4, [.ref aR, .ref aSj, .ref aSl, .ref aSs, .ref aSo, .int (nI nL), .int (nI (fz 4)), .int (nI sb), .int (nI sx)])), (aSj, .inl (cI, 324, .inl (nF sj))), (aC, .inr (3, [.ref aL, .ref aCz])), (aCz, .inl (cI, 6, .inl (nF fz))), (aL, .inr (1, [.int (nI nL), .ref aLb, .ref aLe, .ref aLw, .ref aLc, .ref aLd, .ref aLs])), (aLb, .inl (cI, 18, .inl (nF fb))), (aLe, .inl (cI, 18, .inl (nF fe))), (aLw, .inl (cI, 18, .inl fw)), (aLc, .inl (cI, 18, .inl (nF fc))), (aLd, .inl (cI, 18, .inl (nF fd))), (aLs, .inl (cI, 27, .inl (nF fs)))] H := hP
    have hD : va_D A [(aS, .inr (4, [.ref aR, .ref aSj, .ref aSl, .ref aSs, .ref aSo, .int (nI nL), .int (nI (fz 4)), .int (nI sb), .int (nI sx)])), (aSj, .inl (cI, 324, .inl (nF sj))), (aC, .inr (3, [.ref aL, .ref aCz])), (aCz, .inl (cI, 6, .inl (nF fz))), (aL, .inr (1, [.int (nI nL), .ref aLb, .ref aLe, .ref aLw, .ref aLc, .ref aLd, .ref aLs])), (aLb, .inl (cI, 18, .inl (nF fb))), (aLe, .inl (cI, 18, .inl (nF fe))), (aLw, .inl (cI, 18, .inl fw)), (aLc, .inl (cI, 18, .inl (nF fc))), (aLd, .inl (cI, 18, .inl (nF fd))), (aLs, .inl (cI, 27, .inl (nF fs)))] := hD
    refine lv_iconst (v := nI 0) hx hb dX4_prepare_30 (by decide) ?_
    refine lv_istore_n (lv' := [(3, .int (nI 0)), (0, .ref aS), (1, .ref aC), (2, .int (nI mt))]) hx hb dX4_prepare_31 rfl hl (by decide) rfl (fun ls hl => ?_)
    have LP32 : ∀ (n32 : Nat) (a : Nat) (sja : Nat → Nat), 2 * nL - a < n32 → (∀ k, sja k ≤ 10000) → (a ≤ 2 * nL) → (sja = m_prep nL (m_join fb fe fw fc fd fs fz) sj a) → ∀ (H : Heap) (locs : List Loc), va_P (dC, dI) vwCl [(aS, .inr (4, [.ref aR, .ref aSj, .ref aSl, .ref aSs, .ref aSo, .int (nI nL), .int (nI (fz 4)), .int (nI sb), .int (nI sx)])), (aSj, .inl (cI, 324, .inl (nF sja))), (aC, .inr (3, [.ref aL, .ref aCz])), (aCz, .inl (cI, 6, .inl (nF fz))), (aL, .inr (1, [.int (nI nL), .ref aLb, .ref aLe, .ref aLw, .ref aLc, .ref aLd, .ref aLs])), (aLb, .inl (cI, 18, .inl (nF fb))), (aLe, .inl (cI, 18, .inl (nF fe))), (aLw, .inl (cI, 18, .inl fw)), (aLc, .inl (cI, 18, .inl (nF fc))), (aLd, .inl (cI, 18, .inl (nF fd))), (aLs, .inl (cI, 27, .inl (nF fs)))] H → va_D A [(aS, .inr (4, [.ref aR, .ref aSj, .ref aSl, .ref aSs, .ref aSo, .int (nI nL), .int (nI (fz 4)), .int (nI sb), .int (nI sx)])), (aSj, .inl (cI, 324, .inl (nF sja))), (aC, .inr (3, [.ref aL, .ref aCz])), (aCz, .inl (cI, 6, .inl (nF fz))), (aL, .inr (1, [.int (nI nL), .ref aLb, .ref aLe, .ref aLw, .ref aLc, .ref aLd, .ref aLs])), (aLb, .inl (cI, 18, .inl (nF fb))), (aLe, .inl (cI, 18, .inl (nF fe))), (aLw, .inl (cI, 18, .inl fw)), (aLc, .inl (cI, 18, .inl (nF fc))), (aLd, .inl (cI, 18, .inl (nF fd))), (aLs, .inl (cI, 27, .inl (nF fs)))] → va_S A s.heap H locs → ∀ (ls : Array Slot), lv_has ls 5 [(0, .ref aS), (1, .ref aC), (2, .int (nI mt)), (3, .int (nI a))] → W p l e { frames := 4, cells := 0, slots := 0, locals := 95 } s m [.ref aS, .ref aC, .int (nI mt)].toArray below meth c H locs 0 0 (MQ below (va_Qv (fun (u : (Nat) × (Nat) × (Nat → Nat)) => match u with | (snz, stz, sjz) => snz = nL ∧ stz = (if mt = 0 then 1000000 else fz 4) ∧ sjz = m_prep nL (m_join fb fe fw fc fd fs fz) sj (2 * nL) ∧ ∀ k, sjz k ≤ 10000) (fun (u : (Nat) × (Nat) × (Nat → Nat)) (t : State) => match u with | (snz, stz, sjz) => va_P (dC, dI) vwCl [(aS, .inr (4, [.ref aR, .ref aSj, .ref aSl, .ref aSs, .ref aSo, .int (nI snz), .int (nI stz), .int (nI sb), .int (nI sx)])), (aSj, .inl (cI, 324, .inl (nF sjz))), (aC, .inr (3, [.ref aL, .ref aCz])), (aCz, .inl (cI, 6, .inl (nF fz))), (aL, .inr (1, [.int (nI nL), .ref aLb, .ref aLe, .ref aLw, .ref aLc, .ref aLd, .ref aLs])), (aLb, .inl (cI, 18, .inl (nF fb))), (aLe, .inl (cI, 18, .inl (nF fe))), (aLw, .inl (cI, 18, .inl fw)), (aLc, .inl (cI, 18, .inl (nF fc))), (aLd, .inl (cI, 18, .inl (nF fd))), (aLs, .inl (cI, 27, .inl (nF fs)))] t.heap ∧ va_D A [(aS, .inr (4, [.ref aR, .ref aSj, .ref aSl, .ref aSs, .ref aSo, .int (nI snz), .int (nI stz), .int (nI sb), .int (nI sx)])), (aSj, .inl (cI, 324, .inl (nF sjz))), (aC, .inr (3, [.ref aL, .ref aCz])), (aCz, .inl (cI, 6, .inl (nF fz))), (aL, .inr (1, [.int (nI nL), .ref aLb, .ref aLe, .ref aLw, .ref aLc, .ref aLd, .ref aLs])), (aLb, .inl (cI, 18, .inl (nF fb))), (aLe, .inl (cI, 18, .inl (nF fe))), (aLw, .inl (cI, 18, .inl fw)), (aLc, .inl (cI, 18, .inl (nF fc))), (aLd, .inl (cI, 18, .inl (nF fd))), (aLs, .inl (cI, 27, .inl (nF fs)))]) A) [.ref aS, .ref aC, .int (nI mt)].toArray s 0 0 A) (F0 m 32 ls []) := by
      intro n32
      induction n32 with
      | zero =>
        intro a sja hm
        exact absurd hm (Nat.not_lt_zero _)
      | succ n32 ih32 =>
        intro a sja hm32 bSja ha hja H locs hP hD hS ls hl
        refine lv_iload_n hx hb dX4_prepare_32 rfl (lv_at hl 3 rfl) ?_
        refine lv_iconst (v := nI 2) hx hb dX4_prepare_33 (by decide) ?_
        refine lv_aload_n hx hb dX4_prepare_34 rfl (lv_at hl 0 rfl) ?_
        refine va_get (D := (dC, dI)) (ci := 4) (v := .int (nI nL)) (C := RX4) (T := TX4) (N := 9) hx hb hts mX4_prepare_inX4 hown hK hP 0 rfl rfl 5 (by decide) (hts (.fieldLink RX4 40 "LeafOrder$Search" "count" "I") mX4_prepare_4) (fun _ h9 => h9) rfl dX4_prepare_35 ?_
        refine ln_imul hx hb dX4_prepare_38 ?_
        refine ln_icmp_ge (tgt := 87) hx hb dX4_prepare_39 (by decide) (by omega) (by omega) (fun c_8 => ?_) (fun c_8 => ?_)
        · exact W.vret hx hb hr (fun t ht hW => ⟨⟨(nL, fz 4, sja), rfl, ⟨rfl, (by rw [if_neg c_1]), (by rw [hja, show a = 2 * nL by omega]), bSja⟩, by rw [ht]; exact hP, hD⟩, hS.F ht⟩) hS.2.2 dX4_prepare_87
        · refine lv_iconst (v := nI 0) hx hb dX4_prepare_42 (by decide) ?_
          refine lv_istore (lv' := [(4, .int (nI 0)), (0, .ref aS), (1, .ref aC), (2, .int (nI mt)), (3, .int (nI a))]) hx hb dX4_prepare_43 hl (by decide) rfl (fun ls hl => ?_)
          have LP45 : ∀ (n45 : Nat) (b : Nat) (sjb : Nat → Nat), 2 * nL - b < n45 → (∀ k, sjb k ≤ 10000) → (b ≤ 2 * nL) → (sjb = m_joins nL (m_join fb fe fw fc fd fs fz) sja a b) → ∀ (H : Heap) (locs : List Loc), va_P (dC, dI) vwCl [(aS, .inr (4, [.ref aR, .ref aSj, .ref aSl, .ref aSs, .ref aSo, .int (nI nL), .int (nI (fz 4)), .int (nI sb), .int (nI sx)])), (aSj, .inl (cI, 324, .inl (nF sjb))), (aC, .inr (3, [.ref aL, .ref aCz])), (aCz, .inl (cI, 6, .inl (nF fz))), (aL, .inr (1, [.int (nI nL), .ref aLb, .ref aLe, .ref aLw, .ref aLc, .ref aLd, .ref aLs])), (aLb, .inl (cI, 18, .inl (nF fb))), (aLe, .inl (cI, 18, .inl (nF fe))), (aLw, .inl (cI, 18, .inl fw)), (aLc, .inl (cI, 18, .inl (nF fc))), (aLd, .inl (cI, 18, .inl (nF fd))), (aLs, .inl (cI, 27, .inl (nF fs)))] H → va_D A [(aS, .inr (4, [.ref aR, .ref aSj, .ref aSl, .ref aSs, .ref aSo, .int (nI nL), .int (nI (fz 4)), .int (nI sb), .int (nI sx)])), (aSj, .inl (cI, 324, .inl (nF sjb))), (aC, .inr (3, [.ref aL, .ref aCz])), (aCz, .inl (cI, 6, .inl (nF fz))), (aL, .inr (1, [.int (nI nL), .ref aLb, .ref aLe, .ref aLw, .ref aLc, .ref aLd, .ref aLs])), (aLb, .inl (cI, 18, .inl (nF fb))), (aLe, .inl (cI, 18, .inl (nF fe))), (aLw, .inl (cI, 18, .inl fw)), (aLc, .inl (cI, 18, .inl (nF fc))), (aLd, .inl (cI, 18, .inl (nF fd))), (aLs, .inl (cI, 27, .inl (nF fs)))] → va_S A s.heap H locs → ∀ (ls : Array Slot), lv_has ls 5 [(0, .ref aS), (1, .ref aC), (2, .int (nI mt)), (3, .int (nI a)), (4, .int (nI b))] → W p l e { frames := 4, cells := 0, slots := 0, locals := 95 } s m [.ref aS, .ref aC, .int (nI mt)].toArray below meth c H locs 0 0 (MQ below (va_Qv (fun (u : (Nat) × (Nat) × (Nat → Nat)) => match u with | (snz, stz, sjz) => snz = nL ∧ stz = (if mt = 0 then 1000000 else fz 4) ∧ sjz = m_prep nL (m_join fb fe fw fc fd fs fz) sj (2 * nL) ∧ ∀ k, sjz k ≤ 10000) (fun (u : (Nat) × (Nat) × (Nat → Nat)) (t : State) => match u with | (snz, stz, sjz) => va_P (dC, dI) vwCl [(aS, .inr (4, [.ref aR, .ref aSj, .ref aSl, .ref aSs, .ref aSo, .int (nI snz), .int (nI stz), .int (nI sb), .int (nI sx)])), (aSj, .inl (cI, 324, .inl (nF sjz))), (aC, .inr (3, [.ref aL, .ref aCz])), (aCz, .inl (cI, 6, .inl (nF fz))), (aL, .inr (1, [.int (nI nL), .ref aLb, .ref aLe, .ref aLw, .ref aLc, .ref aLd, .ref aLs])), (aLb, .inl (cI, 18, .inl (nF fb))), (aLe, .inl (cI, 18, .inl (nF fe))), (aLw, .inl (cI, 18, .inl fw)), (aLc, .inl (cI, 18, .inl (nF fc))), (aLd, .inl (cI, 18, .inl (nF fd))), (aLs, .inl (cI, 27, .inl (nF fs)))] t.heap ∧ va_D A [(aS, .inr (4, [.ref aR, .ref aSj, .ref aSl, .ref aSs, .ref aSo, .int (nI snz), .int (nI stz), .int (nI sb), .int (nI sx)])), (aSj, .inl (cI, 324, .inl (nF sjz))), (aC, .inr (3, [.ref aL, .ref aCz])), (aCz, .inl (cI, 6, .inl (nF fz))), (aL, .inr (1, [.int (nI nL), .ref aLb, .ref aLe, .ref aLw, .ref aLc, .ref aLd, .ref aLs])), (aLb, .inl (cI, 18, .inl (nF fb))), (aLe, .inl (cI, 18, .inl (nF fe))), (aLw, .inl (cI, 18, .inl fw)), (aLc, .inl (cI, 18, .inl (nF fc))), (aLd, .inl (cI, 18, .inl (nF fd))), (aLs, .inl (cI, 27, .inl (nF fs)))]) A) [.ref aS, .ref aC, .int (nI mt)].toArray s 0 0 A) (F0 m 45 ls []) := by
            intro n45
            induction n45 with
            | zero =>
              intro b sjb hm
              exact absurd hm (Nat.not_lt_zero _)
            | succ n45 ih45 =>
              intro b sjb hm45 bSjb hbb hjb H locs hP hD hS ls hl
              refine lv_iload hx hb dX4_prepare_45 (lv_at hl 4 rfl) ?_
              refine lv_iconst (v := nI 2) hx hb dX4_prepare_47 (by decide) ?_
              refine lv_aload_n hx hb dX4_prepare_48 rfl (lv_at hl 0 rfl) ?_
              refine va_get (D := (dC, dI)) (ci := 4) (v := .int (nI nL)) (C := RX4) (T := TX4) (N := 9) hx hb hts mX4_prepare_inX4 hown hK hP 0 rfl rfl 5 (by decide) (hts (.fieldLink RX4 40 "LeafOrder$Search" "count" "I") mX4_prepare_4) (fun _ h9 => h9) rfl dX4_prepare_49 ?_
              refine ln_imul hx hb dX4_prepare_52 ?_
              refine ln_icmp_ge (tgt := 81) hx hb dX4_prepare_53 (by decide) (by omega) (by omega) (fun c_9 => ?_) (fun c_9 => ?_)
              · refine lv_iinc (v := (nI (a + 1))) (lv' := [(3, .int (nI (a + 1))), (0, .ref aS), (1, .ref aC), (2, .int (nI mt)), (4, .int (nI b))]) hx hb dX4_prepare_81 hl (k := 3) rfl (by first | exact nI_1 _ | rfl) (by decide) rfl (fun ls hl => ?_)
                refine lv_goto (tgt := 32) hx hb dX4_prepare_84 (by decide) ?_
                exact ih32 (a + 1) sjb (by omega) bSjb (by omega) (by rw [hjb, show b = 2 * nL by omega, m_prep, ← hja]) _ _ hP hD hS ls (lv_sub hl [1, 2, 3, 0] rfl)
              · refine lv_aload_n hx hb dX4_prepare_56 rfl (lv_at hl 0 rfl) ?_
                refine va_get (D := (dC, dI)) (ci := 4) (v := .ref aSj) (C := RX4) (T := TX4) (N := 9) hx hb hts mX4_prepare_inX4 hown hK hP 0 rfl rfl 1 (by decide) (hts (.fieldLink RX4 9 "LeafOrder$Search" "joins" "[I") mX4_prepare_8) (fun _ h9 => h9) rfl dX4_prepare_57 ?_
                refine lv_iload_n hx hb dX4_prepare_60 rfl (lv_at hl 3 rfl) ?_
                refine lv_bipush (v := nI 18) hx hb dX4_prepare_61 (by decide) ?_
                refine ln_imul hx hb dX4_prepare_63 ?_
                refine lv_iload hx hb dX4_prepare_64 (lv_at hl 4 rfl) ?_
                refine ln_iadd hx hb dX4_prepare_66 ?_
                refine lv_aload_n hx hb dX4_prepare_67 rfl (lv_at hl 1 rfl) ?_
                refine lv_iload_n hx hb dX4_prepare_68 rfl (lv_at hl 3 rfl) ?_
                refine lv_iload hx hb dX4_prepare_69 (lv_at hl 4 rfl) ?_
                have hPc := hP.sub (ws' := [(aC, .inr (3, [.ref aL, .ref aCz])), (aCz, .inl (cI, 6, .inl (nF fz))), (aL, .inr (1, [.int (nI nL), .ref aLb, .ref aLe, .ref aLw, .ref aLc, .ref aLd, .ref aLs])), (aLb, .inl (cI, 18, .inl (nF fb))), (aLe, .inl (cI, 18, .inl (nF fe))), (aLw, .inl (cI, 18, .inl fw)), (aLc, .inl (cI, 18, .inl (nF fc))), (aLd, .inl (cI, 18, .inl (nF fd))), (aLs, .inl (cI, 27, .inl (nF fs)))]) [2, 3, 4, 5, 6, 7, 8, 9, 10] rfl
                refine vp_callSi (W.runV (As := [.int (nI a), .int (nI b)]) (rest := [.int (nI ((a * 18) + b)), .ref aSj]) ⟨hx, hb, hml, hown, hts⟩ (k_X3_joinCost l dC dI cI cZ aC aL aCz aLb aLe aLw aLc aLd aLs fz nL fb fe fw fc fd fs a b bCz bLb bLe bLc bLd bLs (by omega) (by omega)) (cwV 2 hts gX4_prepare_X3_joinCost rfl rfl rfl (by decide +kernel) ⟨Nat.le_of_ble_eq_true rfl, Nat.le_of_ble_eq_true rfl⟩) (ln_preV (q0 := 0) (ci := 3) hPc hKK rfl rfl) rfl rfl hl.1 rfl (lv_room (Nat.le_of_ble_eq_true rfl)) dX4_prepare_71 ⟨Nat.le_of_ble_eq_true rfl, Nat.le_of_ble_eq_true rfl⟩) (fun r_10 w_11 => ?_)
                subst w_11
                have hjl := m_join_le fb fe fw fc fd fs fz a b bLb bLe bLs bCz hz
                refine ln_iast (i := (a * 18) + b) hx hb hK hP hD hS 1 0 rfl rfl (by omega) (by decide) dX4_prepare_74 (fun H locs hP hD hS => ?_)
                have b_12 : ∀ k, (upN sjb ((a * 18) + b) (m_join fb fe fw fc fd fs fz a b)) k ≤ 10000 := upN_le bSjb (by omega)
                have hP : va_P (dC, dI) vwCl [(aS, .inr (4, [.ref aR, .ref aSj, .ref aSl, .ref aSs, .ref aSo, .int (nI nL), .int (nI (fz 4)), .int (nI sb), .int (nI sx)])), (aSj, .inl (cI, 324, .inl (nF (upN sjb ((a * 18) + b) (m_join fb fe fw fc fd fs fz a b))))), (aC, .inr (3, [.ref aL, .ref aCz])), (aCz, .inl (cI, 6, .inl (nF fz))), (aL, .inr (1, [.int (nI nL), .ref aLb, .ref aLe, .ref aLw, .ref aLc, .ref aLd, .ref aLs])), (aLb, .inl (cI, 18, .inl (nF fb))), (aLe, .inl (cI, 18, .inl (nF fe))), (aLw, .inl (cI, 18, .inl fw)), (aLc, .inl (cI, 18, .inl (nF fc))), (aLd, .inl (cI, 18, .inl (nF fd))), (aLs, .inl (cI, 27, .inl (nF fs)))] H := hP
                have hD : va_D A [(aS, .inr (4, [.ref aR, .ref aSj, .ref aSl, .ref aSs, .ref aSo, .int (nI nL), .int (nI (fz 4)), .int (nI sb), .int (nI sx)])), (aSj, .inl (cI, 324, .inl (nF (upN sjb ((a * 18) + b) (m_join fb fe fw fc fd fs fz a b))))), (aC, .inr (3, [.ref aL, .ref aCz])), (aCz, .inl (cI, 6, .inl (nF fz))), (aL, .inr (1, [.int (nI nL), .ref aLb, .ref aLe, .ref aLw, .ref aLc, .ref aLd, .ref aLs])), (aLb, .inl (cI, 18, .inl (nF fb))), (aLe, .inl (cI, 18, .inl (nF fe))), (aLw, .inl (cI, 18, .inl fw)), (aLc, .inl (cI, 18, .inl (nF fc))), (aLd, .inl (cI, 18, .inl (nF fd))), (aLs, .inl (cI, 27, .inl (nF fs)))] := hD
                refine lv_iinc (v := (nI (b + 1))) (lv' := [(4, .int (nI (b + 1))), (0, .ref aS), (1, .ref aC), (2, .int (nI mt)), (3, .int (nI a))]) hx hb dX4_prepare_75 hl (k := 4) rfl (by first | exact nI_1 _ | rfl) (by decide) rfl (fun ls hl => ?_)
                refine lv_goto (tgt := 45) hx hb dX4_prepare_78 (by decide) ?_
                exact ih45 (b + 1) (upN sjb ((a * 18) + b) (m_join fb fe fw fc fd fs fz a b)) (by omega) b_12 (by omega) (by rw [m_joins, ← hjb]) _ _ hP hD hS ls (lv_sub hl [1, 2, 3, 4, 0] rfl)
          exact LP45 _ 0 sja (Nat.lt_succ_self _) bSja (Nat.zero_le _) rfl _ _ hP hD hS ls (lv_sub hl [1, 2, 3, 4, 0] rfl)
    exact LP32 _ 0 sj (Nat.lt_succ_self _) bSj (Nat.zero_le _) rfl _ _ hP hD hS ls (lv_sub hl [1, 2, 3, 0] rfl)
theorem mX4_solve_0 : Cond.fieldLink RX4 18 "LeafOrder$Search" "setCosts" "[I" ∈ wsX4_solve := by decide +kernel
theorem mX4_solve_inX4 : ∀ w ∈ wsX40, w ∈ wsX4_solve := by decide +kernel
theorem mX4_solve_2 : Cond.fieldLink RX4 64 "LeafOrder$Search" "bestCost" "I" ∈ wsX4_solve := by decide +kernel
theorem mX4_solve_3 : Cond.constant RX4 44 (1000000) ∈ wsX4_solve := by decide +kernel
theorem mX4_solve_4 : Cond.fieldLink RX4 67 "LeafOrder$Search" "nextCost" "I" ∈ wsX4_solve := by decide +kernel
set_option maxHeartbeats 4000000 in
set_option maxRecDepth 100000 in
theorem k_X4_solve (l : Launch) (dC : Nat → ClassId) (dI : Nat → Nat → Nat) (cI cZ : ClassId) (aS aR aSj aSl aSs aSo aRb aRr aRa : Nat) (sn : Nat) (st : Nat) (sb : Nat) (sx : Nat) (sl : Nat → Nat) (sj : Nat → Nat) (ss : Nat → Nat) (so : Nat → Nat) (rb : Nat → Nat) (rr : Nat → Nat) (ra : Nat → Nat) (sz : Nat) (bSl : ∀ k, sl k ≤ 1000000) (bSj : ∀ k, sj k ≤ 10000) (bSs : ∀ k, ss k ≤ 1000000) (bSo : ∀ k, so k ≤ 17) (bRb : ∀ k, rb k ≤ 511) (bRr : ∀ k, rr k ≤ 511) (bRa : ∀ k, ra k ≤ 511) (hn : sn ≤ 9) (ht : st ≤ 1000000) : Met l yX4_solve wsX4_solve { frames := 4, cells := 0, slots := 0, locals := 102 } (va_Pc [.ref aS] (fun U => U.heap.size = sz ∧ va_P (dC, dI) vwCl [(aS, .inr (4, [.ref aR, .ref aSj, .ref aSl, .ref aSs, .ref aSo, .int (nI sn), .int (nI st), .int (nI sb), .int (nI sx)])), (aSl, .inl (cI, 9216, .inl (nF sl))), (aSj, .inl (cI, 324, .inl (nF sj))), (aSs, .inl (cI, 512, .inl (nF ss))), (aSo, .inl (cI, 9, .inl (nF so))), (aR, .inr (2, [.ref aRb, .ref aRr, .ref aRa])), (aRb, .inl (cI, 9, .inl (nF rb))), (aRr, .inl (cI, 9, .inl (nF rr))), (aRa, .inl (cI, 9, .inl (nF ra)))] U.heap ∧ lK dC dI cI cZ U ∧ va_D (fun _ => True) [(aS, .inr (4, [.ref aR, .ref aSj, .ref aSl, .ref aSs, .ref aSo, .int (nI sn), .int (nI st), .int (nI sb), .int (nI sx)])), (aSl, .inl (cI, 9216, .inl (nF sl))), (aSj, .inl (cI, 324, .inl (nF sj))), (aSs, .inl (cI, 512, .inl (nF ss))), (aSo, .inl (cI, 9, .inl (nF so))), (aR, .inr (2, [.ref aRb, .ref aRr, .ref aRa])), (aRb, .inl (cI, 9, .inl (nF rb))), (aRr, .inl (cI, 9, .inl (nF rr))), (aRa, .inl (cI, 9, .inl (nF ra)))])) (va_Qv (fun (u : (Nat → Nat) × (Nat → Nat) × (Nat → Nat) × (Nat) × (Nat)) => match u with | (slz, ssz, soz, sbz, sxz) => slz = m_fill rb rr ra sj sn st 18 18 sl (2 ^ sn - 1) ∧ (∀ k, slz k ≤ 1000000) ∧ ssz = m_costs slz sn ss (2 ^ sn - 1) ∧ (∀ k, ssz k ≤ 1000000) ∧ sbz = ssz (2 ^ sn - 1) ∧ (∀ k, soz k ≤ 17) ∧ sxz ≤ 1000000 ∧ (sbz < 1000000 → ∃ a1 a2 a3, (a1, a2, a3, soz, sxz) = m_trace slz sj ra so sn st 1000000 sn) ∧ (1000000 ≤ sbz → soz = so ∧ sxz = 1000000)) (fun (u : (Nat → Nat) × (Nat → Nat) × (Nat → Nat) × (Nat) × (Nat)) (t : State) => match u with | (slz, ssz, soz, sbz, sxz) => va_P (dC, dI) vwCl [(aS, .inr (4, [.ref aR, .ref aSj, .ref aSl, .ref aSs, .ref aSo, .int (nI sn), .int (nI st), .int (nI sbz), .int (nI sxz)])), (aSl, .inl (cI, 9216, .inl (nF slz))), (aSj, .inl (cI, 324, .inl (nF sj))), (aSs, .inl (cI, 512, .inl (nF ssz))), (aSo, .inl (cI, 9, .inl (nF soz))), (aR, .inr (2, [.ref aRb, .ref aRr, .ref aRa])), (aRb, .inl (cI, 9, .inl (nF rb))), (aRr, .inl (cI, 9, .inl (nF rr))), (aRa, .inl (cI, 9, .inl (nF ra)))] t.heap ∧ va_D (va_A [(aS, .inr (4, [.ref aR, .ref aSj, .ref aSl, .ref aSs, .ref aSo, .int (nI sn), .int (nI st), .int (nI sb), .int (nI sx)])), (aSl, .inl (cI, 9216, .inl (nF sl))), (aSj, .inl (cI, 324, .inl (nF sj))), (aSs, .inl (cI, 512, .inl (nF ss))), (aSo, .inl (cI, 9, .inl (nF so))), (aR, .inr (2, [.ref aRb, .ref aRr, .ref aRa])), (aRb, .inl (cI, 9, .inl (nF rb))), (aRr, .inl (cI, 9, .inl (nF rr))), (aRa, .inl (cI, 9, .inl (nF ra)))] sz) [(aS, .inr (4, [.ref aR, .ref aSj, .ref aSl, .ref aSs, .ref aSo, .int (nI sn), .int (nI st), .int (nI sbz), .int (nI sxz)])), (aSl, .inl (cI, 9216, .inl (nF slz))), (aSj, .inl (cI, 324, .inl (nF sj))), (aSs, .inl (cI, 512, .inl (nF ssz))), (aSo, .inl (cI, 9, .inl (nF soz))), (aR, .inr (2, [.ref aRb, .ref aRr, .ref aRa])), (aRb, .inl (cI, 9, .inl (nF rb))), (aRr, .inl (cI, 9, .inl (nF rr))), (aRa, .inl (cI, 9, .inl (nF ra)))]) (va_A [(aS, .inr (4, [.ref aR, .ref aSj, .ref aSl, .ref aSs, .ref aSo, .int (nI sn), .int (nI st), .int (nI sb), .int (nI sx)])), (aSl, .inl (cI, 9216, .inl (nF sl))), (aSj, .inl (cI, 324, .inl (nF sj))), (aSs, .inl (cI, 512, .inl (nF ss))), (aSo, .inl (cI, 9, .inl (nF so))), (aR, .inr (2, [.ref aRb, .ref aRr, .ref aRa])), (aRb, .inl (cI, 9, .inl (nF rb))), (aRr, .inl (cI, 9, .inl (nF rr))), (aRa, .inl (cI, 9, .inl (nF ra)))] sz)) 0 0 (va_A [(aS, .inr (4, [.ref aR, .ref aSj, .ref aSl, .ref aSs, .ref aSo, .int (nI sn), .int (nI st), .int (nI sb), .int (nI sx)])), (aSl, .inl (cI, 9216, .inl (nF sl))), (aSj, .inl (cI, 324, .inl (nF sj))), (aSs, .inl (cI, 512, .inl (nF ss))), (aSo, .inl (cI, 9, .inl (nF so))), (aR, .inr (2, [.ref aRb, .ref aRr, .ref aRa])), (aRb, .inl (cI, 9, .inl (nF rb))), (aRr, .inl (cI, 9, .inl (nF rr))), (aRa, .inl (cI, 9, .inl (nF ra)))] sz) := by
  refine Met.ofW (cc := cX4_solve) (maxL := 2) (ret := none) (by decide) rfl ?_
  intro p e s m args below meth c s₁ B hml hv
  obtain ⟨rfl, hsz, hP, hKK, hD0⟩ := hv
  have hK := hKK.1
  have hx := B.exec
  have hb := B.bytes
  have hr := B.returns
  have hts := atoms_spec (ws := wsX4_solve) B.pre
  have hown : s.vm.findClass RX4 = some m.cls := findClass_of_methodNamed B.named
  have hlocks := B.notSynchronized
  subst hsz
  have hD := hD0.self (sz := s.heap.size)
  generalize hAe : va_A [(aS, .inr (4, [.ref aR, .ref aSj, .ref aSl, .ref aSs, .ref aSo, .int (nI sn), .int (nI st), .int (nI sb), .int (nI sx)])), (aSl, .inl (cI, 9216, .inl (nF sl))), (aSj, .inl (cI, 324, .inl (nF sj))), (aSs, .inl (cI, 512, .inl (nF ss))), (aSo, .inl (cI, 9, .inl (nF so))), (aR, .inr (2, [.ref aRb, .ref aRr, .ref aRa])), (aRb, .inl (cI, 9, .inl (nF rb))), (aRr, .inl (cI, 9, .inl (nF rr))), (aRa, .inl (cI, 9, .inl (nF ra)))] s.heap.size = A at hD ⊢
  have hA : ∀ q : Nat, s.heap.size ≤ q → A q := fun q h => by rw [← hAe]; exact Or.inr h
  have hS : va_S A s.heap s.heap [] := va_S.rf
  have hl := lv_entry ([.ref aS]) (n := 2) (Nat.le_of_ble_eq_true rfl)
  rw [lg_entry_eq]
  generalize (lg_sl ([.ref aS]) ++ List.replicate (2 - (lg_sl ([.ref aS])).length) Slot.unset).toArray = ls at hl ⊢
  have hl : lv_has ls 2 [(0, .ref aS)] := hl
  refine lv_aload_n hx hb dX4_solve_0 rfl (lv_at hl 0 rfl) ?_
  refine lv_iconst (v := (-1)) hx hb dX4_solve_1 (by decide) ?_
  refine lv_iconst (v := (-1)) hx hb dX4_solve_2 (by decide) ?_
  refine W.eq (g2 := F0 m 3 ls [.int (bhN 18), .int (bhN 18), .ref aS]) rfl ?_
  have hPc := hP.sub (ws' := [(aS, .inr (4, [.ref aR, .ref aSj, .ref aSl, .ref aSs, .ref aSo, .int (nI sn), .int (nI st), .int (nI sb), .int (nI sx)])), (aSl, .inl (cI, 9216, .inl (nF sl))), (aSj, .inl (cI, 324, .inl (nF sj))), (aR, .inr (2, [.ref aRb, .ref aRr, .ref aRa])), (aRb, .inl (cI, 9, .inl (nF rb))), (aRr, .inl (cI, 9, .inl (nF rr))), (aRa, .inl (cI, 9, .inl (nF ra)))]) [0, 1, 2, 5, 6, 7, 8] rfl
  have hDc := hD.sub (ws' := [(aS, .inr (4, [.ref aR, .ref aSj, .ref aSl, .ref aSs, .ref aSo, .int (nI sn), .int (nI st), .int (nI sb), .int (nI sx)])), (aSl, .inl (cI, 9216, .inl (nF sl))), (aSj, .inl (cI, 324, .inl (nF sj))), (aR, .inr (2, [.ref aRb, .ref aRr, .ref aRa])), (aRb, .inl (cI, 9, .inl (nF rb))), (aRr, .inl (cI, 9, .inl (nF rr))), (aRa, .inl (cI, 9, .inl (nF ra)))]) [0, 1, 2, 5, 6, 7, 8] (by decide) rfl
  have hFc := va_free (wc := [(aS, .inr (4, [.ref aR, .ref aSj, .ref aSl, .ref aSs, .ref aSo, .int (nI sn), .int (nI st), .int (nI sb), .int (nI sx)])), (aSl, .inl (cI, 9216, .inl (nF sl))), (aSj, .inl (cI, 324, .inl (nF sj))), (aR, .inr (2, [.ref aRb, .ref aRr, .ref aRa])), (aRb, .inl (cI, 9, .inl (nF rb))), (aRr, .inl (cI, 9, .inl (nF rr))), (aRa, .inl (cI, 9, .inl (nF ra)))]) hD hS hA [0, 1, 2, 5, 6, 7, 8] rfl
  refine va_callv (va_runV (As := [.int (bhN 18), .int (bhN 18)]) (rest := []) ⟨hx, hb, hml, hown, hts⟩ (k_X4_fill l dC dI cI cZ aS aR aSj aSl aSs aSo aRb aRr aRa sn st sb sx sl sj rb rr ra 18 18 s.heap.size bSl bSj bRb bRr bRa (by omega) (by omega) (by omega)) (cwV 2 hts gX4_solve_X4_fill rfl rfl rfl (by decide +kernel) ⟨Nat.le_of_ble_eq_true rfl, Nat.le_of_ble_eq_true rfl⟩) (ln_preVM (q0 := 0) (ci := 4) hPc hKK hDc rfl rfl) rfl rfl hl.1 rfl (lv_room (Nat.le_of_ble_eq_true rfl)) dX4_solve_3 ⟨Nat.le_of_ble_eq_true rfl, Nat.le_of_ble_eq_true rfl⟩) hS (fun q _ h => hFc q h) hFc (fun u t H1 locs ht hvm w_2 hB hzH hkH hS => ?_)
  obtain ⟨slz_3, rfl⟩ : ∃ z, z = u := ⟨_, rfl⟩
  obtain ⟨hP1, hD1⟩ := hB
  rw [ht] at hP1
  try dsimp only at w_2
  obtain ⟨hP, hD⟩ := va_join (wr := [(aSs, .inl (cI, 512, .inl (nF ss))), (aSo, .inl (cI, 9, .inl (nF so)))]) (w1 := [(aS, .inr (4, [.ref aR, .ref aSj, .ref aSl, .ref aSs, .ref aSo, .int (nI sn), .int (nI st), .int (nI sb), .int (nI sx)])), (aSl, .inl (cI, 9216, .inl (nF slz_3))), (aSj, .inl (cI, 324, .inl (nF sj))), (aR, .inr (2, [.ref aRb, .ref aRr, .ref aRa])), (aRb, .inl (cI, 9, .inl (nF rb))), (aRr, .inl (cI, 9, .inl (nF rr))), (aRa, .inl (cI, 9, .inl (nF ra)))]) hP hD [0, 1, 2, 5, 6, 7, 8] [3, 4] rfl rfl (by decide) (by decide) hkH hFc hP1 hD1
  generalize H1 = H at hP hS ⊢
  have hP := hP.sub (ws' := [(aS, .inr (4, [.ref aR, .ref aSj, .ref aSl, .ref aSs, .ref aSo, .int (nI sn), .int (nI st), .int (nI sb), .int (nI sx)])), (aSl, .inl (cI, 9216, .inl (nF slz_3))), (aSj, .inl (cI, 324, .inl (nF sj))), (aSs, .inl (cI, 512, .inl (nF ss))), (aSo, .inl (cI, 9, .inl (nF so))), (aR, .inr (2, [.ref aRb, .ref aRr, .ref aRa])), (aRb, .inl (cI, 9, .inl (nF rb))), (aRr, .inl (cI, 9, .inl (nF rr))), (aRa, .inl (cI, 9, .inl (nF ra)))]) [2, 3, 4, 0, 1, 5, 6, 7, 8] rfl
  have hD := hD.sub (ws' := [(aS, .inr (4, [.ref aR, .ref aSj, .ref aSl, .ref aSs, .ref aSo, .int (nI sn), .int (nI st), .int (nI sb), .int (nI sx)])), (aSl, .inl (cI, 9216, .inl (nF slz_3))), (aSj, .inl (cI, 324, .inl (nF sj))), (aSs, .inl (cI, 512, .inl (nF ss))), (aSo, .inl (cI, 9, .inl (nF so))), (aR, .inr (2, [.ref aRb, .ref aRr, .ref aRa])), (aRb, .inl (cI, 9, .inl (nF rb))), (aRr, .inl (cI, 9, .inl (nF rr))), (aRa, .inl (cI, 9, .inl (nF ra)))]) [2, 3, 4, 0, 1, 5, 6, 7, 8] (by decide) rfl
  obtain ⟨hfl, b_4⟩ := w_2
  have hp9 := ln_p9 hn
  have hp1 := ln_one_two_pow sn
  refine lv_aload_n hx hb dX4_solve_6 rfl (lv_at hl 0 rfl) ?_
  refine va_get (D := (dC, dI)) (ci := 4) (v := .ref aSs) (C := RX4) (T := TX4) (N := 9) hx hb hts mX4_solve_inX4 hown hK hP 0 rfl rfl 3 (by decide) (hts (.fieldLink RX4 18 "LeafOrder$Search" "setCosts" "[I") mX4_solve_0) (fun _ h9 => h9) rfl dX4_solve_7 ?_
  refine lv_iconst (v := nI 0) hx hb dX4_solve_10 (by decide) ?_
  refine lv_iconst (v := nI 0) hx hb dX4_solve_11 (by decide) ?_
  refine ln_iast (i := 0) hx hb hK hP hD hS 3 0 rfl rfl (by omega) (by decide) dX4_solve_12 (fun H locs hP hD hS => ?_)
  have b_5 : ∀ k, (upN ss 0 0) k ≤ 1000000 := upN_le bSs (by omega)
  have hP : va_P (dC, dI) vwCl [(aS, .inr (4, [.ref aR, .ref aSj, .ref aSl, .ref aSs, .ref aSo, .int (nI sn), .int (nI st), .int (nI sb), .int (nI sx)])), (aSl, .inl (cI, 9216, .inl (nF slz_3))), (aSj, .inl (cI, 324, .inl (nF sj))), (aSs, .inl (cI, 512, .inl (nF (upN ss 0 0)))), (aSo, .inl (cI, 9, .inl (nF so))), (aR, .inr (2, [.ref aRb, .ref aRr, .ref aRa])), (aRb, .inl (cI, 9, .inl (nF rb))), (aRr, .inl (cI, 9, .inl (nF rr))), (aRa, .inl (cI, 9, .inl (nF ra)))] H := hP
  have hD : va_D A [(aS, .inr (4, [.ref aR, .ref aSj, .ref aSl, .ref aSs, .ref aSo, .int (nI sn), .int (nI st), .int (nI sb), .int (nI sx)])), (aSl, .inl (cI, 9216, .inl (nF slz_3))), (aSj, .inl (cI, 324, .inl (nF sj))), (aSs, .inl (cI, 512, .inl (nF (upN ss 0 0)))), (aSo, .inl (cI, 9, .inl (nF so))), (aR, .inr (2, [.ref aRb, .ref aRr, .ref aRa])), (aRb, .inl (cI, 9, .inl (nF rb))), (aRr, .inl (cI, 9, .inl (nF rr))), (aRa, .inl (cI, 9, .inl (nF ra)))] := hD
  refine lv_iconst (v := nI 1) hx hb dX4_solve_13 (by decide) ?_
  refine lv_istore_n (lv' := [(1, .int (nI 1)), (0, .ref aS)]) hx hb dX4_solve_14 rfl hl (by decide) rfl (fun ls hl => ?_)
  have LP15 : ∀ (n15 : Nat) (set : Nat) (ssv : Nat → Nat), 2 ^ sn - set < n15 → (∀ k, ssv k ≤ 1000000) → (1 ≤ set ∧ set ≤ 2 ^ sn) → (ssv = m_costs slz_3 sn ss (set - 1)) → ∀ (H : Heap) (locs : List Loc), va_P (dC, dI) vwCl [(aS, .inr (4, [.ref aR, .ref aSj, .ref aSl, .ref aSs, .ref aSo, .int (nI sn), .int (nI st), .int (nI sb), .int (nI sx)])), (aSl, .inl (cI, 9216, .inl (nF slz_3))), (aSj, .inl (cI, 324, .inl (nF sj))), (aSs, .inl (cI, 512, .inl (nF ssv))), (aSo, .inl (cI, 9, .inl (nF so))), (aR, .inr (2, [.ref aRb, .ref aRr, .ref aRa])), (aRb, .inl (cI, 9, .inl (nF rb))), (aRr, .inl (cI, 9, .inl (nF rr))), (aRa, .inl (cI, 9, .inl (nF ra)))] H → va_D A [(aS, .inr (4, [.ref aR, .ref aSj, .ref aSl, .ref aSs, .ref aSo, .int (nI sn), .int (nI st), .int (nI sb), .int (nI sx)])), (aSl, .inl (cI, 9216, .inl (nF slz_3))), (aSj, .inl (cI, 324, .inl (nF sj))), (aSs, .inl (cI, 512, .inl (nF ssv))), (aSo, .inl (cI, 9, .inl (nF so))), (aR, .inr (2, [.ref aRb, .ref aRr, .ref aRa])), (aRb, .inl (cI, 9, .inl (nF rb))), (aRr, .inl (cI, 9, .inl (nF rr))), (aRa, .inl (cI, 9, .inl (nF ra)))] → va_S A s.heap H locs → ∀ (ls : Array Slot), lv_has ls 2 [(0, .ref aS), (1, .int (nI set))] → W p l e { frames := 4, cells := 0, slots := 0, locals := 102 } s m [.ref aS].toArray below meth c H locs 0 0 (MQ below (va_Qv (fun (u : (Nat → Nat) × (Nat → Nat) × (Nat → Nat) × (Nat) × (Nat)) => match u with | (slz, ssz, soz, sbz, sxz) => slz = m_fill rb rr ra sj sn st 18 18 sl (2 ^ sn - 1) ∧ (∀ k, slz k ≤ 1000000) ∧ ssz = m_costs slz sn ss (2 ^ sn - 1) ∧ (∀ k, ssz k ≤ 1000000) ∧ sbz = ssz (2 ^ sn - 1) ∧ (∀ k, soz k ≤ 17) ∧ sxz ≤ 1000000 ∧ (sbz < 1000000 → ∃ a1 a2 a3, (a1, a2, a3, soz, sxz) = m_trace slz sj ra so sn st 1000000 sn) ∧ (1000000 ≤ sbz → soz = so ∧ sxz = 1000000)) (fun (u : (Nat → Nat) × (Nat → Nat) × (Nat → Nat) × (Nat) × (Nat)) (t : State) => match u with | (slz, ssz, soz, sbz, sxz) => va_P (dC, dI) vwCl [(aS, .inr (4, [.ref aR, .ref aSj, .ref aSl, .ref aSs, .ref aSo, .int (nI sn), .int (nI st), .int (nI sbz), .int (nI sxz)])), (aSl, .inl (cI, 9216, .inl (nF slz))), (aSj, .inl (cI, 324, .inl (nF sj))), (aSs, .inl (cI, 512, .inl (nF ssz))), (aSo, .inl (cI, 9, .inl (nF soz))), (aR, .inr (2, [.ref aRb, .ref aRr, .ref aRa])), (aRb, .inl (cI, 9, .inl (nF rb))), (aRr, .inl (cI, 9, .inl (nF rr))), (aRa, .inl (cI, 9, .inl (nF ra)))] t.heap ∧ va_D A [(aS, .inr (4, [.ref aR, .ref aSj, .ref aSl, .ref aSs, .ref aSo, .int (nI sn), .int (nI st), .int (nI sbz), .int (nI sxz)])), (aSl, .inl (cI, 9216, .inl (nF slz))), (aSj, .inl (cI, 324, .inl (nF sj))), (aSs, .inl (cI, 512, .inl (nF ssz))), (aSo, .inl (cI, 9, .inl (nF soz))), (aR, .inr (2, [.ref aRb, .ref aRr, .ref aRa])), (aRb, .inl (cI, 9, .inl (nF rb))), (aRr, .inl (cI, 9, .inl (nF rr))), (aRa, .inl (cI, 9, .inl (nF ra)))]) A) [.ref aS].toArray s 0 0 A) (F0 m 15 ls []) := by
    intro n15
    induction n15 with
    | zero =>
      intro set ssv hm
      exact absurd hm (Nat.not_lt_zero _)
    | succ n15 ih15 =>
      intro set ssv hm15 bSsv hs hss H locs hP hD hS ls hl
      refine lv_iload_n hx hb dX4_solve_15 rfl (lv_at hl 1 rfl) ?_
      refine lv_aload_n hx hb dX4_solve_16 rfl (lv_at hl 0 rfl) ?_
      have hPc := hP.sub (ws' := [(aS, .inr (4, [.ref aR, .ref aSj, .ref aSl, .ref aSs, .ref aSo, .int (nI sn), .int (nI st), .int (nI sb), .int (nI sx)]))]) [0] rfl
      refine vp_callSi (W.runV (As := []) (rest := [.int (nI set)]) ⟨hx, hb, hml, hown, hts⟩ (k_X4_all l dC dI cI cZ aS aR aSj aSl aSs aSo sn st sb sx (by omega)) (cwV 0 hts gX4_solve_X4_all rfl rfl rfl (by decide +kernel) ⟨Nat.le_of_ble_eq_true rfl, Nat.le_of_ble_eq_true rfl⟩) (ln_preV (q0 := 0) (ci := 4) hPc hKK rfl rfl) rfl rfl hl.1 rfl (lv_room (Nat.le_of_ble_eq_true rfl)) dX4_solve_17 ⟨Nat.le_of_ble_eq_true rfl, Nat.le_of_ble_eq_true rfl⟩) (fun r_6 w_7 => ?_)
      subst w_7
      refine ln_icmp_gt (tgt := 40) hx hb dX4_solve_20 (by decide) (by omega) (by omega) (fun c_8 => ?_) (fun c_8 => ?_)
      · refine lv_aload_n hx hb dX4_solve_40 rfl (lv_at hl 0 rfl) ?_
        refine lv_aload_n hx hb dX4_solve_41 rfl (lv_at hl 0 rfl) ?_
        refine va_get (D := (dC, dI)) (ci := 4) (v := .ref aSs) (C := RX4) (T := TX4) (N := 9) hx hb hts mX4_solve_inX4 hown hK hP 0 rfl rfl 3 (by decide) (hts (.fieldLink RX4 18 "LeafOrder$Search" "setCosts" "[I") mX4_solve_0) (fun _ h9 => h9) rfl dX4_solve_42 ?_
        refine lv_aload_n hx hb dX4_solve_45 rfl (lv_at hl 0 rfl) ?_
        have hPc := hP.sub (ws' := [(aS, .inr (4, [.ref aR, .ref aSj, .ref aSl, .ref aSs, .ref aSo, .int (nI sn), .int (nI st), .int (nI sb), .int (nI sx)]))]) [0] rfl
        refine vp_callSi (W.runV (As := []) (rest := [.ref aSs, .ref aS]) ⟨hx, hb, hml, hown, hts⟩ (k_X4_all l dC dI cI cZ aS aR aSj aSl aSs aSo sn st sb sx (by omega)) (cwV 0 hts gX4_solve_X4_all rfl rfl rfl (by decide +kernel) ⟨Nat.le_of_ble_eq_true rfl, Nat.le_of_ble_eq_true rfl⟩) (ln_preV (q0 := 0) (ci := 4) hPc hKK rfl rfl) rfl rfl hl.1 rfl (lv_room (Nat.le_of_ble_eq_true rfl)) dX4_solve_46 ⟨Nat.le_of_ble_eq_true rfl, Nat.le_of_ble_eq_true rfl⟩) (fun r_9 w_10 => ?_)
        subst w_10
        refine ln_iald (i := 2 ^ sn - 1) hx hb hK hP 3 0 rfl rfl (by omega) (by decide) dX4_solve_49 ?_
        have b_11 := bSsv (2 ^ sn - 1)
        refine va_put (D := (dC, dI)) (ci := 4) (v := .int (nI (ssv (2 ^ sn - 1)))) (ty := .int) (C := RX4) (T := TX4) (N := 9) hx hb hts mX4_solve_inX4 tyX4 tyX4_ok nmX4 hown hK hP hD hS 0 rfl rfl 7 (by decide) (hts (.fieldLink RX4 64 "LeafOrder$Search" "bestCost" "I") mX4_solve_2) (fun _ h9 => h9) rfl (by decide +kernel) rfl rfl (Nat.le_of_ble_eq_true rfl) dX4_solve_50 (fun H locs hP hD hS => ?_)
        have hP : va_P (dC, dI) vwCl [(aS, .inr (4, [.ref aR, .ref aSj, .ref aSl, .ref aSs, .ref aSo, .int (nI sn), .int (nI st), .int (nI (ssv (2 ^ sn - 1))), .int (nI sx)])), (aSl, .inl (cI, 9216, .inl (nF slz_3))), (aSj, .inl (cI, 324, .inl (nF sj))), (aSs, .inl (cI, 512, .inl (nF ssv))), (aSo, .inl (cI, 9, .inl (nF so))), (aR, .inr (2, [.ref aRb, .ref aRr, .ref aRa])), (aRb, .inl (cI, 9, .inl (nF rb))), (aRr, .inl (cI, 9, .inl (nF rr))), (aRa, .inl (cI, 9, .inl (nF ra)))] H := hP
        have hD : va_D A [(aS, .inr (4, [.ref aR, .ref aSj, .ref aSl, .ref aSs, .ref aSo, .int (nI sn), .int (nI st), .int (nI (ssv (2 ^ sn - 1))), .int (nI sx)])), (aSl, .inl (cI, 9216, .inl (nF slz_3))), (aSj, .inl (cI, 324, .inl (nF sj))), (aSs, .inl (cI, 512, .inl (nF ssv))), (aSo, .inl (cI, 9, .inl (nF so))), (aR, .inr (2, [.ref aRb, .ref aRr, .ref aRa])), (aRb, .inl (cI, 9, .inl (nF rb))), (aRr, .inl (cI, 9, .inl (nF rr))), (aRa, .inl (cI, 9, .inl (nF ra)))] := hD
        refine lv_aload_n hx hb dX4_solve_53 rfl (lv_at hl 0 rfl) ?_
        refine lv_ldc (v := nI 1000000) hx hb hown (hts (.constant RX4 44 (1000000)) mX4_solve_3) dX4_solve_54 ?_
        refine va_put (D := (dC, dI)) (ci := 4) (v := .int (nI 1000000)) (ty := .int) (C := RX4) (T := TX4) (N := 9) hx hb hts mX4_solve_inX4 tyX4 tyX4_ok nmX4 hown hK hP hD hS 0 rfl rfl 8 (by decide) (hts (.fieldLink RX4 67 "LeafOrder$Search" "nextCost" "I") mX4_solve_4) (fun _ h9 => h9) rfl (by decide +kernel) rfl rfl (Nat.le_of_ble_eq_true rfl) dX4_solve_56 (fun H locs hP hD hS => ?_)
        have hP : va_P (dC, dI) vwCl [(aS, .inr (4, [.ref aR, .ref aSj, .ref aSl, .ref aSs, .ref aSo, .int (nI sn), .int (nI st), .int (nI (ssv (2 ^ sn - 1))), .int (nI 1000000)])), (aSl, .inl (cI, 9216, .inl (nF slz_3))), (aSj, .inl (cI, 324, .inl (nF sj))), (aSs, .inl (cI, 512, .inl (nF ssv))), (aSo, .inl (cI, 9, .inl (nF so))), (aR, .inr (2, [.ref aRb, .ref aRr, .ref aRa])), (aRb, .inl (cI, 9, .inl (nF rb))), (aRr, .inl (cI, 9, .inl (nF rr))), (aRa, .inl (cI, 9, .inl (nF ra)))] H := hP
        have hD : va_D A [(aS, .inr (4, [.ref aR, .ref aSj, .ref aSl, .ref aSs, .ref aSo, .int (nI sn), .int (nI st), .int (nI (ssv (2 ^ sn - 1))), .int (nI 1000000)])), (aSl, .inl (cI, 9216, .inl (nF slz_3))), (aSj, .inl (cI, 324, .inl (nF sj))), (aSs, .inl (cI, 512, .inl (nF ssv))), (aSo, .inl (cI, 9, .inl (nF so))), (aR, .inr (2, [.ref aRb, .ref aRr, .ref aRa])), (aRb, .inl (cI, 9, .inl (nF rb))), (aRr, .inl (cI, 9, .inl (nF rr))), (aRa, .inl (cI, 9, .inl (nF ra)))] := hD
        refine lv_aload_n hx hb dX4_solve_59 rfl (lv_at hl 0 rfl) ?_
        refine va_get (D := (dC, dI)) (ci := 4) (v := .int (nI (ssv (2 ^ sn - 1)))) (C := RX4) (T := TX4) (N := 9) hx hb hts mX4_solve_inX4 hown hK hP 0 rfl rfl 7 (by decide) (hts (.fieldLink RX4 64 "LeafOrder$Search" "bestCost" "I") mX4_solve_2) (fun _ h9 => h9) rfl dX4_solve_60 ?_
        refine lv_ldc (v := nI 1000000) hx hb hown (hts (.constant RX4 44 (1000000)) mX4_solve_3) dX4_solve_63 ?_
        refine ln_icmp_ge (tgt := 72) hx hb dX4_solve_65 (by decide) (by omega) (by decide) (fun c_12 => ?_) (fun c_12 => ?_)
        · exact W.vret hx hb hr (fun t ht hW => ⟨⟨(slz_3, ssv, so, ssv (2 ^ sn - 1), 1000000), rfl, ⟨hfl, b_4, (by rw [hss, show set - 1 = 2 ^ sn - 1 by omega]), bSsv, rfl, bSo, (Nat.le_refl _), (fun q => absurd q (Nat.not_lt.mpr c_12)), (fun _ => ⟨rfl, rfl⟩)⟩, by rw [ht]; exact hP, hD⟩, hS.F ht⟩) hS.2.2 dX4_solve_72
        · refine lv_aload_n hx hb dX4_solve_68 rfl (lv_at hl 0 rfl) ?_
          have hPc := hP.sub (ws' := [(aS, .inr (4, [.ref aR, .ref aSj, .ref aSl, .ref aSs, .ref aSo, .int (nI sn), .int (nI st), .int (nI (ssv (2 ^ sn - 1))), .int (nI 1000000)])), (aSl, .inl (cI, 9216, .inl (nF slz_3))), (aSj, .inl (cI, 324, .inl (nF sj))), (aSo, .inl (cI, 9, .inl (nF so))), (aR, .inr (2, [.ref aRb, .ref aRr, .ref aRa])), (aRa, .inl (cI, 9, .inl (nF ra)))]) [0, 1, 2, 4, 5, 8] rfl
          have hDc := hD.sub (ws' := [(aS, .inr (4, [.ref aR, .ref aSj, .ref aSl, .ref aSs, .ref aSo, .int (nI sn), .int (nI st), .int (nI (ssv (2 ^ sn - 1))), .int (nI 1000000)])), (aSl, .inl (cI, 9216, .inl (nF slz_3))), (aSj, .inl (cI, 324, .inl (nF sj))), (aSo, .inl (cI, 9, .inl (nF so))), (aR, .inr (2, [.ref aRb, .ref aRr, .ref aRa])), (aRa, .inl (cI, 9, .inl (nF ra)))]) [0, 1, 2, 4, 5, 8] (by decide) rfl
          have hFc := va_free (wc := [(aS, .inr (4, [.ref aR, .ref aSj, .ref aSl, .ref aSs, .ref aSo, .int (nI sn), .int (nI st), .int (nI (ssv (2 ^ sn - 1))), .int (nI 1000000)])), (aSl, .inl (cI, 9216, .inl (nF slz_3))), (aSj, .inl (cI, 324, .inl (nF sj))), (aSo, .inl (cI, 9, .inl (nF so))), (aR, .inr (2, [.ref aRb, .ref aRr, .ref aRa])), (aRa, .inl (cI, 9, .inl (nF ra)))]) hD hS hA [0, 1, 2, 4, 5, 8] rfl
          refine va_callv (va_runV (As := []) (rest := []) ⟨hx, hb, hml, hown, hts⟩ (k_X4_trace l dC dI cI cZ aS aR aSj aSl aSs aSo aRb aRr aRa sn st (ssv (2 ^ sn - 1)) 1000000 slz_3 sj so ra H.size b_4 bSj bSo bRa (by omega) (by omega) (Nat.le_refl _)) (cwV 0 hts gX4_solve_X4_trace rfl rfl rfl (by decide +kernel) ⟨Nat.le_of_ble_eq_true rfl, Nat.le_of_ble_eq_true rfl⟩) (ln_preVM (q0 := 0) (ci := 4) hPc hKK hDc rfl rfl) rfl rfl hl.1 rfl (lv_room (Nat.le_of_ble_eq_true rfl)) dX4_solve_69 ⟨Nat.le_of_ble_eq_true rfl, Nat.le_of_ble_eq_true rfl⟩) hS (fun q _ h => hFc q h) hFc (fun u t H1 locs ht hvm w_14 hB hzH hkH hS => ?_)
          obtain ⟨soz_15, sxz_16⟩ := u
          obtain ⟨hP1, hD1⟩ := hB
          rw [ht] at hP1
          try dsimp only at w_14
          obtain ⟨hP, hD⟩ := va_join (wr := [(aSs, .inl (cI, 512, .inl (nF ssv))), (aRb, .inl (cI, 9, .inl (nF rb))), (aRr, .inl (cI, 9, .inl (nF rr)))]) (w1 := [(aS, .inr (4, [.ref aR, .ref aSj, .ref aSl, .ref aSs, .ref aSo, .int (nI sn), .int (nI st), .int (nI (ssv (2 ^ sn - 1))), .int (nI sxz_16)])), (aSl, .inl (cI, 9216, .inl (nF slz_3))), (aSj, .inl (cI, 324, .inl (nF sj))), (aSo, .inl (cI, 9, .inl (nF soz_15))), (aR, .inr (2, [.ref aRb, .ref aRr, .ref aRa])), (aRa, .inl (cI, 9, .inl (nF ra)))]) hP hD [0, 1, 2, 4, 5, 8] [3, 6, 7] rfl rfl (by decide) (by decide) hkH hFc hP1 hD1
          generalize H1 = H at hP hS ⊢
          have hP := hP.sub (ws' := [(aS, .inr (4, [.ref aR, .ref aSj, .ref aSl, .ref aSs, .ref aSo, .int (nI sn), .int (nI st), .int (nI (ssv (2 ^ sn - 1))), .int (nI sxz_16)])), (aSl, .inl (cI, 9216, .inl (nF slz_3))), (aSj, .inl (cI, 324, .inl (nF sj))), (aSs, .inl (cI, 512, .inl (nF ssv))), (aSo, .inl (cI, 9, .inl (nF soz_15))), (aR, .inr (2, [.ref aRb, .ref aRr, .ref aRa])), (aRb, .inl (cI, 9, .inl (nF rb))), (aRr, .inl (cI, 9, .inl (nF rr))), (aRa, .inl (cI, 9, .inl (nF ra)))]) [3, 4, 5, 0, 6, 7, 1, 2, 8] rfl
          have hD := hD.sub (ws' := [(aS, .inr (4, [.ref aR, .ref aSj, .ref aSl, .ref aSs, .ref aSo, .int (nI sn), .int (nI st), .int (nI (ssv (2 ^ sn - 1))), .int (nI sxz_16)])), (aSl, .inl (cI, 9216, .inl (nF slz_3))), (aSj, .inl (cI, 324, .inl (nF sj))), (aSs, .inl (cI, 512, .inl (nF ssv))), (aSo, .inl (cI, 9, .inl (nF soz_15))), (aR, .inr (2, [.ref aRb, .ref aRr, .ref aRa])), (aRb, .inl (cI, 9, .inl (nF rb))), (aRr, .inl (cI, 9, .inl (nF rr))), (aRa, .inl (cI, 9, .inl (nF ra)))]) [3, 4, 5, 0, 6, 7, 1, 2, 8] (by decide) rfl
          obtain ⟨b_17, htx, htr⟩ := w_14
          exact W.vret hx hb hr (fun t ht hW => ⟨⟨(slz_3, ssv, soz_15, ssv (2 ^ sn - 1), sxz_16), rfl, ⟨hfl, b_4, (by rw [hss, show set - 1 = 2 ^ sn - 1 by omega]), bSsv, rfl, b_17, htx, (fun _ => htr), (fun q => absurd c_12 (Nat.not_lt.mpr q))⟩, by rw [ht]; exact hP, hD⟩, hS.F ht⟩) hS.2.2 dX4_solve_72
      · refine lv_aload_n hx hb dX4_solve_23 rfl (lv_at hl 0 rfl) ?_
        refine va_get (D := (dC, dI)) (ci := 4) (v := .ref aSs) (C := RX4) (T := TX4) (N := 9) hx hb hts mX4_solve_inX4 hown hK hP 0 rfl rfl 3 (by decide) (hts (.fieldLink RX4 18 "LeafOrder$Search" "setCosts" "[I") mX4_solve_0) (fun _ h9 => h9) rfl dX4_solve_24 ?_
        refine lv_iload_n hx hb dX4_solve_27 rfl (lv_at hl 1 rfl) ?_
        refine lv_aload_n hx hb dX4_solve_28 rfl (lv_at hl 0 rfl) ?_
        refine lv_iload_n hx hb dX4_solve_29 rfl (lv_at hl 1 rfl) ?_
        have hPc := hP.sub (ws' := [(aS, .inr (4, [.ref aR, .ref aSj, .ref aSl, .ref aSs, .ref aSo, .int (nI sn), .int (nI st), .int (nI sb), .int (nI sx)])), (aSl, .inl (cI, 9216, .inl (nF slz_3)))]) [0, 1] rfl
        refine vp_callSi (W.runV (As := [.int (nI set)]) (rest := [.int (nI set), .ref aSs]) ⟨hx, hb, hml, hown, hts⟩ (k_X4_leastOf l dC dI cI cZ aS aR aSj aSl aSs aSo sn st sb sx slz_3 set b_4 (by omega) (by omega)) (cwV 1 hts gX4_solve_X4_leastOf rfl rfl rfl (by decide +kernel) ⟨Nat.le_of_ble_eq_true rfl, Nat.le_of_ble_eq_true rfl⟩) (ln_preV (q0 := 0) (ci := 4) hPc hKK rfl rfl) rfl rfl hl.1 rfl (lv_room (Nat.le_of_ble_eq_true rfl)) dX4_solve_30 ⟨Nat.le_of_ble_eq_true rfl, Nat.le_of_ble_eq_true rfl⟩) (fun r_18 w_19 => ?_)
        subst w_19
        refine ln_iast (i := set) hx hb hK hP hD hS 3 0 rfl rfl (by omega) (by decide) dX4_solve_33 (fun H locs hP hD hS => ?_)
        have b_20 : ∀ k, (upN ssv set (m_of slz_3 set (2 * sn))) k ≤ 1000000 := upN_le bSsv (m_of_le _ _ _)
        have hP : va_P (dC, dI) vwCl [(aS, .inr (4, [.ref aR, .ref aSj, .ref aSl, .ref aSs, .ref aSo, .int (nI sn), .int (nI st), .int (nI sb), .int (nI sx)])), (aSl, .inl (cI, 9216, .inl (nF slz_3))), (aSj, .inl (cI, 324, .inl (nF sj))), (aSs, .inl (cI, 512, .inl (nF (upN ssv set (m_of slz_3 set (2 * sn)))))), (aSo, .inl (cI, 9, .inl (nF so))), (aR, .inr (2, [.ref aRb, .ref aRr, .ref aRa])), (aRb, .inl (cI, 9, .inl (nF rb))), (aRr, .inl (cI, 9, .inl (nF rr))), (aRa, .inl (cI, 9, .inl (nF ra)))] H := hP
        have hD : va_D A [(aS, .inr (4, [.ref aR, .ref aSj, .ref aSl, .ref aSs, .ref aSo, .int (nI sn), .int (nI st), .int (nI sb), .int (nI sx)])), (aSl, .inl (cI, 9216, .inl (nF slz_3))), (aSj, .inl (cI, 324, .inl (nF sj))), (aSs, .inl (cI, 512, .inl (nF (upN ssv set (m_of slz_3 set (2 * sn)))))), (aSo, .inl (cI, 9, .inl (nF so))), (aR, .inr (2, [.ref aRb, .ref aRr, .ref aRa])), (aRb, .inl (cI, 9, .inl (nF rb))), (aRr, .inl (cI, 9, .inl (nF rr))), (aRa, .inl (cI, 9, .inl (nF ra)))] := hD
        refine lv_iinc (v := (nI (set + 1))) (lv' := [(1, .int (nI (set + 1))), (0, .ref aS)]) hx hb dX4_solve_34 hl (k := 1) rfl (by first | exact nI_1 _ | rfl) (by decide) rfl (fun ls hl => ?_)
        refine lv_goto (tgt := 15) hx hb dX4_solve_37 (by decide) ?_
        exact ih15 (set + 1) (upN ssv set (m_of slz_3 set (2 * sn))) (by omega) b_20 (by omega) (by rw [Nat.add_sub_cancel]; conv => rhs; rw [show set = (set - 1) + 1 by omega, m_costs]; rw [show set - 1 + 1 = set by omega, ← hss]) _ _ hP hD hS ls (lv_sub hl [1, 0] rfl)
  exact LP15 _ 1 (upN ss 0 0) (Nat.lt_succ_self _) b_5 ⟨Nat.le_refl _, hp1⟩ rfl _ _ hP hD hS ls (lv_sub hl [1, 0] rfl)
theorem mX4_isInBest_0 : Cond.fieldLink RX4 40 "LeafOrder$Search" "count" "I" ∈ wsX4_isInBest := by decide +kernel
theorem mX4_isInBest_inX4 : ∀ w ∈ wsX40, w ∈ wsX4_isInBest := by decide +kernel
theorem mX4_isInBest_2 : Cond.fieldLink RX4 21 "LeafOrder$Search" "order" "[I" ∈ wsX4_isInBest := by decide +kernel
set_option maxHeartbeats 4000000 in
set_option maxRecDepth 100000 in
theorem k_X4_isInBest (l : Launch) (dC : Nat → ClassId) (dI : Nat → Nat → Nat) (cI cZ : ClassId) (aS aR aSj aSl aSs aSo : Nat) (sn : Nat) (st : Nat) (sb : Nat) (sx : Nat) (so : Nat → Nat) (q1 : Nat) (q2 : Nat) (bSo : ∀ k, so k ≤ 17) (hn : sn ≤ 9) (h1 : q1 < 9) (h2 : q2 < 9) : Met l yX4_isInBest wsX4_isInBest { frames := 0, cells := 0, slots := 0, locals := 0 } (va_Pc [.ref aS, .int (nI q1), .int (nI q2)] (fun U => va_P (dC, dI) vwCl [(aS, .inr (4, [.ref aR, .ref aSj, .ref aSl, .ref aSs, .ref aSo, .int (nI sn), .int (nI st), .int (nI sb), .int (nI sx)])), (aSo, .inl (cI, 9, .inl (nF so)))] U.heap ∧ lK dC dI cI cZ U)) (vp_Si (fun r => (r = nI 1 ∧ (m_in so sn q1 q2)) ∨ (r = nI 0 ∧ ¬ (m_in so sn q1 q2)))) 0 0 (fun _ => False) := by
  refine Met.ofW (cc := cX4_isInBest) (maxL := 4) (ret := (some .boolean)) (by decide) rfl ?_
  intro p e s m args below meth c s₁ B hml hv
  obtain ⟨rfl, hP, hKK⟩ := hv
  have hK := hKK.1
  have hx := B.exec
  have hb := B.bytes
  have hr := B.returns
  have hts := atoms_spec (ws := wsX4_isInBest) B.pre
  have hown : s.vm.findClass RX4 = some m.cls := findClass_of_methodNamed B.named
  have hlocks := B.notSynchronized
  have hl := lv_entry ([.ref aS, .int (nI q1), .int (nI q2)]) (n := 4) (Nat.le_of_ble_eq_true rfl)
  rw [lg_entry_eq]
  generalize (lg_sl ([.ref aS, .int (nI q1), .int (nI q2)]) ++ List.replicate (4 - (lg_sl ([.ref aS, .int (nI q1), .int (nI q2)])).length) Slot.unset).toArray = ls at hl ⊢
  have hl : lv_has ls 4 [(0, .ref aS), (1, .int (nI q1)), (2, .int (nI q2))] := hl
  refine lv_iconst (v := nI 1) hx hb dX4_isInBest_0 (by decide) ?_
  refine lv_istore_n (lv' := [(3, .int (nI 1)), (0, .ref aS), (1, .int (nI q1)), (2, .int (nI q2))]) hx hb dX4_isInBest_1 rfl hl (by decide) rfl (fun ls hl => ?_)
  have LP2 : ∀ (n2 : Nat) (i : Nat), sn - i < n2 → (1 ≤ i ∧ (i ≤ sn ∨ i = 1)) → (∀ k, k + 1 < i → ¬ (so k >>> 1 = q1 ∧ so (k + 1) >>> 1 = q2)) → ∀ (ls : Array Slot), lv_has ls 4 [(0, .ref aS), (1, .int (nI q1)), (2, .int (nI q2)), (3, .int (nI i))] → W p l e { frames := 0, cells := 0, slots := 0, locals := 0 } s m [.ref aS, .int (nI q1), .int (nI q2)].toArray below meth c s.heap [] 0 0 (MQ below (vp_Si (fun r => (r = nI 1 ∧ (m_in so sn q1 q2)) ∨ (r = nI 0 ∧ ¬ (m_in so sn q1 q2)))) [.ref aS, .int (nI q1), .int (nI q2)].toArray s 0 0 (fun _ => False)) (F0 m 2 ls []) := by
    intro n2
    induction n2 with
    | zero =>
      intro i hm
      exact absurd hm (Nat.not_lt_zero _)
    | succ n2 ih2 =>
      intro i hm2  hi hno ls hl
      refine lv_iload_n hx hb dX4_isInBest_2 rfl (lv_at hl 3 rfl) ?_
      refine lv_aload_n hx hb dX4_isInBest_3 rfl (lv_at hl 0 rfl) ?_
      refine va_get (D := (dC, dI)) (ci := 4) (v := .int (nI sn)) (C := RX4) (T := TX4) (N := 9) hx hb hts mX4_isInBest_inX4 hown hK hP 0 rfl rfl 5 (by decide) (hts (.fieldLink RX4 40 "LeafOrder$Search" "count" "I") mX4_isInBest_0) (fun _ h9 => h9) rfl dX4_isInBest_4 ?_
      refine ln_icmp_ge (tgt := 44) hx hb dX4_isInBest_7 (by decide) (by omega) (by omega) (fun c_1 => ?_) (fun c_1 => ?_)
      · refine lv_iconst (v := nI 0) hx hb dX4_isInBest_44 (by decide) ?_
        exact W.zret (v := (nI 0)) hx hb hr (by decide) (fun t ht hW => ⟨(nI 0), rfl, Or.inr ⟨rfl, (fun ⟨k, hk, e1, e2⟩ => hno k (by omega) ⟨e1, e2⟩)⟩, ht⟩) (fun _ h => by cases h) dX4_isInBest_45
      · refine lv_aload_n hx hb dX4_isInBest_10 rfl (lv_at hl 0 rfl) ?_
        refine va_get (D := (dC, dI)) (ci := 4) (v := .ref aSo) (C := RX4) (T := TX4) (N := 9) hx hb hts mX4_isInBest_inX4 hown hK hP 0 rfl rfl 4 (by decide) (hts (.fieldLink RX4 21 "LeafOrder$Search" "order" "[I") mX4_isInBest_2) (fun _ h9 => h9) rfl dX4_isInBest_11 ?_
        refine lv_iload_n hx hb dX4_isInBest_14 rfl (lv_at hl 3 rfl) ?_
        refine lv_iconst (v := nI 1) hx hb dX4_isInBest_15 (by decide) ?_
        refine ln_isub hx hb dX4_isInBest_16 (by omega) ?_
        refine ln_iald (i := i - 1) hx hb hK hP 1 0 rfl rfl (by omega) (by decide) dX4_isInBest_17 ?_
        have b_2 := bSo (i - 1)
        refine lv_iconst (v := nI 1) hx hb dX4_isInBest_18 (by decide) ?_
        refine ln_ishr hx hb dX4_isInBest_19 (by omega) (by omega) ?_
        refine lv_iload_n hx hb dX4_isInBest_20 rfl (lv_at hl 1 rfl) ?_
        refine ln_icmp_ne (tgt := 38) hx hb dX4_isInBest_21 (by decide) (by omega) (by omega) (fun c_3 => ?_) (fun c_3 => ?_)
        · refine lv_iinc (v := (nI (i + 1))) (lv' := [(3, .int (nI (i + 1))), (0, .ref aS), (1, .int (nI q1)), (2, .int (nI q2))]) hx hb dX4_isInBest_38 hl (k := 3) rfl (by first | exact nI_1 _ | rfl) (by decide) rfl (fun ls hl => ?_)
          refine lv_goto (tgt := 2) hx hb dX4_isInBest_41 (by decide) ?_
          exact ih2 (i + 1) (by omega)  (by omega) (fun kk hk ⟨e1, e2⟩ => by rcases Nat.lt_or_ge (kk + 1) i with q | q; exact hno kk q ⟨e1, e2⟩; exact c_3 (by rw [show i - 1 = kk by omega]; exact e1)) ls (lv_sub hl [1, 2, 3, 0] rfl)
        · refine lv_aload_n hx hb dX4_isInBest_24 rfl (lv_at hl 0 rfl) ?_
          refine va_get (D := (dC, dI)) (ci := 4) (v := .ref aSo) (C := RX4) (T := TX4) (N := 9) hx hb hts mX4_isInBest_inX4 hown hK hP 0 rfl rfl 4 (by decide) (hts (.fieldLink RX4 21 "LeafOrder$Search" "order" "[I") mX4_isInBest_2) (fun _ h9 => h9) rfl dX4_isInBest_25 ?_
          refine lv_iload_n hx hb dX4_isInBest_28 rfl (lv_at hl 3 rfl) ?_
          refine ln_iald (i := i) hx hb hK hP 1 0 rfl rfl (by omega) (by decide) dX4_isInBest_29 ?_
          have b_4 := bSo i
          refine lv_iconst (v := nI 1) hx hb dX4_isInBest_30 (by decide) ?_
          refine ln_ishr hx hb dX4_isInBest_31 (by omega) (by omega) ?_
          refine lv_iload_n hx hb dX4_isInBest_32 rfl (lv_at hl 2 rfl) ?_
          refine ln_icmp_ne (tgt := 38) hx hb dX4_isInBest_33 (by decide) (by omega) (by omega) (fun c_5 => ?_) (fun c_5 => ?_)
          · refine lv_iinc (v := (nI (i + 1))) (lv' := [(3, .int (nI (i + 1))), (0, .ref aS), (1, .int (nI q1)), (2, .int (nI q2))]) hx hb dX4_isInBest_38 hl (k := 3) rfl (by first | exact nI_1 _ | rfl) (by decide) rfl (fun ls hl => ?_)
            refine lv_goto (tgt := 2) hx hb dX4_isInBest_41 (by decide) ?_
            exact ih2 (i + 1) (by omega)  (by omega) (fun kk hk ⟨e1, e2⟩ => by rcases Nat.lt_or_ge (kk + 1) i with q | q; exact hno kk q ⟨e1, e2⟩; exact c_5 (by rw [show i = kk + 1 by omega]; exact e2)) ls (lv_sub hl [1, 2, 3, 0] rfl)
          · refine lv_iconst (v := nI 1) hx hb dX4_isInBest_36 (by decide) ?_
            exact W.zret (v := (nI 1)) hx hb hr (by decide) (fun t ht hW => ⟨(nI 1), rfl, Or.inl ⟨rfl, ⟨i - 1, (by omega), c_3, (by rw [show i - 1 + 1 = i by omega]; exact c_5)⟩⟩, ht⟩) (fun _ h => by cases h) dX4_isInBest_37
  exact LP2 _ 1 (Nat.lt_succ_self _)  (by omega) (fun k hk => absurd hk (by omega)) ls (lv_sub hl [1, 2, 3, 0] rfl)
theorem mX4_isSure_0 : Cond.fieldLink RX4 67 "LeafOrder$Search" "nextCost" "I" ∈ wsX4_isSure := by decide +kernel
theorem mX4_isSure_inX4 : ∀ w ∈ wsX40, w ∈ wsX4_isSure := by decide +kernel
theorem mX4_isSure_2 : Cond.fieldLink RX4 64 "LeafOrder$Search" "bestCost" "I" ∈ wsX4_isSure := by decide +kernel
set_option maxHeartbeats 4000000 in
set_option maxRecDepth 100000 in
theorem k_X4_isSure (l : Launch) (dC : Nat → ClassId) (dI : Nat → Nat → Nat) (cI cZ : ClassId) (aS aR aSj aSl aSs aSo aRb aRr aRa : Nat) (sn : Nat) (st : Nat) (sb : Nat) (sx : Nat) (sl : Nat → Nat) (sj : Nat → Nat) (so : Nat → Nat) (rb : Nat → Nat) (rr : Nat → Nat) (ra : Nat → Nat) (q1 : Nat) (q2 : Nat) (q3 : Nat) (sz : Nat) (bSl : ∀ k, sl k ≤ 1000000) (bSj : ∀ k, sj k ≤ 10000) (bSo : ∀ k, so k ≤ 17) (bRb : ∀ k, rb k ≤ 511) (bRr : ∀ k, rr k ≤ 511) (bRa : ∀ k, ra k ≤ 511) (hn : sn ≤ 9) (ht : st ≤ 1000000) (h1 : q1 < 9) (h2 : q2 < 9) (h3 : q3 ≤ 1000) (hsb : sb ≤ 1000000) (hsx : sx ≤ 1000000) : Met l yX4_isSure wsX4_isSure { frames := 4, cells := 0, slots := 0, locals := 102 } (va_Pc [.ref aS, .int (nI q1), .int (nI q2), .int (nI q3)] (fun U => U.heap.size = sz ∧ va_P (dC, dI) vwCl [(aS, .inr (4, [.ref aR, .ref aSj, .ref aSl, .ref aSs, .ref aSo, .int (nI sn), .int (nI st), .int (nI sb), .int (nI sx)])), (aSl, .inl (cI, 9216, .inl (nF sl))), (aSj, .inl (cI, 324, .inl (nF sj))), (aSo, .inl (cI, 9, .inl (nF so))), (aR, .inr (2, [.ref aRb, .ref aRr, .ref aRa])), (aRb, .inl (cI, 9, .inl (nF rb))), (aRr, .inl (cI, 9, .inl (nF rr))), (aRa, .inl (cI, 9, .inl (nF ra)))] U.heap ∧ lK dC dI cI cZ U ∧ va_D (fun _ => True) [(aS, .inr (4, [.ref aR, .ref aSj, .ref aSl, .ref aSs, .ref aSo, .int (nI sn), .int (nI st), .int (nI sb), .int (nI sx)])), (aSl, .inl (cI, 9216, .inl (nF sl))), (aSj, .inl (cI, 324, .inl (nF sj))), (aSo, .inl (cI, 9, .inl (nF so))), (aR, .inr (2, [.ref aRb, .ref aRr, .ref aRa])), (aRb, .inl (cI, 9, .inl (nF rb))), (aRr, .inl (cI, 9, .inl (nF rr))), (aRa, .inl (cI, 9, .inl (nF ra)))])) (va_Qi (fun (r : Int32) (slz : (Nat → Nat)) => ((r = nI 1 ∧ (m_in so sn q1 q2 ∧ (sb + q3 < sx ∨ sb + q3 < m_of (m_fill rb rr ra sj sn st q1 q2 sl (2 ^ sn - 1)) (2 ^ sn - 1) (2 * sn)))) ∨ (r = nI 0 ∧ ¬ (m_in so sn q1 q2 ∧ (sb + q3 < sx ∨ sb + q3 < m_of (m_fill rb rr ra sj sn st q1 q2 sl (2 ^ sn - 1)) (2 ^ sn - 1) (2 * sn))))) ∧ ∀ k, slz k ≤ 1000000) (fun (slz : (Nat → Nat)) (t : State) => va_P (dC, dI) vwCl [(aS, .inr (4, [.ref aR, .ref aSj, .ref aSl, .ref aSs, .ref aSo, .int (nI sn), .int (nI st), .int (nI sb), .int (nI sx)])), (aSl, .inl (cI, 9216, .inl (nF slz))), (aSj, .inl (cI, 324, .inl (nF sj))), (aSo, .inl (cI, 9, .inl (nF so))), (aR, .inr (2, [.ref aRb, .ref aRr, .ref aRa])), (aRb, .inl (cI, 9, .inl (nF rb))), (aRr, .inl (cI, 9, .inl (nF rr))), (aRa, .inl (cI, 9, .inl (nF ra)))] t.heap ∧ va_D (va_A [(aS, .inr (4, [.ref aR, .ref aSj, .ref aSl, .ref aSs, .ref aSo, .int (nI sn), .int (nI st), .int (nI sb), .int (nI sx)])), (aSl, .inl (cI, 9216, .inl (nF sl))), (aSj, .inl (cI, 324, .inl (nF sj))), (aSo, .inl (cI, 9, .inl (nF so))), (aR, .inr (2, [.ref aRb, .ref aRr, .ref aRa])), (aRb, .inl (cI, 9, .inl (nF rb))), (aRr, .inl (cI, 9, .inl (nF rr))), (aRa, .inl (cI, 9, .inl (nF ra)))] sz) [(aS, .inr (4, [.ref aR, .ref aSj, .ref aSl, .ref aSs, .ref aSo, .int (nI sn), .int (nI st), .int (nI sb), .int (nI sx)])), (aSl, .inl (cI, 9216, .inl (nF slz))), (aSj, .inl (cI, 324, .inl (nF sj))), (aSo, .inl (cI, 9, .inl (nF so))), (aR, .inr (2, [.ref aRb, .ref aRr, .ref aRa])), (aRb, .inl (cI, 9, .inl (nF rb))), (aRr, .inl (cI, 9, .inl (nF rr))), (aRa, .inl (cI, 9, .inl (nF ra)))]) (va_A [(aS, .inr (4, [.ref aR, .ref aSj, .ref aSl, .ref aSs, .ref aSo, .int (nI sn), .int (nI st), .int (nI sb), .int (nI sx)])), (aSl, .inl (cI, 9216, .inl (nF sl))), (aSj, .inl (cI, 324, .inl (nF sj))), (aSo, .inl (cI, 9, .inl (nF so))), (aR, .inr (2, [.ref aRb, .ref aRr, .ref aRa])), (aRb, .inl (cI, 9, .inl (nF rb))), (aRr, .inl (cI, 9, .inl (nF rr))), (aRa, .inl (cI, 9, .inl (nF ra)))] sz)) 0 0 (va_A [(aS, .inr (4, [.ref aR, .ref aSj, .ref aSl, .ref aSs, .ref aSo, .int (nI sn), .int (nI st), .int (nI sb), .int (nI sx)])), (aSl, .inl (cI, 9216, .inl (nF sl))), (aSj, .inl (cI, 324, .inl (nF sj))), (aSo, .inl (cI, 9, .inl (nF so))), (aR, .inr (2, [.ref aRb, .ref aRr, .ref aRa])), (aRb, .inl (cI, 9, .inl (nF rb))), (aRr, .inl (cI, 9, .inl (nF rr))), (aRa, .inl (cI, 9, .inl (nF ra)))] sz) := by
  refine Met.ofW (cc := cX4_isSure) (maxL := 4) (ret := (some .boolean)) (by decide) rfl ?_
  intro p e s m args below meth c s₁ B hml hv
  obtain ⟨rfl, hsz, hP, hKK, hD0⟩ := hv
  have hK := hKK.1
  have hx := B.exec
  have hb := B.bytes
  have hr := B.returns
  have hts := atoms_spec (ws := wsX4_isSure) B.pre
  have hown : s.vm.findClass RX4 = some m.cls := findClass_of_methodNamed B.named
  have hlocks := B.notSynchronized
  subst hsz
  have hD := hD0.self (sz := s.heap.size)
  generalize hAe : va_A [(aS, .inr (4, [.ref aR, .ref aSj, .ref aSl, .ref aSs, .ref aSo, .int (nI sn), .int (nI st), .int (nI sb), .int (nI sx)])), (aSl, .inl (cI, 9216, .inl (nF sl))), (aSj, .inl (cI, 324, .inl (nF sj))), (aSo, .inl (cI, 9, .inl (nF so))), (aR, .inr (2, [.ref aRb, .ref aRr, .ref aRa])), (aRb, .inl (cI, 9, .inl (nF rb))), (aRr, .inl (cI, 9, .inl (nF rr))), (aRa, .inl (cI, 9, .inl (nF ra)))] s.heap.size = A at hD ⊢
  have hA : ∀ q : Nat, s.heap.size ≤ q → A q := fun q h => by rw [← hAe]; exact Or.inr h
  have hS : va_S A s.heap s.heap [] := va_S.rf
  have hl := lv_entry ([.ref aS, .int (nI q1), .int (nI q2), .int (nI q3)]) (n := 4) (Nat.le_of_ble_eq_true rfl)
  rw [lg_entry_eq]
  generalize (lg_sl ([.ref aS, .int (nI q1), .int (nI q2), .int (nI q3)]) ++ List.replicate (4 - (lg_sl ([.ref aS, .int (nI q1), .int (nI q2), .int (nI q3)])).length) Slot.unset).toArray = ls at hl ⊢
  have hl : lv_has ls 4 [(0, .ref aS), (1, .int (nI q1)), (2, .int (nI q2)), (3, .int (nI q3))] := hl
  refine lv_aload_n hx hb dX4_isSure_0 rfl (lv_at hl 0 rfl) ?_
  refine lv_iload_n hx hb dX4_isSure_1 rfl (lv_at hl 1 rfl) ?_
  refine lv_iload_n hx hb dX4_isSure_2 rfl (lv_at hl 2 rfl) ?_
  have hPc := hP.sub (ws' := [(aS, .inr (4, [.ref aR, .ref aSj, .ref aSl, .ref aSs, .ref aSo, .int (nI sn), .int (nI st), .int (nI sb), .int (nI sx)])), (aSo, .inl (cI, 9, .inl (nF so)))]) [0, 3] rfl
  refine vp_callSi (W.runV (As := [.int (nI q1), .int (nI q2)]) (rest := []) ⟨hx, hb, hml, hown, hts⟩ (k_X4_isInBest l dC dI cI cZ aS aR aSj aSl aSs aSo sn st sb sx so q1 q2 bSo (by omega) (by omega) (by omega)) (cwV 2 hts gX4_isSure_X4_isInBest rfl rfl rfl (by decide +kernel) ⟨Nat.le_of_ble_eq_true rfl, Nat.le_of_ble_eq_true rfl⟩) (ln_preV (q0 := 0) (ci := 4) hPc hKK rfl rfl) rfl rfl hl.1 rfl (lv_room (Nat.le_of_ble_eq_true rfl)) dX4_isSure_3 ⟨Nat.le_of_ble_eq_true rfl, Nat.le_of_ble_eq_true rfl⟩) (fun r_1 w_2 => ?_)
  rcases w_2 with ⟨rfl, c_3⟩ | ⟨rfl, c_3⟩
  · refine ln_if_neT (tgt := 11) hx hb dX4_isSure_6 (by decide) (by decide) ?_
    refine lv_aload_n hx hb dX4_isSure_11 rfl (lv_at hl 0 rfl) ?_
    refine va_get (D := (dC, dI)) (ci := 4) (v := .int (nI sx)) (C := RX4) (T := TX4) (N := 9) hx hb hts mX4_isSure_inX4 hown hK hP 0 rfl rfl 8 (by decide) (hts (.fieldLink RX4 67 "LeafOrder$Search" "nextCost" "I") mX4_isSure_0) (fun _ h9 => h9) rfl dX4_isSure_12 ?_
    refine lv_aload_n hx hb dX4_isSure_15 rfl (lv_at hl 0 rfl) ?_
    refine va_get (D := (dC, dI)) (ci := 4) (v := .int (nI sb)) (C := RX4) (T := TX4) (N := 9) hx hb hts mX4_isSure_inX4 hown hK hP 0 rfl rfl 7 (by decide) (hts (.fieldLink RX4 64 "LeafOrder$Search" "bestCost" "I") mX4_isSure_2) (fun _ h9 => h9) rfl dX4_isSure_16 ?_
    refine lv_iload_n hx hb dX4_isSure_19 rfl (lv_at hl 3 rfl) ?_
    refine ln_iadd hx hb dX4_isSure_20 ?_
    refine ln_icmp_le (tgt := 26) hx hb dX4_isSure_21 (by decide) (by omega) (by omega) (fun c_4 => ?_) (fun c_4 => ?_)
    · refine lv_aload_n hx hb dX4_isSure_26 rfl (lv_at hl 0 rfl) ?_
      refine lv_iload_n hx hb dX4_isSure_27 rfl (lv_at hl 1 rfl) ?_
      refine lv_iload_n hx hb dX4_isSure_28 rfl (lv_at hl 2 rfl) ?_
      refine W.eq (g2 := F0 m 29 ls [.int (bhN q2), .int (bhN q1), .ref aS]) (by rw [bhN_lt (show q1 < 18 by omega), bhN_lt (show q2 < 18 by omega)]) ?_
      have hPc := hP.sub (ws' := [(aS, .inr (4, [.ref aR, .ref aSj, .ref aSl, .ref aSs, .ref aSo, .int (nI sn), .int (nI st), .int (nI sb), .int (nI sx)])), (aSl, .inl (cI, 9216, .inl (nF sl))), (aSj, .inl (cI, 324, .inl (nF sj))), (aR, .inr (2, [.ref aRb, .ref aRr, .ref aRa])), (aRb, .inl (cI, 9, .inl (nF rb))), (aRr, .inl (cI, 9, .inl (nF rr))), (aRa, .inl (cI, 9, .inl (nF ra)))]) [0, 1, 2, 4, 5, 6, 7] rfl
      have hDc := hD.sub (ws' := [(aS, .inr (4, [.ref aR, .ref aSj, .ref aSl, .ref aSs, .ref aSo, .int (nI sn), .int (nI st), .int (nI sb), .int (nI sx)])), (aSl, .inl (cI, 9216, .inl (nF sl))), (aSj, .inl (cI, 324, .inl (nF sj))), (aR, .inr (2, [.ref aRb, .ref aRr, .ref aRa])), (aRb, .inl (cI, 9, .inl (nF rb))), (aRr, .inl (cI, 9, .inl (nF rr))), (aRa, .inl (cI, 9, .inl (nF ra)))]) [0, 1, 2, 4, 5, 6, 7] (by decide) rfl
      have hFc := va_free (wc := [(aS, .inr (4, [.ref aR, .ref aSj, .ref aSl, .ref aSs, .ref aSo, .int (nI sn), .int (nI st), .int (nI sb), .int (nI sx)])), (aSl, .inl (cI, 9216, .inl (nF sl))), (aSj, .inl (cI, 324, .inl (nF sj))), (aR, .inr (2, [.ref aRb, .ref aRr, .ref aRa])), (aRb, .inl (cI, 9, .inl (nF rb))), (aRr, .inl (cI, 9, .inl (nF rr))), (aRa, .inl (cI, 9, .inl (nF ra)))]) hD hS hA [0, 1, 2, 4, 5, 6, 7] rfl
      refine va_callv (va_runV (As := [.int (bhN q1), .int (bhN q2)]) (rest := []) ⟨hx, hb, hml, hown, hts⟩ (k_X4_fill l dC dI cI cZ aS aR aSj aSl aSs aSo aRb aRr aRa sn st sb sx sl sj rb rr ra q1 q2 s.heap.size bSl bSj bRb bRr bRa (by omega) (by omega) (by omega)) (cwV 2 hts gX4_isSure_X4_fill rfl rfl rfl (by decide +kernel) ⟨Nat.le_of_ble_eq_true rfl, Nat.le_of_ble_eq_true rfl⟩) (ln_preVM (q0 := 0) (ci := 4) hPc hKK hDc rfl rfl) rfl rfl hl.1 rfl (lv_room (Nat.le_of_ble_eq_true rfl)) dX4_isSure_29 ⟨Nat.le_of_ble_eq_true rfl, Nat.le_of_ble_eq_true rfl⟩) hS (fun q _ h => hFc q h) hFc (fun u t H1 locs ht hvm w_6 hB hzH hkH hS => ?_)
      obtain ⟨slz_7, rfl⟩ : ∃ z, z = u := ⟨_, rfl⟩
      obtain ⟨hP1, hD1⟩ := hB
      rw [ht] at hP1
      try dsimp only at w_6
      obtain ⟨hP, hD⟩ := va_join (wr := [(aSo, .inl (cI, 9, .inl (nF so)))]) (w1 := [(aS, .inr (4, [.ref aR, .ref aSj, .ref aSl, .ref aSs, .ref aSo, .int (nI sn), .int (nI st), .int (nI sb), .int (nI sx)])), (aSl, .inl (cI, 9216, .inl (nF slz_7))), (aSj, .inl (cI, 324, .inl (nF sj))), (aR, .inr (2, [.ref aRb, .ref aRr, .ref aRa])), (aRb, .inl (cI, 9, .inl (nF rb))), (aRr, .inl (cI, 9, .inl (nF rr))), (aRa, .inl (cI, 9, .inl (nF ra)))]) hP hD [0, 1, 2, 4, 5, 6, 7] [3] rfl rfl (by decide) (by decide) hkH hFc hP1 hD1
      generalize H1 = H at hP hS ⊢
      have hP := hP.sub (ws' := [(aS, .inr (4, [.ref aR, .ref aSj, .ref aSl, .ref aSs, .ref aSo, .int (nI sn), .int (nI st), .int (nI sb), .int (nI sx)])), (aSl, .inl (cI, 9216, .inl (nF slz_7))), (aSj, .inl (cI, 324, .inl (nF sj))), (aSo, .inl (cI, 9, .inl (nF so))), (aR, .inr (2, [.ref aRb, .ref aRr, .ref aRa])), (aRb, .inl (cI, 9, .inl (nF rb))), (aRr, .inl (cI, 9, .inl (nF rr))), (aRa, .inl (cI, 9, .inl (nF ra)))]) [1, 2, 3, 0, 4, 5, 6, 7] rfl
      have hD := hD.sub (ws' := [(aS, .inr (4, [.ref aR, .ref aSj, .ref aSl, .ref aSs, .ref aSo, .int (nI sn), .int (nI st), .int (nI sb), .int (nI sx)])), (aSl, .inl (cI, 9216, .inl (nF slz_7))), (aSj, .inl (cI, 324, .inl (nF sj))), (aSo, .inl (cI, 9, .inl (nF so))), (aR, .inr (2, [.ref aRb, .ref aRr, .ref aRa])), (aRb, .inl (cI, 9, .inl (nF rb))), (aRr, .inl (cI, 9, .inl (nF rr))), (aRa, .inl (cI, 9, .inl (nF ra)))]) [1, 2, 3, 0, 4, 5, 6, 7] (by decide) rfl
      obtain ⟨hfl, b_8⟩ := w_6
      have hp9 := ln_p9 hn
      have hp1 := ln_one_two_pow sn
      refine lv_aload_n hx hb dX4_isSure_32 rfl (lv_at hl 0 rfl) ?_
      refine lv_aload_n hx hb dX4_isSure_33 rfl (lv_at hl 0 rfl) ?_
      have hPc := hP.sub (ws' := [(aS, .inr (4, [.ref aR, .ref aSj, .ref aSl, .ref aSs, .ref aSo, .int (nI sn), .int (nI st), .int (nI sb), .int (nI sx)]))]) [0] rfl
      refine vp_callSi (W.runV (As := []) (rest := [.ref aS]) ⟨hx, hb, hml, hown, hts⟩ (k_X4_all l dC dI cI cZ aS aR aSj aSl aSs aSo sn st sb sx (by omega)) (cwV 0 hts gX4_isSure_X4_all rfl rfl rfl (by decide +kernel) ⟨Nat.le_of_ble_eq_true rfl, Nat.le_of_ble_eq_true rfl⟩) (ln_preV (q0 := 0) (ci := 4) hPc hKK rfl rfl) rfl rfl hl.1 rfl (lv_room (Nat.le_of_ble_eq_true rfl)) dX4_isSure_34 ⟨Nat.le_of_ble_eq_true rfl, Nat.le_of_ble_eq_true rfl⟩) (fun r_9 w_10 => ?_)
      subst w_10
      have hPc := hP.sub (ws' := [(aS, .inr (4, [.ref aR, .ref aSj, .ref aSl, .ref aSs, .ref aSo, .int (nI sn), .int (nI st), .int (nI sb), .int (nI sx)])), (aSl, .inl (cI, 9216, .inl (nF slz_7)))]) [0, 1] rfl
      refine vp_callSi (W.runV (As := [.int (nI (2 ^ sn - 1))]) (rest := []) ⟨hx, hb, hml, hown, hts⟩ (k_X4_leastOf l dC dI cI cZ aS aR aSj aSl aSs aSo sn st sb sx slz_7 (2 ^ sn - 1) b_8 (by omega) (by omega)) (cwV 1 hts gX4_isSure_X4_leastOf rfl rfl rfl (by decide +kernel) ⟨Nat.le_of_ble_eq_true rfl, Nat.le_of_ble_eq_true rfl⟩) (ln_preV (q0 := 0) (ci := 4) hPc hKK rfl rfl) rfl rfl hl.1 rfl (lv_room (Nat.le_of_ble_eq_true rfl)) dX4_isSure_37 ⟨Nat.le_of_ble_eq_true rfl, Nat.le_of_ble_eq_true rfl⟩) (fun r_11 w_12 => ?_)
      subst w_12
      refine lv_aload_n hx hb dX4_isSure_40 rfl (lv_at hl 0 rfl) ?_
      refine va_get (D := (dC, dI)) (ci := 4) (v := .int (nI sb)) (C := RX4) (T := TX4) (N := 9) hx hb hts mX4_isSure_inX4 hown hK hP 0 rfl rfl 7 (by decide) (hts (.fieldLink RX4 64 "LeafOrder$Search" "bestCost" "I") mX4_isSure_2) (fun _ h9 => h9) rfl dX4_isSure_41 ?_
      refine lv_iload_n hx hb dX4_isSure_44 rfl (lv_at hl 3 rfl) ?_
      refine ln_iadd hx hb dX4_isSure_45 ?_
      refine ln_icmp_le (tgt := 53) hx hb dX4_isSure_46 (by decide) (Nat.lt_of_le_of_lt (m_of_le _ _ _) (by decide)) (by omega) (fun c_13 => ?_) (fun c_13 => ?_)
      · refine lv_iconst (v := nI 0) hx hb dX4_isSure_53 (by decide) ?_
        exact W.zret (v := (nI 0)) hx hb hr (by decide) (fun t ht hW => ⟨⟨(nI 0), slz_7, rfl, ⟨Or.inr ⟨rfl, (fun q => q.2.elim (fun z => absurd z (Nat.not_lt.mpr c_4)) (fun z => by rw [← hfl] at z; exact absurd z (Nat.not_lt.mpr c_13)))⟩, b_8⟩, by rw [ht]; exact hP, hD⟩, hS.F ht⟩) hS.2.2 dX4_isSure_54
      · refine lv_iconst (v := nI 1) hx hb dX4_isSure_49 (by decide) ?_
        refine lv_goto (tgt := 54) hx hb dX4_isSure_50 (by decide) ?_
        exact W.zret (v := (nI 1)) hx hb hr (by decide) (fun t ht hW => ⟨⟨(nI 1), slz_7, rfl, ⟨Or.inl ⟨rfl, c_3, Or.inr (by rw [← hfl]; exact c_13)⟩, b_8⟩, by rw [ht]; exact hP, hD⟩, hS.F ht⟩) hS.2.2 dX4_isSure_54
    · refine lv_iconst (v := nI 1) hx hb dX4_isSure_24 (by decide) ?_
      exact W.zret (v := (nI 1)) hx hb hr (by decide) (fun t ht hW => ⟨⟨(nI 1), sl, rfl, ⟨Or.inl ⟨rfl, c_3, Or.inl c_4⟩, bSl⟩, by rw [ht]; exact hP, hD⟩, hS.F ht⟩) hS.2.2 dX4_isSure_25
  · refine ln_if_neF (tgt := 11) hx hb dX4_isSure_6 (by decide) (by decide) ?_
    refine lv_iconst (v := nI 0) hx hb dX4_isSure_9 (by decide) ?_
    exact W.zret (v := (nI 0)) hx hb hr (by decide) (fun t ht hW => ⟨⟨(nI 0), sl, rfl, ⟨Or.inr ⟨rfl, (fun q => c_3 q.1)⟩, bSl⟩, by rw [ht]; exact hP, hD⟩, hS.F ht⟩) hS.2.2 dX4_isSure_10
theorem mX0_costOf_0 : Cond.fieldLink RX0 9 "LeafOrder$Books" "search" "LLeafOrder$Search;" ∈ wsX0_costOf := by decide +kernel
theorem mX0_costOf_inX0 : ∀ w ∈ wsX00, w ∈ wsX0_costOf := by decide +kernel
theorem mX0_costOf_2 : Cond.fieldLink RX0 39 "LeafOrder$Search" "setCosts" "[I" ∈ wsX0_costOf := by decide +kernel
theorem mX0_costOf_inX4 : ∀ w ∈ wsX40, w ∈ wsX0_costOf := by decide +kernel
set_option maxHeartbeats 4000000 in
set_option maxRecDepth 100000 in
theorem k_X0_costOf (l : Launch) (dC : Nat → ClassId) (dI : Nat → Nat → Nat) (cI cZ : ClassId) (aB aS aR aSj aSl aSs aSo : Nat) (bc : Nat) (bo : Nat) (sn : Nat) (st : Nat) (sb : Nat) (sx : Nat) (ss : Nat → Nat) (q1 : Nat) (bSs : ∀ k, ss k ≤ 1000000) (hn : sn ≤ 9) (h1 : q1 < 512) : Met l yX0_costOf wsX0_costOf { frames := 1, cells := 0, slots := 0, locals := 20 } (va_Pc [.ref aB, .int (nI q1)] (fun U => va_P (dC, dI) vwCl [(aB, .inr (0, [.ref aS, .int (nI bc), .int (nI bo)])), (aS, .inr (4, [.ref aR, .ref aSj, .ref aSl, .ref aSs, .ref aSo, .int (nI sn), .int (nI st), .int (nI sb), .int (nI sx)])), (aSs, .inl (cI, 512, .inl (nF ss)))] U.heap ∧ lK dC dI cI cZ U)) (vp_Si (fun r => r = (nI (m_two ss sn q1)))) 0 0 (fun _ => False) := by
  refine Met.ofW (cc := cX0_costOf) (maxL := 2) (ret := (some .int)) (by decide) rfl ?_
  intro p e s m args below meth c s₁ B hml hv
  obtain ⟨rfl, hP, hKK⟩ := hv
  have hK := hKK.1
  have hx := B.exec
  have hb := B.bytes
  have hr := B.returns
  have hts := atoms_spec (ws := wsX0_costOf) B.pre
  have hown : s.vm.findClass RX0 = some m.cls := findClass_of_methodNamed B.named
  have hlocks := B.notSynchronized
  have hl := lv_entry ([.ref aB, .int (nI q1)]) (n := 2) (Nat.le_of_ble_eq_true rfl)
  rw [lg_entry_eq]
  generalize (lg_sl ([.ref aB, .int (nI q1)]) ++ List.replicate (2 - (lg_sl ([.ref aB, .int (nI q1)])).length) Slot.unset).toArray = ls at hl ⊢
  have hl : lv_has ls 2 [(0, .ref aB), (1, .int (nI q1))] := hl
  refine lv_aload_n hx hb dX0_costOf_0 rfl (lv_at hl 0 rfl) ?_
  refine va_get (D := (dC, dI)) (ci := 0) (v := .ref aS) (C := RX0) (T := TX0) (N := 3) hx hb hts mX0_costOf_inX0 hown hK hP 0 rfl rfl 0 (by decide) (hts (.fieldLink RX0 9 "LeafOrder$Books" "search" "LLeafOrder$Search;") mX0_costOf_0) (fun _ h9 => h9) rfl dX0_costOf_1 ?_
  refine va_get (D := (dC, dI)) (ci := 4) (v := .ref aSs) (C := RX4) (T := TX4) (N := 9) hx hb hts mX0_costOf_inX4 hown hK hP 1 rfl rfl 3 (by decide) (hts (.fieldLink RX0 39 "LeafOrder$Search" "setCosts" "[I") mX0_costOf_2) (fun _ h9 => h9) rfl dX0_costOf_4 ?_
  refine lv_iload_n hx hb dX0_costOf_7 rfl (lv_at hl 1 rfl) ?_
  refine ln_iald (i := q1) hx hb hK hP 2 0 rfl rfl (by omega) (by decide) dX0_costOf_8 ?_
  have b_1 := bSs q1
  refine lv_aload_n hx hb dX0_costOf_9 rfl (lv_at hl 0 rfl) ?_
  refine va_get (D := (dC, dI)) (ci := 0) (v := .ref aS) (C := RX0) (T := TX0) (N := 3) hx hb hts mX0_costOf_inX0 hown hK hP 0 rfl rfl 0 (by decide) (hts (.fieldLink RX0 9 "LeafOrder$Books" "search" "LLeafOrder$Search;") mX0_costOf_0) (fun _ h9 => h9) rfl dX0_costOf_10 ?_
  refine va_get (D := (dC, dI)) (ci := 4) (v := .ref aSs) (C := RX4) (T := TX4) (N := 9) hx hb hts mX0_costOf_inX4 hown hK hP 1 rfl rfl 3 (by decide) (hts (.fieldLink RX0 39 "LeafOrder$Search" "setCosts" "[I") mX0_costOf_2) (fun _ h9 => h9) rfl dX0_costOf_13 ?_
  refine lv_aload_n hx hb dX0_costOf_16 rfl (lv_at hl 0 rfl) ?_
  refine va_get (D := (dC, dI)) (ci := 0) (v := .ref aS) (C := RX0) (T := TX0) (N := 3) hx hb hts mX0_costOf_inX0 hown hK hP 0 rfl rfl 0 (by decide) (hts (.fieldLink RX0 9 "LeafOrder$Books" "search" "LLeafOrder$Search;") mX0_costOf_0) (fun _ h9 => h9) rfl dX0_costOf_17 ?_
  have hPc := hP.sub (ws' := [(aS, .inr (4, [.ref aR, .ref aSj, .ref aSl, .ref aSs, .ref aSo, .int (nI sn), .int (nI st), .int (nI sb), .int (nI sx)]))]) [1] rfl
  refine vp_callSi (W.runV (As := []) (rest := [.ref aSs, .int (nI (ss q1))]) ⟨hx, hb, hml, hown, hts⟩ (k_X4_all l dC dI cI cZ aS aR aSj aSl aSs aSo sn st sb sx (by omega)) (cwV 0 hts gX0_costOf_X4_all rfl rfl rfl (by decide +kernel) ⟨Nat.le_of_ble_eq_true rfl, Nat.le_of_ble_eq_true rfl⟩) (ln_preV (q0 := 0) (ci := 4) hPc hKK rfl rfl) rfl rfl hl.1 rfl (lv_room (Nat.le_of_ble_eq_true rfl)) dX0_costOf_20 ⟨Nat.le_of_ble_eq_true rfl, Nat.le_of_ble_eq_true rfl⟩) (fun r_2 w_3 => ?_)
  subst w_3
  refine lv_iload_n hx hb dX0_costOf_23 rfl (lv_at hl 1 rfl) ?_
  refine lv_iconst (v := (-1)) hx hb dX0_costOf_24 (by decide) ?_
  refine lv_ixor hx hb dX0_costOf_25 ?_
  refine ln_iclr hx hb dX0_costOf_26 ?_
  refine ln_iald (i := nclr (2 ^ sn - 1) q1) hx hb hK hP 2 0 rfl rfl (by have := nclr_le (2 ^ sn - 1) q1; have := ln_p9 hn; omega) (by decide) dX0_costOf_27 ?_
  have b_4 := bSs (nclr (2 ^ sn - 1) q1)
  refine ln_iadd hx hb dX0_costOf_28 ?_
  exact W.iret (v := (nI ((ss q1) + (ss (nclr (2 ^ sn - 1) q1))))) hx hb hr (fun t ht hW => ⟨(nI ((ss q1) + (ss (nclr (2 ^ sn - 1) q1)))), rfl, rfl, ht⟩) (fun _ h => by cases h) dX0_costOf_29
theorem mX0_part_0 : Cond.constant RX0 15 (1000000) ∈ wsX0_part := by decide +kernel
theorem mX0_part_1 : Cond.fieldLink RX0 16 "LeafOrder$Books" "cost" "I" ∈ wsX0_part := by decide +kernel
theorem mX0_part_inX0 : ∀ w ∈ wsX00, w ∈ wsX0_part := by decide +kernel
theorem mX0_part_3 : Cond.fieldLink RX0 20 "LeafOrder$Books" "other" "I" ∈ wsX0_part := by decide +kernel
theorem mX0_part_4 : Cond.fieldLink RX0 9 "LeafOrder$Books" "search" "LLeafOrder$Search;" ∈ wsX0_part := by decide +kernel
set_option maxHeartbeats 4000000 in
set_option maxRecDepth 100000 in
theorem k_X0_part (l : Launch) (dC : Nat → ClassId) (dI : Nat → Nat → Nat) (cI cZ : ClassId) (aB aS aR aSj aSl aSs aSo : Nat) (bc : Nat) (bo : Nat) (sn : Nat) (st : Nat) (sb : Nat) (sx : Nat) (ss : Nat → Nat) (sz : Nat) (bSs : ∀ k, ss k ≤ 1000000) (hn : sn ≤ 9) : Met l yX0_part wsX0_part { frames := 2, cells := 0, slots := 0, locals := 41 } (va_Pc [.ref aB] (fun U => U.heap.size = sz ∧ va_P (dC, dI) vwCl [(aB, .inr (0, [.ref aS, .int (nI bc), .int (nI bo)])), (aS, .inr (4, [.ref aR, .ref aSj, .ref aSl, .ref aSs, .ref aSo, .int (nI sn), .int (nI st), .int (nI sb), .int (nI sx)])), (aSs, .inl (cI, 512, .inl (nF ss)))] U.heap ∧ lK dC dI cI cZ U ∧ va_D (fun _ => True) [(aB, .inr (0, [.ref aS, .int (nI bc), .int (nI bo)])), (aS, .inr (4, [.ref aR, .ref aSj, .ref aSl, .ref aSs, .ref aSo, .int (nI sn), .int (nI st), .int (nI sb), .int (nI sx)])), (aSs, .inl (cI, 512, .inl (nF ss)))])) (va_Qv (fun (u : (Nat) × (Nat)) => match u with | (bcz, boz) => (bcz, boz) = m_part ss sn ((2 ^ sn - 1) / 2) ∧ bcz ≤ 1000000 ∧ boz < 512) (fun (u : (Nat) × (Nat)) (t : State) => match u with | (bcz, boz) => va_P (dC, dI) vwCl [(aB, .inr (0, [.ref aS, .int (nI bcz), .int (nI boz)])), (aS, .inr (4, [.ref aR, .ref aSj, .ref aSl, .ref aSs, .ref aSo, .int (nI sn), .int (nI st), .int (nI sb), .int (nI sx)])), (aSs, .inl (cI, 512, .inl (nF ss)))] t.heap ∧ va_D (va_A [(aB, .inr (0, [.ref aS, .int (nI bc), .int (nI bo)])), (aS, .inr (4, [.ref aR, .ref aSj, .ref aSl, .ref aSs, .ref aSo, .int (nI sn), .int (nI st), .int (nI sb), .int (nI sx)])), (aSs, .inl (cI, 512, .inl (nF ss)))] sz) [(aB, .inr (0, [.ref aS, .int (nI bcz), .int (nI boz)])), (aS, .inr (4, [.ref aR, .ref aSj, .ref aSl, .ref aSs, .ref aSo, .int (nI sn), .int (nI st), .int (nI sb), .int (nI sx)])), (aSs, .inl (cI, 512, .inl (nF ss)))]) (va_A [(aB, .inr (0, [.ref aS, .int (nI bc), .int (nI bo)])), (aS, .inr (4, [.ref aR, .ref aSj, .ref aSl, .ref aSs, .ref aSo, .int (nI sn), .int (nI st), .int (nI sb), .int (nI sx)])), (aSs, .inl (cI, 512, .inl (nF ss)))] sz)) 0 0 (va_A [(aB, .inr (0, [.ref aS, .int (nI bc), .int (nI bo)])), (aS, .inr (4, [.ref aR, .ref aSj, .ref aSl, .ref aSs, .ref aSo, .int (nI sn), .int (nI st), .int (nI sb), .int (nI sx)])), (aSs, .inl (cI, 512, .inl (nF ss)))] sz) := by
  refine Met.ofW (cc := cX0_part) (maxL := 3) (ret := none) (by decide) rfl ?_
  intro p e s m args below meth c s₁ B hml hv
  obtain ⟨rfl, hsz, hP, hKK, hD0⟩ := hv
  have hK := hKK.1
  have hx := B.exec
  have hb := B.bytes
  have hr := B.returns
  have hts := atoms_spec (ws := wsX0_part) B.pre
  have hown : s.vm.findClass RX0 = some m.cls := findClass_of_methodNamed B.named
  have hlocks := B.notSynchronized
  subst hsz
  have hD := hD0.self (sz := s.heap.size)
  generalize hAe : va_A [(aB, .inr (0, [.ref aS, .int (nI bc), .int (nI bo)])), (aS, .inr (4, [.ref aR, .ref aSj, .ref aSl, .ref aSs, .ref aSo, .int (nI sn), .int (nI st), .int (nI sb), .int (nI sx)])), (aSs, .inl (cI, 512, .inl (nF ss)))] s.heap.size = A at hD ⊢
  have hA : ∀ q : Nat, s.heap.size ≤ q → A q := fun q h => by rw [← hAe]; exact Or.inr h
  have hS : va_S A s.heap s.heap [] := va_S.rf
  have hl := lv_entry ([.ref aB]) (n := 3) (Nat.le_of_ble_eq_true rfl)
  rw [lg_entry_eq]
  generalize (lg_sl ([.ref aB]) ++ List.replicate (3 - (lg_sl ([.ref aB])).length) Slot.unset).toArray = ls at hl ⊢
  have hl : lv_has ls 3 [(0, .ref aB)] := hl
  have hp9 := ln_p9 hn
  have hp1 := ln_one_two_pow sn
  refine lv_aload_n hx hb dX0_part_0 rfl (lv_at hl 0 rfl) ?_
  refine lv_ldc (v := nI 1000000) hx hb hown (hts (.constant RX0 15 (1000000)) mX0_part_0) dX0_part_1 ?_
  refine va_put (D := (dC, dI)) (ci := 0) (v := .int (nI 1000000)) (ty := .int) (C := RX0) (T := TX0) (N := 3) hx hb hts mX0_part_inX0 tyX0 tyX0_ok nmX0 hown hK hP hD hS 0 rfl rfl 1 (by decide) (hts (.fieldLink RX0 16 "LeafOrder$Books" "cost" "I") mX0_part_1) (fun _ h9 => h9) rfl (by decide +kernel) rfl rfl (Nat.le_of_ble_eq_true rfl) dX0_part_3 (fun H locs hP hD hS => ?_)
  have hP : va_P (dC, dI) vwCl [(aB, .inr (0, [.ref aS, .int (nI 1000000), .int (nI bo)])), (aS, .inr (4, [.ref aR, .ref aSj, .ref aSl, .ref aSs, .ref aSo, .int (nI sn), .int (nI st), .int (nI sb), .int (nI sx)])), (aSs, .inl (cI, 512, .inl (nF ss)))] H := hP
  have hD : va_D A [(aB, .inr (0, [.ref aS, .int (nI 1000000), .int (nI bo)])), (aS, .inr (4, [.ref aR, .ref aSj, .ref aSl, .ref aSs, .ref aSo, .int (nI sn), .int (nI st), .int (nI sb), .int (nI sx)])), (aSs, .inl (cI, 512, .inl (nF ss)))] := hD
  refine lv_aload_n hx hb dX0_part_6 rfl (lv_at hl 0 rfl) ?_
  refine lv_iconst (v := nI 0) hx hb dX0_part_7 (by decide) ?_
  refine va_put (D := (dC, dI)) (ci := 0) (v := .int (nI 0)) (ty := .int) (C := RX0) (T := TX0) (N := 3) hx hb hts mX0_part_inX0 tyX0 tyX0_ok nmX0 hown hK hP hD hS 0 rfl rfl 2 (by decide) (hts (.fieldLink RX0 20 "LeafOrder$Books" "other" "I") mX0_part_3) (fun _ h9 => h9) rfl (by decide +kernel) rfl rfl (Nat.le_of_ble_eq_true rfl) dX0_part_8 (fun H locs hP hD hS => ?_)
  have hP : va_P (dC, dI) vwCl [(aB, .inr (0, [.ref aS, .int (nI 1000000), .int (nI 0)])), (aS, .inr (4, [.ref aR, .ref aSj, .ref aSl, .ref aSs, .ref aSo, .int (nI sn), .int (nI st), .int (nI sb), .int (nI sx)])), (aSs, .inl (cI, 512, .inl (nF ss)))] H := hP
  have hD : va_D A [(aB, .inr (0, [.ref aS, .int (nI 1000000), .int (nI 0)])), (aS, .inr (4, [.ref aR, .ref aSj, .ref aSl, .ref aSs, .ref aSo, .int (nI sn), .int (nI st), .int (nI sb), .int (nI sx)])), (aSs, .inl (cI, 512, .inl (nF ss)))] := hD
  refine lv_iconst (v := nI 2) hx hb dX0_part_11 (by decide) ?_
  refine lv_istore_n (lv' := [(1, .int (nI 2)), (0, .ref aB)]) hx hb dX0_part_12 rfl hl (by decide) rfl (fun ls hl => ?_)
  have LP13 : ∀ (n13 : Nat) (k : Nat) (cv : Nat) (ov : Nat), (2 ^ sn - 1) / 2 - k < n13 → (k ≤ (2 ^ sn - 1) / 2) → (cv ≤ 1000000) → (ov < 512) → ((cv, ov) = m_part ss sn k) → ∀ (H : Heap) (locs : List Loc), va_P (dC, dI) vwCl [(aB, .inr (0, [.ref aS, .int (nI cv), .int (nI ov)])), (aS, .inr (4, [.ref aR, .ref aSj, .ref aSl, .ref aSs, .ref aSo, .int (nI sn), .int (nI st), .int (nI sb), .int (nI sx)])), (aSs, .inl (cI, 512, .inl (nF ss)))] H → va_D A [(aB, .inr (0, [.ref aS, .int (nI cv), .int (nI ov)])), (aS, .inr (4, [.ref aR, .ref aSj, .ref aSl, .ref aSs, .ref aSo, .int (nI sn), .int (nI st), .int (nI sb), .int (nI sx)])), (aSs, .inl (cI, 512, .inl (nF ss)))] → va_S A s.heap H locs → ∀ (ls : Array Slot), lv_has ls 3 [(0, .ref aB), (1, .int (nI (2 * (k + 1))))] → W p l e { frames := 2, cells := 0, slots := 0, locals := 41 } s m [.ref aB].toArray below meth c H locs 0 0 (MQ below (va_Qv (fun (u : (Nat) × (Nat)) => match u with | (bcz, boz) => (bcz, boz) = m_part ss sn ((2 ^ sn - 1) / 2) ∧ bcz ≤ 1000000 ∧ boz < 512) (fun (u : (Nat) × (Nat)) (t : State) => match u with | (bcz, boz) => va_P (dC, dI) vwCl [(aB, .inr (0, [.ref aS, .int (nI bcz), .int (nI boz)])), (aS, .inr (4, [.ref aR, .ref aSj, .ref aSl, .ref aSs, .ref aSo, .int (nI sn), .int (nI st), .int (nI sb), .int (nI sx)])), (aSs, .inl (cI, 512, .inl (nF ss)))] t.heap ∧ va_D A [(aB, .inr (0, [.ref aS, .int (nI bcz), .int (nI boz)])), (aS, .inr (4, [.ref aR, .ref aSj, .ref aSl, .ref aSs, .ref aSo, .int (nI sn), .int (nI st), .int (nI sb), .int (nI sx)])), (aSs, .inl (cI, 512, .inl (nF ss)))]) A) [.ref aB].toArray s 0 0 A) (F0 m 13 ls []) := by
    intro n13
    induction n13 with
    | zero =>
      intro k cv ov hm
      exact absurd hm (Nat.not_lt_zero _)
    | succ n13 ih13 =>
      intro k cv ov hm13  hk hc1 ho1 hpq H locs hP hD hS ls hl
      refine lv_iload_n hx hb dX0_part_13 rfl (lv_at hl 1 rfl) ?_
      refine lv_aload_n hx hb dX0_part_14 rfl (lv_at hl 0 rfl) ?_
      refine va_get (D := (dC, dI)) (ci := 0) (v := .ref aS) (C := RX0) (T := TX0) (N := 3) hx hb hts mX0_part_inX0 hown hK hP 0 rfl rfl 0 (by decide) (hts (.fieldLink RX0 9 "LeafOrder$Books" "search" "LLeafOrder$Search;") mX0_part_4) (fun _ h9 => h9) rfl dX0_part_15 ?_
      have hPc := hP.sub (ws' := [(aS, .inr (4, [.ref aR, .ref aSj, .ref aSl, .ref aSs, .ref aSo, .int (nI sn), .int (nI st), .int (nI sb), .int (nI sx)]))]) [1] rfl
      refine vp_callSi (W.runV (As := []) (rest := [.int (nI (2 * (k + 1)))]) ⟨hx, hb, hml, hown, hts⟩ (k_X4_all l dC dI cI cZ aS aR aSj aSl aSs aSo sn st sb sx (by omega)) (cwV 0 hts gX0_part_X4_all rfl rfl rfl (by decide +kernel) ⟨Nat.le_of_ble_eq_true rfl, Nat.le_of_ble_eq_true rfl⟩) (ln_preV (q0 := 0) (ci := 4) hPc hKK rfl rfl) rfl rfl hl.1 rfl (lv_room (Nat.le_of_ble_eq_true rfl)) dX0_part_18 ⟨Nat.le_of_ble_eq_true rfl, Nat.le_of_ble_eq_true rfl⟩) (fun r_1 w_2 => ?_)
      subst w_2
      refine ln_icmp_gt (tgt := 54) hx hb dX0_part_21 (by decide) (by have := ln_p9 hn; omega) (by have := ln_p9 hn; omega) (fun c_3 => ?_) (fun c_3 => ?_)
      · exact W.vret hx hb hr (fun t ht hW => ⟨⟨(cv, ov), rfl, ⟨(by rw [hpq, show (2 ^ sn - 1) / 2 = k by omega]), hc1, ho1⟩, by rw [ht]; exact hP, hD⟩, hS.F ht⟩) hS.2.2 dX0_part_54
      · refine lv_aload_n hx hb dX0_part_24 rfl (lv_at hl 0 rfl) ?_
        refine lv_iload_n hx hb dX0_part_25 rfl (lv_at hl 1 rfl) ?_
        have hPc := hP.sub (ws' := [(aB, .inr (0, [.ref aS, .int (nI cv), .int (nI ov)])), (aS, .inr (4, [.ref aR, .ref aSj, .ref aSl, .ref aSs, .ref aSo, .int (nI sn), .int (nI st), .int (nI sb), .int (nI sx)])), (aSs, .inl (cI, 512, .inl (nF ss)))]) [0, 1, 2] rfl
        refine vp_callSi (W.runV (As := [.int (nI (2 * (k + 1)))]) (rest := []) ⟨hx, hb, hml, hown, hts⟩ (k_X0_costOf l dC dI cI cZ aB aS aR aSj aSl aSs aSo cv ov sn st sb sx ss (2 * (k + 1)) bSs (by omega) (by omega)) (cwV 1 hts gX0_part_X0_costOf rfl rfl rfl (by decide +kernel) ⟨Nat.le_of_ble_eq_true rfl, Nat.le_of_ble_eq_true rfl⟩) (ln_preV (q0 := 0) (ci := 0) hPc hKK rfl rfl) rfl rfl hl.1 rfl (lv_room (Nat.le_of_ble_eq_true rfl)) dX0_part_26 ⟨Nat.le_of_ble_eq_true rfl, Nat.le_of_ble_eq_true rfl⟩) (fun r_4 w_5 => ?_)
        subst w_5
        have hm2 := m_two_le bSs sn (2 * (k + 1))
        refine lv_istore_n (lv' := [(2, .int (nI (m_two ss sn (2 * (k + 1))))), (0, .ref aB), (1, .int (nI (2 * (k + 1))))]) hx hb dX0_part_29 rfl hl (by decide) rfl (fun ls hl => ?_)
        refine lv_iload_n hx hb dX0_part_30 rfl (lv_at hl 0 rfl) ?_
        refine lv_aload_n hx hb dX0_part_31 rfl (lv_at hl 1 rfl) ?_
        refine va_get (D := (dC, dI)) (ci := 0) (v := .int (nI cv)) (C := RX0) (T := TX0) (N := 3) hx hb hts mX0_part_inX0 hown hK hP 0 rfl rfl 1 (by decide) (hts (.fieldLink RX0 16 "LeafOrder$Books" "cost" "I") mX0_part_1) (fun _ h9 => h9) rfl dX0_part_32 ?_
        refine ln_icmp_ge (tgt := 48) hx hb dX0_part_35 (by decide) (by omega) (by omega) (fun c_6 => ?_) (fun c_6 => ?_)
        · refine lv_iinc (v := (nI (2 * (k + 1) + 2))) (lv' := [(1, .int (nI (2 * (k + 1) + 2))), (2, .int (nI (m_two ss sn (2 * (k + 1))))), (0, .ref aB)]) hx hb dX0_part_48 hl (k := 2) rfl (by show nI _ + nI 2 = _; rw [nI_add]) (by decide) rfl (fun ls hl => ?_)
          refine lv_goto (tgt := 13) hx hb dX0_part_51 (by decide) ?_
          have hl : lv_has ls 3 [(1, .int (nI (2 * (k + 1 + 1)))), (2, .int (nI (m_two ss sn (2 * (k + 1))))), (0, .ref aB)] := hl
          exact ih13 (k + 1) cv ov (by omega)  (by omega) (by omega) (by have := ln_p9 hn; omega) (by rw [m_part, if_neg (by rw [← hpq]; exact Nat.not_lt.mpr c_6)]; exact hpq) _ _ hP hD hS ls (lv_sub hl [2, 0] rfl)
        · refine lv_aload_n hx hb dX0_part_38 rfl (lv_at hl 1 rfl) ?_
          refine lv_iload_n hx hb dX0_part_39 rfl (lv_at hl 0 rfl) ?_
          refine va_put (D := (dC, dI)) (ci := 0) (v := .int (nI (m_two ss sn (2 * (k + 1))))) (ty := .int) (C := RX0) (T := TX0) (N := 3) hx hb hts mX0_part_inX0 tyX0 tyX0_ok nmX0 hown hK hP hD hS 0 rfl rfl 1 (by decide) (hts (.fieldLink RX0 16 "LeafOrder$Books" "cost" "I") mX0_part_1) (fun _ h9 => h9) rfl (by decide +kernel) rfl rfl (Nat.le_of_ble_eq_true rfl) dX0_part_40 (fun H locs hP hD hS => ?_)
          have hP : va_P (dC, dI) vwCl [(aB, .inr (0, [.ref aS, .int (nI (m_two ss sn (2 * (k + 1)))), .int (nI ov)])), (aS, .inr (4, [.ref aR, .ref aSj, .ref aSl, .ref aSs, .ref aSo, .int (nI sn), .int (nI st), .int (nI sb), .int (nI sx)])), (aSs, .inl (cI, 512, .inl (nF ss)))] H := hP
          have hD : va_D A [(aB, .inr (0, [.ref aS, .int (nI (m_two ss sn (2 * (k + 1)))), .int (nI ov)])), (aS, .inr (4, [.ref aR, .ref aSj, .ref aSl, .ref aSs, .ref aSo, .int (nI sn), .int (nI st), .int (nI sb), .int (nI sx)])), (aSs, .inl (cI, 512, .inl (nF ss)))] := hD
          refine lv_aload_n hx hb dX0_part_43 rfl (lv_at hl 1 rfl) ?_
          refine lv_iload_n hx hb dX0_part_44 rfl (lv_at hl 2 rfl) ?_
          refine va_put (D := (dC, dI)) (ci := 0) (v := .int (nI (2 * (k + 1)))) (ty := .int) (C := RX0) (T := TX0) (N := 3) hx hb hts mX0_part_inX0 tyX0 tyX0_ok nmX0 hown hK hP hD hS 0 rfl rfl 2 (by decide) (hts (.fieldLink RX0 20 "LeafOrder$Books" "other" "I") mX0_part_3) (fun _ h9 => h9) rfl (by decide +kernel) rfl rfl (Nat.le_of_ble_eq_true rfl) dX0_part_45 (fun H locs hP hD hS => ?_)
          have hP : va_P (dC, dI) vwCl [(aB, .inr (0, [.ref aS, .int (nI (m_two ss sn (2 * (k + 1)))), .int (nI (2 * (k + 1)))])), (aS, .inr (4, [.ref aR, .ref aSj, .ref aSl, .ref aSs, .ref aSo, .int (nI sn), .int (nI st), .int (nI sb), .int (nI sx)])), (aSs, .inl (cI, 512, .inl (nF ss)))] H := hP
          have hD : va_D A [(aB, .inr (0, [.ref aS, .int (nI (m_two ss sn (2 * (k + 1)))), .int (nI (2 * (k + 1)))])), (aS, .inr (4, [.ref aR, .ref aSj, .ref aSl, .ref aSs, .ref aSo, .int (nI sn), .int (nI st), .int (nI sb), .int (nI sx)])), (aSs, .inl (cI, 512, .inl (nF ss)))] := hD
          refine lv_iinc (v := (nI (2 * (k + 1) + 2))) (lv' := [(1, .int (nI (2 * (k + 1) + 2))), (2, .int (nI (m_two ss sn (2 * (k + 1))))), (0, .ref aB)]) hx hb dX0_part_48 hl (k := 2) rfl (by show nI _ + nI 2 = _; rw [nI_add]) (by decide) rfl (fun ls hl => ?_)
          refine lv_goto (tgt := 13) hx hb dX0_part_51 (by decide) ?_
          have hl : lv_has ls 3 [(1, .int (nI (2 * (k + 1 + 1)))), (2, .int (nI (m_two ss sn (2 * (k + 1))))), (0, .ref aB)] := hl
          exact ih13 (k + 1) (m_two ss sn (2 * (k + 1))) (2 * (k + 1)) (by omega)  (by omega) (by omega) (by have := ln_p9 hn; omega) (by rw [m_part, if_pos (by rw [← hpq]; exact c_6)]) _ _ hP hD hS ls (lv_sub hl [2, 0] rfl)
  exact LP13 _ 0 1000000 0 (Nat.lt_succ_self _)  (Nat.zero_le _) (by decide) (by decide) rfl _ _ hP hD hS ls (lv_sub hl [1, 0] rfl)
theorem mX0_leastWithMoved_0 : Cond.constant RX0 15 (1000000) ∈ wsX0_leastWithMoved := by decide +kernel
theorem mX0_leastWithMoved_1 : Cond.fieldLink RX0 9 "LeafOrder$Books" "search" "LLeafOrder$Search;" ∈ wsX0_leastWithMoved := by decide +kernel
theorem mX0_leastWithMoved_inX0 : ∀ w ∈ wsX00, w ∈ wsX0_leastWithMoved := by decide +kernel
theorem mX0_leastWithMoved_3 : Cond.fieldLink RX0 20 "LeafOrder$Books" "other" "I" ∈ wsX0_leastWithMoved := by decide +kernel
theorem mX0_leastWithMoved_4 : Cond.methodLink RX0 33 Lib.Math.min.name ∈ wsX0_leastWithMoved := by decide +kernel
theorem mX0_leastWithMoved_5 : Cond.static Lib.Math.min.name ∈ wsX0_leastWithMoved := by decide +kernel
theorem mX0_leastWithMoved_6 : Cond.initialized "java/lang/Math" ∈ wsX0_leastWithMoved := by decide +kernel
theorem mX0_leastWithMoved_7 : Cond.code Lib.Math.min.name Lib.Math.min.code 2 (some .int) ∈ wsX0_leastWithMoved := by decide +kernel
set_option maxHeartbeats 4000000 in
set_option maxRecDepth 100000 in
theorem k_X0_leastWithMoved (l : Launch) (dC : Nat → ClassId) (dI : Nat → Nat → Nat) (cI cZ : ClassId) (aB aS aR aSj aSl aSs aSo : Nat) (bc : Nat) (bo : Nat) (sn : Nat) (st : Nat) (sb : Nat) (sx : Nat) (ss : Nat → Nat) (q1 : Nat) (bSs : ∀ k, ss k ≤ 1000000) (hn : sn ≤ 9) (h1 : q1 < 9) (hbo : bo < 512) : Met l yX0_leastWithMoved wsX0_leastWithMoved { frames := 2, cells := 0, slots := 0, locals := 41 } (va_Pc [.ref aB, .int (nI q1)] (fun U => va_P (dC, dI) vwCl [(aB, .inr (0, [.ref aS, .int (nI bc), .int (nI bo)])), (aS, .inr (4, [.ref aR, .ref aSj, .ref aSl, .ref aSs, .ref aSo, .int (nI sn), .int (nI st), .int (nI sb), .int (nI sx)])), (aSs, .inl (cI, 512, .inl (nF ss)))] U.heap ∧ lK dC dI cI cZ U)) (vp_Si (fun r => r = (nI (m_moved ss sn bo q1 ((2 ^ sn - 1) / 2))))) 0 0 (fun _ => False) := by
  refine Met.ofW (cc := cX0_leastWithMoved) (maxL := 4) (ret := (some .int)) (by decide) rfl ?_
  intro p e s m args below meth c s₁ B hml hv
  obtain ⟨rfl, hP, hKK⟩ := hv
  have hK := hKK.1
  have hx := B.exec
  have hb := B.bytes
  have hr := B.returns
  have hts := atoms_spec (ws := wsX0_leastWithMoved) B.pre
  have hown : s.vm.findClass RX0 = some m.cls := findClass_of_methodNamed B.named
  have hlocks := B.notSynchronized
  have hl := lv_entry ([.ref aB, .int (nI q1)]) (n := 4) (Nat.le_of_ble_eq_true rfl)
  rw [lg_entry_eq]
  generalize (lg_sl ([.ref aB, .int (nI q1)]) ++ List.replicate (4 - (lg_sl ([.ref aB, .int (nI q1)])).length) Slot.unset).toArray = ls at hl ⊢
  have hl : lv_has ls 4 [(0, .ref aB), (1, .int (nI q1))] := hl
  refine lv_ldc (v := nI 1000000) hx hb hown (hts (.constant RX0 15 (1000000)) mX0_leastWithMoved_0) dX0_leastWithMoved_0 ?_
  refine lv_istore_n (lv' := [(2, .int (nI 1000000)), (0, .ref aB), (1, .int (nI q1))]) hx hb dX0_leastWithMoved_2 rfl hl (by decide) rfl (fun ls hl => ?_)
  refine lv_iconst (v := nI 2) hx hb dX0_leastWithMoved_3 (by decide) ?_
  refine lv_istore_n (lv' := [(3, .int (nI 2)), (2, .int (nI 1000000)), (0, .ref aB), (1, .int (nI q1))]) hx hb dX0_leastWithMoved_4 rfl hl (by decide) rfl (fun ls hl => ?_)
  have LP5 : ∀ (n5 : Nat) (k : Nat) (acc : Nat), (2 ^ sn - 1) / 2 - k < n5 → (k ≤ (2 ^ sn - 1) / 2) → (acc = m_moved ss sn bo q1 k) → (acc ≤ 1000000) → ∀ (ls : Array Slot), lv_has ls 4 [(0, .ref aB), (1, .int (nI q1)), (2, .int (nI acc)), (3, .int (nI (2 * (k + 1))))] → W p l e { frames := 2, cells := 0, slots := 0, locals := 41 } s m [.ref aB, .int (nI q1)].toArray below meth c s.heap [] 0 0 (MQ below (vp_Si (fun r => r = (nI (m_moved ss sn bo q1 ((2 ^ sn - 1) / 2))))) [.ref aB, .int (nI q1)].toArray s 0 0 (fun _ => False)) (F0 m 5 ls []) := by
    intro n5
    induction n5 with
    | zero =>
      intro k acc hm
      exact absurd hm (Nat.not_lt_zero _)
    | succ n5 ih5 =>
      intro k acc hm5  hk hacc ha ls hl
      refine lv_iload_n hx hb dX0_leastWithMoved_5 rfl (lv_at hl 3 rfl) ?_
      refine lv_aload_n hx hb dX0_leastWithMoved_6 rfl (lv_at hl 0 rfl) ?_
      refine va_get (D := (dC, dI)) (ci := 0) (v := .ref aS) (C := RX0) (T := TX0) (N := 3) hx hb hts mX0_leastWithMoved_inX0 hown hK hP 0 rfl rfl 0 (by decide) (hts (.fieldLink RX0 9 "LeafOrder$Books" "search" "LLeafOrder$Search;") mX0_leastWithMoved_1) (fun _ h9 => h9) rfl dX0_leastWithMoved_7 ?_
      have hPc := hP.sub (ws' := [(aS, .inr (4, [.ref aR, .ref aSj, .ref aSl, .ref aSs, .ref aSo, .int (nI sn), .int (nI st), .int (nI sb), .int (nI sx)]))]) [1] rfl
      refine vp_callSi (W.runV (As := []) (rest := [.int (nI (2 * (k + 1)))]) ⟨hx, hb, hml, hown, hts⟩ (k_X4_all l dC dI cI cZ aS aR aSj aSl aSs aSo sn st sb sx (by omega)) (cwV 0 hts gX0_leastWithMoved_X4_all rfl rfl rfl (by decide +kernel) ⟨Nat.le_of_ble_eq_true rfl, Nat.le_of_ble_eq_true rfl⟩) (ln_preV (q0 := 0) (ci := 4) hPc hKK rfl rfl) rfl rfl hl.1 rfl (lv_room (Nat.le_of_ble_eq_true rfl)) dX0_leastWithMoved_10 ⟨Nat.le_of_ble_eq_true rfl, Nat.le_of_ble_eq_true rfl⟩) (fun r_1 w_2 => ?_)
      subst w_2
      refine ln_icmp_gt (tgt := 45) hx hb dX0_leastWithMoved_13 (by decide) (by have := ln_p9 hn; omega) (by have := ln_p9 hn; omega) (fun c_3 => ?_) (fun c_3 => ?_)
      · refine lv_iload_n hx hb dX0_leastWithMoved_45 rfl (lv_at hl 2 rfl) ?_
        exact W.iret (v := (nI acc)) hx hb hr (fun t ht hW => ⟨(nI acc), rfl, (by rw [hacc, show (2 ^ sn - 1) / 2 = k by omega]), ht⟩) (fun _ h => by cases h) dX0_leastWithMoved_46
      · refine lv_iload_n hx hb dX0_leastWithMoved_16 rfl (lv_at hl 3 rfl) ?_
        refine lv_aload_n hx hb dX0_leastWithMoved_17 rfl (lv_at hl 0 rfl) ?_
        refine va_get (D := (dC, dI)) (ci := 0) (v := .int (nI bo)) (C := RX0) (T := TX0) (N := 3) hx hb hts mX0_leastWithMoved_inX0 hown hK hP 0 rfl rfl 2 (by decide) (hts (.fieldLink RX0 20 "LeafOrder$Books" "other" "I") mX0_leastWithMoved_3) (fun _ h9 => h9) rfl dX0_leastWithMoved_18 ?_
        refine ln_ixor hx hb dX0_leastWithMoved_21 ?_
        refine lv_iload_n hx hb dX0_leastWithMoved_22 rfl (lv_at hl 1 rfl) ?_
        refine ln_ishr hx hb dX0_leastWithMoved_23 (Nat.lt_trans (Nat.xor_lt_two_pow (n := 9) (by have := ln_p9 hn; omega) hbo) (by decide)) (by omega) ?_
        refine lv_iconst (v := nI 1) hx hb dX0_leastWithMoved_24 (by decide) ?_
        refine ln_iand hx hb dX0_leastWithMoved_25 ?_
        refine ln_if_eq (tgt := 39) hx hb dX0_leastWithMoved_26 (by decide) (ln_b31 _) (fun c_4 => ?_) (fun c_4 => ?_)
        · refine lv_iinc (v := (nI (2 * (k + 1) + 2))) (lv' := [(3, .int (nI (2 * (k + 1) + 2))), (0, .ref aB), (1, .int (nI q1)), (2, .int (nI acc))]) hx hb dX0_leastWithMoved_39 hl (k := 3) rfl (by show nI _ + nI 2 = _; rw [nI_add]) (by decide) rfl (fun ls hl => ?_)
          refine lv_goto (tgt := 5) hx hb dX0_leastWithMoved_42 (by decide) ?_
          have hl : lv_has ls 4 [(3, .int (nI (2 * (k + 1 + 1)))), (0, .ref aB), (1, .int (nI q1)), (2, .int (nI acc))] := hl
          exact ih5 (k + 1) acc (by omega)  (by omega) (by rw [m_moved, if_pos c_4, hacc]) (by omega) ls (lv_sub hl [1, 2, 3, 0] rfl)
        · refine lv_iload_n hx hb dX0_leastWithMoved_29 rfl (lv_at hl 2 rfl) ?_
          refine lv_aload_n hx hb dX0_leastWithMoved_30 rfl (lv_at hl 0 rfl) ?_
          refine lv_iload_n hx hb dX0_leastWithMoved_31 rfl (lv_at hl 3 rfl) ?_
          have hPc := hP.sub (ws' := [(aB, .inr (0, [.ref aS, .int (nI bc), .int (nI bo)])), (aS, .inr (4, [.ref aR, .ref aSj, .ref aSl, .ref aSs, .ref aSo, .int (nI sn), .int (nI st), .int (nI sb), .int (nI sx)])), (aSs, .inl (cI, 512, .inl (nF ss)))]) [0, 1, 2] rfl
          refine vp_callSi (W.runV (As := [.int (nI (2 * (k + 1)))]) (rest := [.int (nI acc)]) ⟨hx, hb, hml, hown, hts⟩ (k_X0_costOf l dC dI cI cZ aB aS aR aSj aSl aSs aSo bc bo sn st sb sx ss (2 * (k + 1)) bSs (by omega) (by have := ln_p9 hn; omega)) (cwV 1 hts gX0_leastWithMoved_X0_costOf rfl rfl rfl (by decide +kernel) ⟨Nat.le_of_ble_eq_true rfl, Nat.le_of_ble_eq_true rfl⟩) (ln_preV (q0 := 0) (ci := 0) hPc hKK rfl rfl) rfl rfl hl.1 rfl (lv_room (Nat.le_of_ble_eq_true rfl)) dX0_leastWithMoved_32 ⟨Nat.le_of_ble_eq_true rfl, Nat.le_of_ble_eq_true rfl⟩) (fun r_5 w_6 => ?_)
          subst w_6
          have hm2 := m_two_le bSs sn (2 * (k + 1))
          refine ln_mmin (x := acc) (y := m_two ss sn (2 * (k + 1))) hx hb (by rw [hml]; exact hl.1.symm) hown (hts (.methodLink RX0 33 Lib.Math.min.name) mX0_leastWithMoved_4) (hts (.static Lib.Math.min.name) mX0_leastWithMoved_5) (hts (.initialized "java/lang/Math") mX0_leastWithMoved_6) (hts (.code Lib.Math.min.name Lib.Math.min.code 2 (some .int)) mX0_leastWithMoved_7) (Nat.le_of_ble_eq_true rfl) (Nat.le_of_ble_eq_true rfl) (Nat.zero_le _) (Nat.zero_le _) (by omega) (by omega) dX0_leastWithMoved_35 ?_
          refine lv_istore_n (lv' := [(2, .int (nI (min acc (m_two ss sn (2 * (k + 1)))))), (0, .ref aB), (1, .int (nI q1)), (3, .int (nI (2 * (k + 1))))]) hx hb dX0_leastWithMoved_38 rfl hl (by decide) rfl (fun ls hl => ?_)
          refine lv_iinc (v := (nI (2 * (k + 1) + 2))) (lv' := [(3, .int (nI (2 * (k + 1) + 2))), (2, .int (nI (min acc (m_two ss sn (2 * (k + 1)))))), (0, .ref aB), (1, .int (nI q1))]) hx hb dX0_leastWithMoved_39 hl (k := 3) rfl (by show nI _ + nI 2 = _; rw [nI_add]) (by decide) rfl (fun ls hl => ?_)
          refine lv_goto (tgt := 5) hx hb dX0_leastWithMoved_42 (by decide) ?_
          have hl : lv_has ls 4 [(3, .int (nI (2 * (k + 1 + 1)))), (2, .int (nI (min acc (m_two ss sn (2 * (k + 1)))))), (0, .ref aB), (1, .int (nI q1))] := hl
          exact ih5 (k + 1) (min acc (m_two ss sn (2 * (k + 1)))) (by omega)  (by omega) (by rw [m_moved, if_neg c_4, hacc]) (by omega) ls (lv_sub hl [2, 3, 1, 0] rfl)
  exact LP5 _ 0 1000000 (Nat.lt_succ_self _)  (Nat.zero_le _) rfl (by decide) ls (lv_sub hl [2, 3, 1, 0] rfl)
