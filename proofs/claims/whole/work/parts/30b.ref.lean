set_option maxHeartbeats 4000000 in
set_option maxRecDepth 100000 in
theorem k_X6_in (l : Launch) (dC : Nat → ClassId) (dI : Nat → Nat → Nat) (cI cZ : ClassId) (x1 : Int32) (x2 : Int32) (x3 : Int32) : Met l yX6_in wsX6_in { frames := 0, cells := 0, slots := 0, locals := 0 } (va_Pc [.int x1, .int x2, .int x3] (fun _ => True)) (vp_Si (fun r => (r = nI 1 ∧ (¬ x1 < x2 ∧ ¬ x3 < x1)) ∨ (r = nI 0 ∧ ¬ (¬ x1 < x2 ∧ ¬ x3 < x1)))) 0 0 (fun _ => False) := by
  refine Met.ofW (cc := cX6_in) (maxL := 3) (ret := (some .boolean)) (by decide) rfl ?_
  intro p e s m args below meth c s₁ B hml hv
  obtain ⟨rfl, -⟩ := hv
  have hx := B.exec
  have hb := B.bytes
  have hr := B.returns
  have hts := atoms_spec (ws := wsX6_in) B.pre
  have hown : s.vm.findClass RX6 = some m.cls := findClass_of_methodNamed B.named
  have hlocks := B.notSynchronized
  have hl := lv_entry ([.int x1, .int x2, .int x3]) (n := 3) (Nat.le_of_ble_eq_true rfl)
  rw [lg_entry_eq]
  generalize (lg_sl ([.int x1, .int x2, .int x3]) ++ List.replicate (3 - (lg_sl ([.int x1, .int x2, .int x3])).length) Slot.unset).toArray = ls at hl ⊢
  have hl : lv_has ls 3 [(0, .int x1), (1, .int x2), (2, .int x3)] := hl
  refine lv_iload_n hx hb dX6_in_0 rfl (lv_at hl 0 rfl) ?_
  refine lv_iload_n hx hb dX6_in_1 rfl (lv_at hl 1 rfl) ?_
  refine lv_icmp_lt (tgt := 14) hx hb dX6_in_2 (by decide) (fun c_1 => ?_) (fun c_1 => ?_)
  · refine lv_iconst (v := nI 0) hx hb dX6_in_14 (by decide) ?_
    exact W.zret (v := (nI 0)) hx hb hr (by decide) (fun t ht hW => ⟨(nI 0), rfl, Or.inr ⟨rfl, (fun q => q.1 c_1)⟩, ht⟩) (fun _ h => by cases h) dX6_in_15
  · refine lv_iload_n hx hb dX6_in_5 rfl (lv_at hl 0 rfl) ?_
    refine lv_iload_n hx hb dX6_in_6 rfl (lv_at hl 2 rfl) ?_
    refine lv_icmp_gt (tgt := 14) hx hb dX6_in_7 (by decide) (fun c_2 => ?_) (fun c_2 => ?_)
    · refine lv_iconst (v := nI 0) hx hb dX6_in_14 (by decide) ?_
      exact W.zret (v := (nI 0)) hx hb hr (by decide) (fun t ht hW => ⟨(nI 0), rfl, Or.inr ⟨rfl, (fun q => q.2 c_2)⟩, ht⟩) (fun _ h => by cases h) dX6_in_15
    · refine lv_iconst (v := nI 1) hx hb dX6_in_10 (by decide) ?_
      refine lv_goto (tgt := 15) hx hb dX6_in_11 (by decide) ?_
      exact W.zret (v := (nI 1)) hx hb hr (by decide) (fun t ht hW => ⟨(nI 1), rfl, Or.inl ⟨rfl, c_1, c_2⟩, ht⟩) (fun _ h => by cases h) dX6_in_15
theorem mX6_isLeaf_0 : Cond.fieldLink RX6 61 "LeafOrderModel" "leaves" "I" ∈ wsX6_isLeaf := by decide +kernel
theorem mX6_isLeaf_inX6 : ∀ w ∈ wsX60, w ∈ wsX6_isLeaf := by decide +kernel
set_option maxHeartbeats 4000000 in
set_option maxRecDepth 100000 in
theorem k_X6_isLeaf (l : Launch) (dC : Nat → ClassId) (dI : Nat → Nat → Nat) (cI cZ : ClassId) (aM aMb aMe aMw aMc aMd aMs aMz aMA aMJ aMl aM2 aMp aMt : Nat) (nL : Nat) (mt : Nat) (ba : Int32) (bb : Int32) (u1 : Nat) (u2 : Nat) (pt : Nat) (x1 : Int32) (hn : nL ≤ 9) : Met l yX6_isLeaf wsX6_isLeaf { frames := 1, cells := 0, slots := 0, locals := 22 } (va_Pc [.ref aM, .int x1] (fun U => va_P (dC, dI) vwCl [(aM, .inr (6, [.int (nI nL), .ref aMb, .ref aMe, .ref aMw, .ref aMc, .ref aMd, .ref aMs, .ref aMz, .int (nI mt), .ref aMA, .ref aMJ, .ref aMl, .ref aM2, .int ba, .int bb, .int (nI u1), .int (nI u2), .ref aMp, .ref aMt, .int (nI pt)]))] U.heap ∧ lK dC dI cI cZ U)) (vp_Si (fun r => (r = nI 1 ∧ (isN x1 nL)) ∨ (r = nI 0 ∧ ¬ (isN x1 nL)))) 0 0 (fun _ => False) := by
  refine Met.ofW (cc := cX6_isLeaf) (maxL := 2) (ret := (some .boolean)) (by decide) rfl ?_
  intro p e s m args below meth c s₁ B hml hv
  obtain ⟨rfl, hP, hKK⟩ := hv
  have hK := hKK.1
  have hx := B.exec
  have hb := B.bytes
  have hr := B.returns
  have hts := atoms_spec (ws := wsX6_isLeaf) B.pre
  have hown : s.vm.findClass RX6 = some m.cls := findClass_of_methodNamed B.named
  have hlocks := B.notSynchronized
  have hl := lv_entry ([.ref aM, .int x1]) (n := 2) (Nat.le_of_ble_eq_true rfl)
  rw [lg_entry_eq]
  generalize (lg_sl ([.ref aM, .int x1]) ++ List.replicate (2 - (lg_sl ([.ref aM, .int x1])).length) Slot.unset).toArray = ls at hl ⊢
  have hl : lv_has ls 2 [(0, .ref aM), (1, .int x1)] := hl
  refine lv_iload_n hx hb dX6_isLeaf_0 rfl (lv_at hl 1 rfl) ?_
  refine lv_iconst (v := nI 0) hx hb dX6_isLeaf_1 (by decide) ?_
  refine lv_aload_n hx hb dX6_isLeaf_2 rfl (lv_at hl 0 rfl) ?_
  refine va_get (D := (dC, dI)) (ci := 6) (v := .int (nI nL)) (C := RX6) (T := TX6) (N := 20) hx hb hts mX6_isLeaf_inX6 hown hK hP 0 rfl rfl 0 (by decide) (hts (.fieldLink RX6 61 "LeafOrderModel" "leaves" "I") mX6_isLeaf_0) (fun _ h9 => h9) rfl dX6_isLeaf_3 ?_
  refine lv_iconst (v := nI 1) hx hb dX6_isLeaf_6 (by decide) ?_
  refine lv_isub hx hb dX6_isLeaf_7 ?_
  refine vp_callSi (W.runS (As := [.int x1, .int (nI 0), .int (nI nL - nI 1)]) (rest := []) ⟨hx, hb, hml, hown, hts⟩ (k_X6_in l dC dI cI cZ x1 (nI 0) (nI nL - nI 1)) (va_cwS 3 hts gX6_isLeaf_X6_in rfl rfl rfl (by decide +kernel) ⟨Nat.le_of_ble_eq_true rfl, Nat.le_of_ble_eq_true rfl⟩) ln_preS0 rfl rfl hl.1 rfl (lv_room (Nat.le_of_ble_eq_true rfl)) dX6_isLeaf_8 ⟨Nat.le_of_ble_eq_true rfl, Nat.le_of_ble_eq_true rfl⟩) (fun r_1 w_2 => ?_)
  rcases w_2 with ⟨rfl, c_3⟩ | ⟨rfl, c_3⟩
  · exact W.zret (v := (nI 1)) hx hb hr (by decide) (fun t ht hW => ⟨(nI 1), rfl, Or.inl ⟨rfl, (in_leaf hn).mp c_3⟩, ht⟩) (fun _ h => by cases h) dX6_isLeaf_11
  · exact W.zret (v := (nI 0)) hx hb hr (by decide) (fun t ht hW => ⟨(nI 0), rfl, Or.inr ⟨rfl, (fun q => c_3 ((in_leaf hn).mpr q))⟩, ht⟩) (fun _ h => by cases h) dX6_isLeaf_11
theorem mX6_leaf_0 : Cond.fieldLink RX6 61 "LeafOrderModel" "leaves" "I" ∈ wsX6_leaf := by decide +kernel
theorem mX6_leaf_inX6 : ∀ w ∈ wsX60, w ∈ wsX6_leaf := by decide +kernel
theorem mX6_leaf_2 : Cond.fieldLink RX6 7 "LeafOrderModel" "begin" "[I" ∈ wsX6_leaf := by decide +kernel
theorem mX6_leaf_3 : Cond.fieldLink RX6 13 "LeafOrderModel" "end" "[I" ∈ wsX6_leaf := by decide +kernel
theorem mX6_leaf_4 : Cond.fieldLink RX6 16 "LeafOrderModel" "word" "[I" ∈ wsX6_leaf := by decide +kernel
set_option maxHeartbeats 4000000 in
set_option maxRecDepth 100000 in
theorem k_X6_leaf (l : Launch) (dC : Nat → ClassId) (dI : Nat → Nat → Nat) (cI cZ : ClassId) (aM aMb aMe aMw aMc aMd aMs aMz aMA aMJ aMl aM2 aMp aMt : Nat) (nL : Nat) (mt : Nat) (ba : Int32) (bb : Int32) (u1 : Nat) (u2 : Nat) (pt : Nat) (fb : Nat → Nat) (fe : Nat → Nat) (fw : Nat → Int32) (x1 : Int32) (x2 : Int32) (x3 : Int32) (x4 : Int32) (sz : Nat) (bLb : ∀ k, fb k ≤ 99) (bLe : ∀ k, fe k ≤ 99) (hn : nL ≤ 9) : Met l yX6_leaf wsX6_leaf { frames := 1, cells := 0, slots := 0, locals := 22 } (va_Pc [.ref aM, .int x1, .int x2, .int x3, .int x4] (fun U => U.heap.size = sz ∧ va_P (dC, dI) vwCl [(aM, .inr (6, [.int (nI nL), .ref aMb, .ref aMe, .ref aMw, .ref aMc, .ref aMd, .ref aMs, .ref aMz, .int (nI mt), .ref aMA, .ref aMJ, .ref aMl, .ref aM2, .int ba, .int bb, .int (nI u1), .int (nI u2), .ref aMp, .ref aMt, .int (nI pt)])), (aMb, .inl (cI, 18, .inl (nF fb))), (aMe, .inl (cI, 18, .inl (nF fe))), (aMw, .inl (cI, 18, .inl fw))] U.heap ∧ lK dC dI cI cZ U ∧ va_D (fun _ => True) [(aM, .inr (6, [.int (nI nL), .ref aMb, .ref aMe, .ref aMw, .ref aMc, .ref aMd, .ref aMs, .ref aMz, .int (nI mt), .ref aMA, .ref aMJ, .ref aMl, .ref aM2, .int ba, .int bb, .int (nI u1), .int (nI u2), .ref aMp, .ref aMt, .int (nI pt)])), (aMb, .inl (cI, 18, .inl (nF fb))), (aMe, .inl (cI, 18, .inl (nF fe))), (aMw, .inl (cI, 18, .inl fw))])) (va_Qi (fun (r : Int32) (u : (Nat) × (Nat → Nat) × (Nat → Nat) × (Nat → Int32)) => match u with | (nz, fbz, fez, fwz) => r = cif (pc_leaf nL x1 x2 x3 x4) (nI nL) (-1) ∧ nz = cif (pc_leaf nL x1 x2 x3 x4) (nL + 1) nL ∧ fbz = cif (pc_leaf nL x1 x2 x3 x4) (upN (upN fb (2 * nL) (tn x1)) (2 * nL + 1) (tn x3)) fb ∧ fez = cif (pc_leaf nL x1 x2 x3 x4) (upN (upN fe (2 * nL) (tn x2)) (2 * nL + 1) (tn x4)) fe ∧ fwz = cif (pc_leaf nL x1 x2 x3 x4) (upd (upd fw (2 * nL) (-1)) (2 * nL + 1) (-1)) fw ∧ (∀ k, fbz k ≤ 99) ∧ (∀ k, fez k ≤ 99)) (fun (u : (Nat) × (Nat → Nat) × (Nat → Nat) × (Nat → Int32)) (t : State) => match u with | (nz, fbz, fez, fwz) => va_P (dC, dI) vwCl [(aM, .inr (6, [.int (nI nz), .ref aMb, .ref aMe, .ref aMw, .ref aMc, .ref aMd, .ref aMs, .ref aMz, .int (nI mt), .ref aMA, .ref aMJ, .ref aMl, .ref aM2, .int ba, .int bb, .int (nI u1), .int (nI u2), .ref aMp, .ref aMt, .int (nI pt)])), (aMb, .inl (cI, 18, .inl (nF fbz))), (aMe, .inl (cI, 18, .inl (nF fez))), (aMw, .inl (cI, 18, .inl fwz))] t.heap ∧ va_D (va_A [(aM, .inr (6, [.int (nI nL), .ref aMb, .ref aMe, .ref aMw, .ref aMc, .ref aMd, .ref aMs, .ref aMz, .int (nI mt), .ref aMA, .ref aMJ, .ref aMl, .ref aM2, .int ba, .int bb, .int (nI u1), .int (nI u2), .ref aMp, .ref aMt, .int (nI pt)])), (aMb, .inl (cI, 18, .inl (nF fb))), (aMe, .inl (cI, 18, .inl (nF fe))), (aMw, .inl (cI, 18, .inl fw))] sz) [(aM, .inr (6, [.int (nI nz), .ref aMb, .ref aMe, .ref aMw, .ref aMc, .ref aMd, .ref aMs, .ref aMz, .int (nI mt), .ref aMA, .ref aMJ, .ref aMl, .ref aM2, .int ba, .int bb, .int (nI u1), .int (nI u2), .ref aMp, .ref aMt, .int (nI pt)])), (aMb, .inl (cI, 18, .inl (nF fbz))), (aMe, .inl (cI, 18, .inl (nF fez))), (aMw, .inl (cI, 18, .inl fwz))]) (va_A [(aM, .inr (6, [.int (nI nL), .ref aMb, .ref aMe, .ref aMw, .ref aMc, .ref aMd, .ref aMs, .ref aMz, .int (nI mt), .ref aMA, .ref aMJ, .ref aMl, .ref aM2, .int ba, .int bb, .int (nI u1), .int (nI u2), .ref aMp, .ref aMt, .int (nI pt)])), (aMb, .inl (cI, 18, .inl (nF fb))), (aMe, .inl (cI, 18, .inl (nF fe))), (aMw, .inl (cI, 18, .inl fw))] sz)) 0 0 (va_A [(aM, .inr (6, [.int (nI nL), .ref aMb, .ref aMe, .ref aMw, .ref aMc, .ref aMd, .ref aMs, .ref aMz, .int (nI mt), .ref aMA, .ref aMJ, .ref aMl, .ref aM2, .int ba, .int bb, .int (nI u1), .int (nI u2), .ref aMp, .ref aMt, .int (nI pt)])), (aMb, .inl (cI, 18, .inl (nF fb))), (aMe, .inl (cI, 18, .inl (nF fe))), (aMw, .inl (cI, 18, .inl fw))] sz) := by
  refine Met.ofW (cc := cX6_leaf) (maxL := 5) (ret := (some .int)) (by decide) rfl ?_
  intro p e s m args below meth c s₁ B hml hv
  obtain ⟨rfl, hsz, hP, hKK, hD0⟩ := hv
  have hK := hKK.1
  have hx := B.exec
  have hb := B.bytes
  have hr := B.returns
  have hts := atoms_spec (ws := wsX6_leaf) B.pre
  have hown : s.vm.findClass RX6 = some m.cls := findClass_of_methodNamed B.named
  have hlocks := B.notSynchronized
  subst hsz
  have hD := hD0.self (sz := s.heap.size)
  generalize hAe : va_A [(aM, .inr (6, [.int (nI nL), .ref aMb, .ref aMe, .ref aMw, .ref aMc, .ref aMd, .ref aMs, .ref aMz, .int (nI mt), .ref aMA, .ref aMJ, .ref aMl, .ref aM2, .int ba, .int bb, .int (nI u1), .int (nI u2), .ref aMp, .ref aMt, .int (nI pt)])), (aMb, .inl (cI, 18, .inl (nF fb))), (aMe, .inl (cI, 18, .inl (nF fe))), (aMw, .inl (cI, 18, .inl fw))] s.heap.size = A at hD ⊢
  have hA : ∀ q : Nat, s.heap.size ≤ q → A q := fun q h => by rw [← hAe]; exact Or.inr h
  have hS : va_S A s.heap s.heap [] := va_S.rf
  have hl := lv_entry ([.ref aM, .int x1, .int x2, .int x3, .int x4]) (n := 5) (Nat.le_of_ble_eq_true rfl)
  rw [lg_entry_eq]
  generalize (lg_sl ([.ref aM, .int x1, .int x2, .int x3, .int x4]) ++ List.replicate (5 - (lg_sl ([.ref aM, .int x1, .int x2, .int x3, .int x4])).length) Slot.unset).toArray = ls at hl ⊢
  have hl : lv_has ls 5 [(0, .ref aM), (1, .int x1), (2, .int x2), (3, .int x3), (4, .int x4)] := hl
  refine lv_iload_n hx hb dX6_leaf_0 rfl (lv_at hl 1 rfl) ?_
  refine lv_iconst (v := nI 0) hx hb dX6_leaf_1 (by decide) ?_
  refine lv_bipush (v := nI 99) hx hb dX6_leaf_2 (by decide) ?_
  refine vp_callSi (W.runS (As := [.int x1, .int (nI 0), .int (nI 99)]) (rest := []) ⟨hx, hb, hml, hown, hts⟩ (k_X6_in l dC dI cI cZ x1 (nI 0) (nI 99)) (va_cwS 3 hts gX6_leaf_X6_in rfl rfl rfl (by decide +kernel) ⟨Nat.le_of_ble_eq_true rfl, Nat.le_of_ble_eq_true rfl⟩) ln_preS0 rfl rfl hl.1 rfl (lv_room (Nat.le_of_ble_eq_true rfl)) dX6_leaf_4 ⟨Nat.le_of_ble_eq_true rfl, Nat.le_of_ble_eq_true rfl⟩) (fun r_1 w_2 => ?_)
  rcases w_2 with ⟨rfl, c_3⟩ | ⟨rfl, c_3⟩
  · obtain ⟨k1, hk1, rfl⟩ := (in_isN (k := 99) (by decide)).mp c_3
    refine ln_if_eqF (tgt := 50) hx hb dX6_leaf_7 (by decide) (by decide) ?_
    refine lv_iload_n hx hb dX6_leaf_10 rfl (lv_at hl 2 rfl) ?_
    refine lv_iconst (v := nI 0) hx hb dX6_leaf_11 (by decide) ?_
    refine lv_bipush (v := nI 99) hx hb dX6_leaf_12 (by decide) ?_
    refine vp_callSi (W.runS (As := [.int x2, .int (nI 0), .int (nI 99)]) (rest := []) ⟨hx, hb, hml, hown, hts⟩ (k_X6_in l dC dI cI cZ x2 (nI 0) (nI 99)) (va_cwS 3 hts gX6_leaf_X6_in rfl rfl rfl (by decide +kernel) ⟨Nat.le_of_ble_eq_true rfl, Nat.le_of_ble_eq_true rfl⟩) ln_preS0 rfl rfl hl.1 rfl (lv_room (Nat.le_of_ble_eq_true rfl)) dX6_leaf_14 ⟨Nat.le_of_ble_eq_true rfl, Nat.le_of_ble_eq_true rfl⟩) (fun r_4 w_5 => ?_)
    rcases w_5 with ⟨rfl, c_6⟩ | ⟨rfl, c_6⟩
    · obtain ⟨k2, hk2, rfl⟩ := (in_isN (k := 99) (by decide)).mp c_6
      refine ln_if_eqF (tgt := 50) hx hb dX6_leaf_17 (by decide) (by decide) ?_
      refine lv_iload_n hx hb dX6_leaf_20 rfl (lv_at hl 3 rfl) ?_
      refine lv_iconst (v := nI 0) hx hb dX6_leaf_21 (by decide) ?_
      refine lv_bipush (v := nI 99) hx hb dX6_leaf_22 (by decide) ?_
      refine vp_callSi (W.runS (As := [.int x3, .int (nI 0), .int (nI 99)]) (rest := []) ⟨hx, hb, hml, hown, hts⟩ (k_X6_in l dC dI cI cZ x3 (nI 0) (nI 99)) (va_cwS 3 hts gX6_leaf_X6_in rfl rfl rfl (by decide +kernel) ⟨Nat.le_of_ble_eq_true rfl, Nat.le_of_ble_eq_true rfl⟩) ln_preS0 rfl rfl hl.1 rfl (lv_room (Nat.le_of_ble_eq_true rfl)) dX6_leaf_24 ⟨Nat.le_of_ble_eq_true rfl, Nat.le_of_ble_eq_true rfl⟩) (fun r_7 w_8 => ?_)
      rcases w_8 with ⟨rfl, c_9⟩ | ⟨rfl, c_9⟩
      · obtain ⟨k3, hk3, rfl⟩ := (in_isN (k := 99) (by decide)).mp c_9
        refine ln_if_eqF (tgt := 50) hx hb dX6_leaf_27 (by decide) (by decide) ?_
        refine lv_iload hx hb dX6_leaf_30 (lv_at hl 4 rfl) ?_
        refine lv_iconst (v := nI 0) hx hb dX6_leaf_32 (by decide) ?_
        refine lv_bipush (v := nI 99) hx hb dX6_leaf_33 (by decide) ?_
        refine vp_callSi (W.runS (As := [.int x4, .int (nI 0), .int (nI 99)]) (rest := []) ⟨hx, hb, hml, hown, hts⟩ (k_X6_in l dC dI cI cZ x4 (nI 0) (nI 99)) (va_cwS 3 hts gX6_leaf_X6_in rfl rfl rfl (by decide +kernel) ⟨Nat.le_of_ble_eq_true rfl, Nat.le_of_ble_eq_true rfl⟩) ln_preS0 rfl rfl hl.1 rfl (lv_room (Nat.le_of_ble_eq_true rfl)) dX6_leaf_35 ⟨Nat.le_of_ble_eq_true rfl, Nat.le_of_ble_eq_true rfl⟩) (fun r_10 w_11 => ?_)
        rcases w_11 with ⟨rfl, c_12⟩ | ⟨rfl, c_12⟩
        · obtain ⟨k4, hk4, rfl⟩ := (in_isN (k := 99) (by decide)).mp c_12
          refine ln_if_eqF (tgt := 50) hx hb dX6_leaf_38 (by decide) (by decide) ?_
          refine lv_aload_n hx hb dX6_leaf_41 rfl (lv_at hl 0 rfl) ?_
          refine va_get (D := (dC, dI)) (ci := 6) (v := .int (nI nL)) (C := RX6) (T := TX6) (N := 20) hx hb hts mX6_leaf_inX6 hown hK hP 0 rfl rfl 0 (by decide) (hts (.fieldLink RX6 61 "LeafOrderModel" "leaves" "I") mX6_leaf_0) (fun _ h9 => h9) rfl dX6_leaf_42 ?_
          refine lv_bipush (v := nI 9) hx hb dX6_leaf_45 (by decide) ?_
          refine ln_icmp_ne (tgt := 52) hx hb dX6_leaf_47 (by decide) (by omega) (by decide) (fun c_13 => ?_) (fun c_13 => ?_)
          · refine lv_aload_n hx hb dX6_leaf_52 rfl (lv_at hl 0 rfl) ?_
            refine va_get (D := (dC, dI)) (ci := 6) (v := .ref aMb) (C := RX6) (T := TX6) (N := 20) hx hb hts mX6_leaf_inX6 hown hK hP 0 rfl rfl 1 (by decide) (hts (.fieldLink RX6 7 "LeafOrderModel" "begin" "[I") mX6_leaf_2) (fun _ h9 => h9) rfl dX6_leaf_53 ?_
            refine lv_iconst (v := nI 2) hx hb dX6_leaf_56 (by decide) ?_
            refine lv_aload_n hx hb dX6_leaf_57 rfl (lv_at hl 0 rfl) ?_
            refine va_get (D := (dC, dI)) (ci := 6) (v := .int (nI nL)) (C := RX6) (T := TX6) (N := 20) hx hb hts mX6_leaf_inX6 hown hK hP 0 rfl rfl 0 (by decide) (hts (.fieldLink RX6 61 "LeafOrderModel" "leaves" "I") mX6_leaf_0) (fun _ h9 => h9) rfl dX6_leaf_58 ?_
            refine ln_imul hx hb dX6_leaf_61 ?_
            refine lv_iload_n hx hb dX6_leaf_62 rfl (lv_at hl 1 rfl) ?_
            refine ln_iast (i := 2 * nL) hx hb hK hP hD hS 1 0 rfl rfl (by omega) (by decide) dX6_leaf_63 (fun H locs hP hD hS => ?_)
            have b_14 : ∀ k, (upN fb (2 * nL) k1) k ≤ 99 := upN_le bLb (by omega)
            have hP : va_P (dC, dI) vwCl [(aM, .inr (6, [.int (nI nL), .ref aMb, .ref aMe, .ref aMw, .ref aMc, .ref aMd, .ref aMs, .ref aMz, .int (nI mt), .ref aMA, .ref aMJ, .ref aMl, .ref aM2, .int ba, .int bb, .int (nI u1), .int (nI u2), .ref aMp, .ref aMt, .int (nI pt)])), (aMb, .inl (cI, 18, .inl (nF (upN fb (2 * nL) k1)))), (aMe, .inl (cI, 18, .inl (nF fe))), (aMw, .inl (cI, 18, .inl fw))] H := hP
            have hD : va_D A [(aM, .inr (6, [.int (nI nL), .ref aMb, .ref aMe, .ref aMw, .ref aMc, .ref aMd, .ref aMs, .ref aMz, .int (nI mt), .ref aMA, .ref aMJ, .ref aMl, .ref aM2, .int ba, .int bb, .int (nI u1), .int (nI u2), .ref aMp, .ref aMt, .int (nI pt)])), (aMb, .inl (cI, 18, .inl (nF (upN fb (2 * nL) k1)))), (aMe, .inl (cI, 18, .inl (nF fe))), (aMw, .inl (cI, 18, .inl fw))] := hD
            refine lv_aload_n hx hb dX6_leaf_64 rfl (lv_at hl 0 rfl) ?_
            refine va_get (D := (dC, dI)) (ci := 6) (v := .ref aMe) (C := RX6) (T := TX6) (N := 20) hx hb hts mX6_leaf_inX6 hown hK hP 0 rfl rfl 2 (by decide) (hts (.fieldLink RX6 13 "LeafOrderModel" "end" "[I") mX6_leaf_3) (fun _ h9 => h9) rfl dX6_leaf_65 ?_
            refine lv_iconst (v := nI 2) hx hb dX6_leaf_68 (by decide) ?_
            refine lv_aload_n hx hb dX6_leaf_69 rfl (lv_at hl 0 rfl) ?_
            refine va_get (D := (dC, dI)) (ci := 6) (v := .int (nI nL)) (C := RX6) (T := TX6) (N := 20) hx hb hts mX6_leaf_inX6 hown hK hP 0 rfl rfl 0 (by decide) (hts (.fieldLink RX6 61 "LeafOrderModel" "leaves" "I") mX6_leaf_0) (fun _ h9 => h9) rfl dX6_leaf_70 ?_
            refine ln_imul hx hb dX6_leaf_73 ?_
            refine lv_iload_n hx hb dX6_leaf_74 rfl (lv_at hl 2 rfl) ?_
            refine ln_iast (i := 2 * nL) hx hb hK hP hD hS 2 0 rfl rfl (by omega) (by decide) dX6_leaf_75 (fun H locs hP hD hS => ?_)
            have b_15 : ∀ k, (upN fe (2 * nL) k2) k ≤ 99 := upN_le bLe (by omega)
            have hP : va_P (dC, dI) vwCl [(aM, .inr (6, [.int (nI nL), .ref aMb, .ref aMe, .ref aMw, .ref aMc, .ref aMd, .ref aMs, .ref aMz, .int (nI mt), .ref aMA, .ref aMJ, .ref aMl, .ref aM2, .int ba, .int bb, .int (nI u1), .int (nI u2), .ref aMp, .ref aMt, .int (nI pt)])), (aMb, .inl (cI, 18, .inl (nF (upN fb (2 * nL) k1)))), (aMe, .inl (cI, 18, .inl (nF (upN fe (2 * nL) k2)))), (aMw, .inl (cI, 18, .inl fw))] H := hP
            have hD : va_D A [(aM, .inr (6, [.int (nI nL), .ref aMb, .ref aMe, .ref aMw, .ref aMc, .ref aMd, .ref aMs, .ref aMz, .int (nI mt), .ref aMA, .ref aMJ, .ref aMl, .ref aM2, .int ba, .int bb, .int (nI u1), .int (nI u2), .ref aMp, .ref aMt, .int (nI pt)])), (aMb, .inl (cI, 18, .inl (nF (upN fb (2 * nL) k1)))), (aMe, .inl (cI, 18, .inl (nF (upN fe (2 * nL) k2)))), (aMw, .inl (cI, 18, .inl fw))] := hD
            refine lv_aload_n hx hb dX6_leaf_76 rfl (lv_at hl 0 rfl) ?_
            refine va_get (D := (dC, dI)) (ci := 6) (v := .ref aMb) (C := RX6) (T := TX6) (N := 20) hx hb hts mX6_leaf_inX6 hown hK hP 0 rfl rfl 1 (by decide) (hts (.fieldLink RX6 7 "LeafOrderModel" "begin" "[I") mX6_leaf_2) (fun _ h9 => h9) rfl dX6_leaf_77 ?_
            refine lv_iconst (v := nI 2) hx hb dX6_leaf_80 (by decide) ?_
            refine lv_aload_n hx hb dX6_leaf_81 rfl (lv_at hl 0 rfl) ?_
            refine va_get (D := (dC, dI)) (ci := 6) (v := .int (nI nL)) (C := RX6) (T := TX6) (N := 20) hx hb hts mX6_leaf_inX6 hown hK hP 0 rfl rfl 0 (by decide) (hts (.fieldLink RX6 61 "LeafOrderModel" "leaves" "I") mX6_leaf_0) (fun _ h9 => h9) rfl dX6_leaf_82 ?_
            refine ln_imul hx hb dX6_leaf_85 ?_
            refine lv_iconst (v := nI 1) hx hb dX6_leaf_86 (by decide) ?_
            refine ln_iadd hx hb dX6_leaf_87 ?_
            refine lv_iload_n hx hb dX6_leaf_88 rfl (lv_at hl 3 rfl) ?_
            refine ln_iast (i := (2 * nL) + 1) hx hb hK hP hD hS 1 0 rfl rfl (by omega) (by decide) dX6_leaf_89 (fun H locs hP hD hS => ?_)
            have b_16 : ∀ k, (upN (upN fb (2 * nL) k1) ((2 * nL) + 1) k3) k ≤ 99 := upN_le b_14 (by omega)
            have hP : va_P (dC, dI) vwCl [(aM, .inr (6, [.int (nI nL), .ref aMb, .ref aMe, .ref aMw, .ref aMc, .ref aMd, .ref aMs, .ref aMz, .int (nI mt), .ref aMA, .ref aMJ, .ref aMl, .ref aM2, .int ba, .int bb, .int (nI u1), .int (nI u2), .ref aMp, .ref aMt, .int (nI pt)])), (aMb, .inl (cI, 18, .inl (nF (upN (upN fb (2 * nL) k1) ((2 * nL) + 1) k3)))), (aMe, .inl (cI, 18, .inl (nF (upN fe (2 * nL) k2)))), (aMw, .inl (cI, 18, .inl fw))] H := hP
            have hD : va_D A [(aM, .inr (6, [.int (nI nL), .ref aMb, .ref aMe, .ref aMw, .ref aMc, .ref aMd, .ref aMs, .ref aMz, .int (nI mt), .ref aMA, .ref aMJ, .ref aMl, .ref aM2, .int ba, .int bb, .int (nI u1), .int (nI u2), .ref aMp, .ref aMt, .int (nI pt)])), (aMb, .inl (cI, 18, .inl (nF (upN (upN fb (2 * nL) k1) ((2 * nL) + 1) k3)))), (aMe, .inl (cI, 18, .inl (nF (upN fe (2 * nL) k2)))), (aMw, .inl (cI, 18, .inl fw))] := hD
            refine lv_aload_n hx hb dX6_leaf_90 rfl (lv_at hl 0 rfl) ?_
            refine va_get (D := (dC, dI)) (ci := 6) (v := .ref aMe) (C := RX6) (T := TX6) (N := 20) hx hb hts mX6_leaf_inX6 hown hK hP 0 rfl rfl 2 (by decide) (hts (.fieldLink RX6 13 "LeafOrderModel" "end" "[I") mX6_leaf_3) (fun _ h9 => h9) rfl dX6_leaf_91 ?_
            refine lv_iconst (v := nI 2) hx hb dX6_leaf_94 (by decide) ?_
            refine lv_aload_n hx hb dX6_leaf_95 rfl (lv_at hl 0 rfl) ?_
            refine va_get (D := (dC, dI)) (ci := 6) (v := .int (nI nL)) (C := RX6) (T := TX6) (N := 20) hx hb hts mX6_leaf_inX6 hown hK hP 0 rfl rfl 0 (by decide) (hts (.fieldLink RX6 61 "LeafOrderModel" "leaves" "I") mX6_leaf_0) (fun _ h9 => h9) rfl dX6_leaf_96 ?_
            refine ln_imul hx hb dX6_leaf_99 ?_
            refine lv_iconst (v := nI 1) hx hb dX6_leaf_100 (by decide) ?_
            refine ln_iadd hx hb dX6_leaf_101 ?_
            refine lv_iload hx hb dX6_leaf_102 (lv_at hl 4 rfl) ?_
            refine ln_iast (i := (2 * nL) + 1) hx hb hK hP hD hS 2 0 rfl rfl (by omega) (by decide) dX6_leaf_104 (fun H locs hP hD hS => ?_)
            have b_17 : ∀ k, (upN (upN fe (2 * nL) k2) ((2 * nL) + 1) k4) k ≤ 99 := upN_le b_15 (by omega)
            have hP : va_P (dC, dI) vwCl [(aM, .inr (6, [.int (nI nL), .ref aMb, .ref aMe, .ref aMw, .ref aMc, .ref aMd, .ref aMs, .ref aMz, .int (nI mt), .ref aMA, .ref aMJ, .ref aMl, .ref aM2, .int ba, .int bb, .int (nI u1), .int (nI u2), .ref aMp, .ref aMt, .int (nI pt)])), (aMb, .inl (cI, 18, .inl (nF (upN (upN fb (2 * nL) k1) ((2 * nL) + 1) k3)))), (aMe, .inl (cI, 18, .inl (nF (upN (upN fe (2 * nL) k2) ((2 * nL) + 1) k4)))), (aMw, .inl (cI, 18, .inl fw))] H := hP
            have hD : va_D A [(aM, .inr (6, [.int (nI nL), .ref aMb, .ref aMe, .ref aMw, .ref aMc, .ref aMd, .ref aMs, .ref aMz, .int (nI mt), .ref aMA, .ref aMJ, .ref aMl, .ref aM2, .int ba, .int bb, .int (nI u1), .int (nI u2), .ref aMp, .ref aMt, .int (nI pt)])), (aMb, .inl (cI, 18, .inl (nF (upN (upN fb (2 * nL) k1) ((2 * nL) + 1) k3)))), (aMe, .inl (cI, 18, .inl (nF (upN (upN fe (2 * nL) k2) ((2 * nL) + 1) k4)))), (aMw, .inl (cI, 18, .inl fw))] := hD
            refine lv_aload_n hx hb dX6_leaf_105 rfl (lv_at hl 0 rfl) ?_
            refine va_get (D := (dC, dI)) (ci := 6) (v := .ref aMw) (C := RX6) (T := TX6) (N := 20) hx hb hts mX6_leaf_inX6 hown hK hP 0 rfl rfl 3 (by decide) (hts (.fieldLink RX6 16 "LeafOrderModel" "word" "[I") mX6_leaf_4) (fun _ h9 => h9) rfl dX6_leaf_106 ?_
            refine lv_iconst (v := nI 2) hx hb dX6_leaf_109 (by decide) ?_
            refine lv_aload_n hx hb dX6_leaf_110 rfl (lv_at hl 0 rfl) ?_
            refine va_get (D := (dC, dI)) (ci := 6) (v := .int (nI nL)) (C := RX6) (T := TX6) (N := 20) hx hb hts mX6_leaf_inX6 hown hK hP 0 rfl rfl 0 (by decide) (hts (.fieldLink RX6 61 "LeafOrderModel" "leaves" "I") mX6_leaf_0) (fun _ h9 => h9) rfl dX6_leaf_111 ?_
            refine ln_imul hx hb dX6_leaf_114 ?_
            refine lv_iconst (v := (-1)) hx hb dX6_leaf_115 (by decide) ?_
            refine ln_iastI (i := 2 * nL) hx hb hK hP hD hS 3 0 rfl rfl (by omega) (by decide) dX6_leaf_116 (fun H locs hP hD hS => ?_)
            have hP : va_P (dC, dI) vwCl [(aM, .inr (6, [.int (nI nL), .ref aMb, .ref aMe, .ref aMw, .ref aMc, .ref aMd, .ref aMs, .ref aMz, .int (nI mt), .ref aMA, .ref aMJ, .ref aMl, .ref aM2, .int ba, .int bb, .int (nI u1), .int (nI u2), .ref aMp, .ref aMt, .int (nI pt)])), (aMb, .inl (cI, 18, .inl (nF (upN (upN fb (2 * nL) k1) ((2 * nL) + 1) k3)))), (aMe, .inl (cI, 18, .inl (nF (upN (upN fe (2 * nL) k2) ((2 * nL) + 1) k4)))), (aMw, .inl (cI, 18, .inl (upd fw (2 * nL) (-1))))] H := hP
            have hD : va_D A [(aM, .inr (6, [.int (nI nL), .ref aMb, .ref aMe, .ref aMw, .ref aMc, .ref aMd, .ref aMs, .ref aMz, .int (nI mt), .ref aMA, .ref aMJ, .ref aMl, .ref aM2, .int ba, .int bb, .int (nI u1), .int (nI u2), .ref aMp, .ref aMt, .int (nI pt)])), (aMb, .inl (cI, 18, .inl (nF (upN (upN fb (2 * nL) k1) ((2 * nL) + 1) k3)))), (aMe, .inl (cI, 18, .inl (nF (upN (upN fe (2 * nL) k2) ((2 * nL) + 1) k4)))), (aMw, .inl (cI, 18, .inl (upd fw (2 * nL) (-1))))] := hD
            refine lv_aload_n hx hb dX6_leaf_117 rfl (lv_at hl 0 rfl) ?_
            refine va_get (D := (dC, dI)) (ci := 6) (v := .ref aMw) (C := RX6) (T := TX6) (N := 20) hx hb hts mX6_leaf_inX6 hown hK hP 0 rfl rfl 3 (by decide) (hts (.fieldLink RX6 16 "LeafOrderModel" "word" "[I") mX6_leaf_4) (fun _ h9 => h9) rfl dX6_leaf_118 ?_
            refine lv_iconst (v := nI 2) hx hb dX6_leaf_121 (by decide) ?_
            refine lv_aload_n hx hb dX6_leaf_122 rfl (lv_at hl 0 rfl) ?_
            refine va_get (D := (dC, dI)) (ci := 6) (v := .int (nI nL)) (C := RX6) (T := TX6) (N := 20) hx hb hts mX6_leaf_inX6 hown hK hP 0 rfl rfl 0 (by decide) (hts (.fieldLink RX6 61 "LeafOrderModel" "leaves" "I") mX6_leaf_0) (fun _ h9 => h9) rfl dX6_leaf_123 ?_
            refine ln_imul hx hb dX6_leaf_126 ?_
            refine lv_iconst (v := nI 1) hx hb dX6_leaf_127 (by decide) ?_
            refine ln_iadd hx hb dX6_leaf_128 ?_
            refine lv_iconst (v := (-1)) hx hb dX6_leaf_129 (by decide) ?_
            refine ln_iastI (i := (2 * nL) + 1) hx hb hK hP hD hS 3 0 rfl rfl (by omega) (by decide) dX6_leaf_130 (fun H locs hP hD hS => ?_)
            have hP : va_P (dC, dI) vwCl [(aM, .inr (6, [.int (nI nL), .ref aMb, .ref aMe, .ref aMw, .ref aMc, .ref aMd, .ref aMs, .ref aMz, .int (nI mt), .ref aMA, .ref aMJ, .ref aMl, .ref aM2, .int ba, .int bb, .int (nI u1), .int (nI u2), .ref aMp, .ref aMt, .int (nI pt)])), (aMb, .inl (cI, 18, .inl (nF (upN (upN fb (2 * nL) k1) ((2 * nL) + 1) k3)))), (aMe, .inl (cI, 18, .inl (nF (upN (upN fe (2 * nL) k2) ((2 * nL) + 1) k4)))), (aMw, .inl (cI, 18, .inl (upd (upd fw (2 * nL) (-1)) ((2 * nL) + 1) (-1))))] H := hP
            have hD : va_D A [(aM, .inr (6, [.int (nI nL), .ref aMb, .ref aMe, .ref aMw, .ref aMc, .ref aMd, .ref aMs, .ref aMz, .int (nI mt), .ref aMA, .ref aMJ, .ref aMl, .ref aM2, .int ba, .int bb, .int (nI u1), .int (nI u2), .ref aMp, .ref aMt, .int (nI pt)])), (aMb, .inl (cI, 18, .inl (nF (upN (upN fb (2 * nL) k1) ((2 * nL) + 1) k3)))), (aMe, .inl (cI, 18, .inl (nF (upN (upN fe (2 * nL) k2) ((2 * nL) + 1) k4)))), (aMw, .inl (cI, 18, .inl (upd (upd fw (2 * nL) (-1)) ((2 * nL) + 1) (-1))))] := hD
            refine lv_aload_n hx hb dX6_leaf_131 rfl (lv_at hl 0 rfl) ?_
            refine lv_dup hx hb dX6_leaf_132 rfl ?_
            refine va_get (D := (dC, dI)) (ci := 6) (v := .int (nI nL)) (C := RX6) (T := TX6) (N := 20) hx hb hts mX6_leaf_inX6 hown hK hP 0 rfl rfl 0 (by decide) (hts (.fieldLink RX6 61 "LeafOrderModel" "leaves" "I") mX6_leaf_0) (fun _ h9 => h9) rfl dX6_leaf_133 ?_
            refine lv_iconst (v := nI 1) hx hb dX6_leaf_136 (by decide) ?_
            refine ln_iadd hx hb dX6_leaf_137 ?_
            refine va_put (D := (dC, dI)) (ci := 6) (v := .int (nI (nL + 1))) (ty := .int) (C := RX6) (T := TX6) (N := 20) hx hb hts mX6_leaf_inX6 tyX6 tyX6_ok nmX6 hown hK hP hD hS 0 rfl rfl 0 (by decide) (hts (.fieldLink RX6 61 "LeafOrderModel" "leaves" "I") mX6_leaf_0) (fun _ h9 => h9) rfl (by decide +kernel) rfl rfl (Nat.le_of_ble_eq_true rfl) dX6_leaf_138 (fun H locs hP hD hS => ?_)
            have hP : va_P (dC, dI) vwCl [(aM, .inr (6, [.int (nI (nL + 1)), .ref aMb, .ref aMe, .ref aMw, .ref aMc, .ref aMd, .ref aMs, .ref aMz, .int (nI mt), .ref aMA, .ref aMJ, .ref aMl, .ref aM2, .int ba, .int bb, .int (nI u1), .int (nI u2), .ref aMp, .ref aMt, .int (nI pt)])), (aMb, .inl (cI, 18, .inl (nF (upN (upN fb (2 * nL) k1) ((2 * nL) + 1) k3)))), (aMe, .inl (cI, 18, .inl (nF (upN (upN fe (2 * nL) k2) ((2 * nL) + 1) k4)))), (aMw, .inl (cI, 18, .inl (upd (upd fw (2 * nL) (-1)) ((2 * nL) + 1) (-1))))] H := hP
            have hD : va_D A [(aM, .inr (6, [.int (nI (nL + 1)), .ref aMb, .ref aMe, .ref aMw, .ref aMc, .ref aMd, .ref aMs, .ref aMz, .int (nI mt), .ref aMA, .ref aMJ, .ref aMl, .ref aM2, .int ba, .int bb, .int (nI u1), .int (nI u2), .ref aMp, .ref aMt, .int (nI pt)])), (aMb, .inl (cI, 18, .inl (nF (upN (upN fb (2 * nL) k1) ((2 * nL) + 1) k3)))), (aMe, .inl (cI, 18, .inl (nF (upN (upN fe (2 * nL) k2) ((2 * nL) + 1) k4)))), (aMw, .inl (cI, 18, .inl (upd (upd fw (2 * nL) (-1)) ((2 * nL) + 1) (-1))))] := hD
            refine lv_aload_n hx hb dX6_leaf_141 rfl (lv_at hl 0 rfl) ?_
            refine va_get (D := (dC, dI)) (ci := 6) (v := .int (nI (nL + 1))) (C := RX6) (T := TX6) (N := 20) hx hb hts mX6_leaf_inX6 hown hK hP 0 rfl rfl 0 (by decide) (hts (.fieldLink RX6 61 "LeafOrderModel" "leaves" "I") mX6_leaf_0) (fun _ h9 => h9) rfl dX6_leaf_142 ?_
            refine lv_iconst (v := nI 1) hx hb dX6_leaf_145 (by decide) ?_
            refine ln_isub hx hb dX6_leaf_146 (by omega) ?_
            have hC : pc_leaf nL (nI k1) (nI k2) (nI k3) (nI k4) := ⟨⟨k1, hk1, rfl⟩, ⟨k2, hk2, rfl⟩, ⟨k3, hk3, rfl⟩, ⟨k4, hk4, rfl⟩, by omega⟩
            exact W.iret (v := (nI ((nL + 1) - 1))) hx hb hr (fun t ht hW => ⟨⟨(nI ((nL + 1) - 1)), (nL + 1, upN (upN fb (2 * nL) k1) ((2 * nL) + 1) k3, upN (upN fe (2 * nL) k2) ((2 * nL) + 1) k4, upd (upd fw (2 * nL) (-1)) ((2 * nL) + 1) (-1)), rfl, ⟨(by rw [cif_t hC]; rfl), (cif_t hC).symm, (by rw [cif_t hC, tn_nI (show k1 < 2 ^ 31 by omega), tn_nI (show k3 < 2 ^ 31 by omega)]), (by rw [cif_t hC, tn_nI (show k2 < 2 ^ 31 by omega), tn_nI (show k4 < 2 ^ 31 by omega)]), (by rw [cif_t hC]), b_16, b_17⟩, by rw [ht]; exact hP, hD⟩, hS.F ht⟩) hS.2.2 dX6_leaf_147
          · refine lv_iconst (v := (-1)) hx hb dX6_leaf_50 (by decide) ?_
            have hC : ¬ pc_leaf nL (nI k1) (nI k2) (nI k3) (nI k4) := (fun q => absurd q.2.2.2.2 (by omega))
            exact W.iret (v := (-1)) hx hb hr (fun t ht hW => ⟨⟨(-1), (nL, fb, fe, fw), rfl, ⟨(cif_f hC).symm, (cif_f hC).symm, (cif_f hC).symm, (cif_f hC).symm, (cif_f hC).symm, bLb, bLe⟩, by rw [ht]; exact hP, hD⟩, hS.F ht⟩) hS.2.2 dX6_leaf_51
        · have c_18 : ¬ isN x4 100 := fun q => c_12 ((in_isN (k := 99) (by decide)).mpr q)
          refine ln_if_eqT (tgt := 50) hx hb dX6_leaf_38 (by decide) (by decide) ?_
          refine lv_iconst (v := (-1)) hx hb dX6_leaf_50 (by decide) ?_
          have hC : ¬ pc_leaf nL (nI k1) (nI k2) (nI k3) x4 := (fun q => c_18 q.2.2.2.1)
          exact W.iret (v := (-1)) hx hb hr (fun t ht hW => ⟨⟨(-1), (nL, fb, fe, fw), rfl, ⟨(cif_f hC).symm, (cif_f hC).symm, (cif_f hC).symm, (cif_f hC).symm, (cif_f hC).symm, bLb, bLe⟩, by rw [ht]; exact hP, hD⟩, hS.F ht⟩) hS.2.2 dX6_leaf_51
      · have c_19 : ¬ isN x3 100 := fun q => c_9 ((in_isN (k := 99) (by decide)).mpr q)
        refine ln_if_eqT (tgt := 50) hx hb dX6_leaf_27 (by decide) (by decide) ?_
        refine lv_iconst (v := (-1)) hx hb dX6_leaf_50 (by decide) ?_
        have hC : ¬ pc_leaf nL (nI k1) (nI k2) x3 x4 := (fun q => c_19 q.2.2.1)
        exact W.iret (v := (-1)) hx hb hr (fun t ht hW => ⟨⟨(-1), (nL, fb, fe, fw), rfl, ⟨(cif_f hC).symm, (cif_f hC).symm, (cif_f hC).symm, (cif_f hC).symm, (cif_f hC).symm, bLb, bLe⟩, by rw [ht]; exact hP, hD⟩, hS.F ht⟩) hS.2.2 dX6_leaf_51
    · have c_20 : ¬ isN x2 100 := fun q => c_6 ((in_isN (k := 99) (by decide)).mpr q)
      refine ln_if_eqT (tgt := 50) hx hb dX6_leaf_17 (by decide) (by decide) ?_
      refine lv_iconst (v := (-1)) hx hb dX6_leaf_50 (by decide) ?_
      have hC : ¬ pc_leaf nL (nI k1) x2 x3 x4 := (fun q => c_20 q.2.1)
      exact W.iret (v := (-1)) hx hb hr (fun t ht hW => ⟨⟨(-1), (nL, fb, fe, fw), rfl, ⟨(cif_f hC).symm, (cif_f hC).symm, (cif_f hC).symm, (cif_f hC).symm, (cif_f hC).symm, bLb, bLe⟩, by rw [ht]; exact hP, hD⟩, hS.F ht⟩) hS.2.2 dX6_leaf_51
  · have c_21 : ¬ isN x1 100 := fun q => c_3 ((in_isN (k := 99) (by decide)).mpr q)
    refine ln_if_eqT (tgt := 50) hx hb dX6_leaf_7 (by decide) (by decide) ?_
    refine lv_iconst (v := (-1)) hx hb dX6_leaf_50 (by decide) ?_
    have hC : ¬ pc_leaf nL x1 x2 x3 x4 := (fun q => c_21 q.1)
    exact W.iret (v := (-1)) hx hb hr (fun t ht hW => ⟨⟨(-1), (nL, fb, fe, fw), rfl, ⟨(cif_f hC).symm, (cif_f hC).symm, (cif_f hC).symm, (cif_f hC).symm, (cif_f hC).symm, bLb, bLe⟩, by rw [ht]; exact hP, hD⟩, hS.F ht⟩) hS.2.2 dX6_leaf_51
theorem mX6_catchword_0 : Cond.fieldLink RX6 16 "LeafOrderModel" "word" "[I" ∈ wsX6_catchword := by decide +kernel
theorem mX6_catchword_inX6 : ∀ w ∈ wsX60, w ∈ wsX6_catchword := by decide +kernel
set_option maxHeartbeats 4000000 in
set_option maxRecDepth 100000 in
theorem k_X6_catchword (l : Launch) (dC : Nat → ClassId) (dI : Nat → Nat → Nat) (cI cZ : ClassId) (aM aMb aMe aMw aMc aMd aMs aMz aMA aMJ aMl aM2 aMp aMt : Nat) (nL : Nat) (mt : Nat) (ba : Int32) (bb : Int32) (u1 : Nat) (u2 : Nat) (pt : Nat) (fw : Nat → Int32) (x1 : Int32) (x2 : Int32) (x3 : Int32) (sz : Nat) (hn : nL ≤ 9) : Met l yX6_catchword wsX6_catchword { frames := 2, cells := 0, slots := 0, locals := 43 } (va_Pc [.ref aM, .int x1, .int x2, .int x3] (fun U => U.heap.size = sz ∧ va_P (dC, dI) vwCl [(aM, .inr (6, [.int (nI nL), .ref aMb, .ref aMe, .ref aMw, .ref aMc, .ref aMd, .ref aMs, .ref aMz, .int (nI mt), .ref aMA, .ref aMJ, .ref aMl, .ref aM2, .int ba, .int bb, .int (nI u1), .int (nI u2), .ref aMp, .ref aMt, .int (nI pt)])), (aMw, .inl (cI, 18, .inl fw))] U.heap ∧ lK dC dI cI cZ U ∧ va_D (fun _ => True) [(aM, .inr (6, [.int (nI nL), .ref aMb, .ref aMe, .ref aMw, .ref aMc, .ref aMd, .ref aMs, .ref aMz, .int (nI mt), .ref aMA, .ref aMJ, .ref aMl, .ref aM2, .int ba, .int bb, .int (nI u1), .int (nI u2), .ref aMp, .ref aMt, .int (nI pt)])), (aMw, .inl (cI, 18, .inl fw))])) (va_Qi (fun (r : Int32) (fwz : (Nat → Int32)) => r = cif (pc_word nL x1 x2 x3) (nI 1) (nI 0) ∧ fwz = cif (pc_word nL x1 x2 x3) (upd fw (2 * tn x1 + tn x2) x3) fw) (fun (fwz : (Nat → Int32)) (t : State) => va_P (dC, dI) vwCl [(aM, .inr (6, [.int (nI nL), .ref aMb, .ref aMe, .ref aMw, .ref aMc, .ref aMd, .ref aMs, .ref aMz, .int (nI mt), .ref aMA, .ref aMJ, .ref aMl, .ref aM2, .int ba, .int bb, .int (nI u1), .int (nI u2), .ref aMp, .ref aMt, .int (nI pt)])), (aMw, .inl (cI, 18, .inl fwz))] t.heap ∧ va_D (va_A [(aM, .inr (6, [.int (nI nL), .ref aMb, .ref aMe, .ref aMw, .ref aMc, .ref aMd, .ref aMs, .ref aMz, .int (nI mt), .ref aMA, .ref aMJ, .ref aMl, .ref aM2, .int ba, .int bb, .int (nI u1), .int (nI u2), .ref aMp, .ref aMt, .int (nI pt)])), (aMw, .inl (cI, 18, .inl fw))] sz) [(aM, .inr (6, [.int (nI nL), .ref aMb, .ref aMe, .ref aMw, .ref aMc, .ref aMd, .ref aMs, .ref aMz, .int (nI mt), .ref aMA, .ref aMJ, .ref aMl, .ref aM2, .int ba, .int bb, .int (nI u1), .int (nI u2), .ref aMp, .ref aMt, .int (nI pt)])), (aMw, .inl (cI, 18, .inl fwz))]) (va_A [(aM, .inr (6, [.int (nI nL), .ref aMb, .ref aMe, .ref aMw, .ref aMc, .ref aMd, .ref aMs, .ref aMz, .int (nI mt), .ref aMA, .ref aMJ, .ref aMl, .ref aM2, .int ba, .int bb, .int (nI u1), .int (nI u2), .ref aMp, .ref aMt, .int (nI pt)])), (aMw, .inl (cI, 18, .inl fw))] sz)) 0 0 (va_A [(aM, .inr (6, [.int (nI nL), .ref aMb, .ref aMe, .ref aMw, .ref aMc, .ref aMd, .ref aMs, .ref aMz, .int (nI mt), .ref aMA, .ref aMJ, .ref aMl, .ref aM2, .int ba, .int bb, .int (nI u1), .int (nI u2), .ref aMp, .ref aMt, .int (nI pt)])), (aMw, .inl (cI, 18, .inl fw))] sz) := by
  refine Met.ofW (cc := cX6_catchword) (maxL := 4) (ret := (some .boolean)) (by decide) rfl ?_
  intro p e s m args below meth c s₁ B hml hv
  obtain ⟨rfl, hsz, hP, hKK, hD0⟩ := hv
  have hK := hKK.1
  have hx := B.exec
  have hb := B.bytes
  have hr := B.returns
  have hts := atoms_spec (ws := wsX6_catchword) B.pre
  have hown : s.vm.findClass RX6 = some m.cls := findClass_of_methodNamed B.named
  have hlocks := B.notSynchronized
  subst hsz
  have hD := hD0.self (sz := s.heap.size)
  generalize hAe : va_A [(aM, .inr (6, [.int (nI nL), .ref aMb, .ref aMe, .ref aMw, .ref aMc, .ref aMd, .ref aMs, .ref aMz, .int (nI mt), .ref aMA, .ref aMJ, .ref aMl, .ref aM2, .int ba, .int bb, .int (nI u1), .int (nI u2), .ref aMp, .ref aMt, .int (nI pt)])), (aMw, .inl (cI, 18, .inl fw))] s.heap.size = A at hD ⊢
  have hA : ∀ q : Nat, s.heap.size ≤ q → A q := fun q h => by rw [← hAe]; exact Or.inr h
  have hS : va_S A s.heap s.heap [] := va_S.rf
  have hl := lv_entry ([.ref aM, .int x1, .int x2, .int x3]) (n := 4) (Nat.le_of_ble_eq_true rfl)
  rw [lg_entry_eq]
  generalize (lg_sl ([.ref aM, .int x1, .int x2, .int x3]) ++ List.replicate (4 - (lg_sl ([.ref aM, .int x1, .int x2, .int x3])).length) Slot.unset).toArray = ls at hl ⊢
  have hl : lv_has ls 4 [(0, .ref aM), (1, .int x1), (2, .int x2), (3, .int x3)] := hl
  refine lv_aload_n hx hb dX6_catchword_0 rfl (lv_at hl 0 rfl) ?_
  refine lv_iload_n hx hb dX6_catchword_1 rfl (lv_at hl 1 rfl) ?_
  have hPc := hP.sub (ws' := [(aM, .inr (6, [.int (nI nL), .ref aMb, .ref aMe, .ref aMw, .ref aMc, .ref aMd, .ref aMs, .ref aMz, .int (nI mt), .ref aMA, .ref aMJ, .ref aMl, .ref aM2, .int ba, .int bb, .int (nI u1), .int (nI u2), .ref aMp, .ref aMt, .int (nI pt)]))]) [0] rfl
  refine vp_callSi (W.runV (As := [.int x1]) (rest := []) ⟨hx, hb, hml, hown, hts⟩ (k_X6_isLeaf l dC dI cI cZ aM aMb aMe aMw aMc aMd aMs aMz aMA aMJ aMl aM2 aMp aMt nL mt ba bb u1 u2 pt x1 (by omega)) (cwV 1 hts gX6_catchword_X6_isLeaf rfl rfl rfl (by decide +kernel) ⟨Nat.le_of_ble_eq_true rfl, Nat.le_of_ble_eq_true rfl⟩) (ln_preV (q0 := 0) (ci := 6) hPc hKK rfl rfl) rfl rfl hl.1 rfl (lv_room (Nat.le_of_ble_eq_true rfl)) dX6_catchword_2 ⟨Nat.le_of_ble_eq_true rfl, Nat.le_of_ble_eq_true rfl⟩) (fun r_1 w_2 => ?_)
  rcases w_2 with ⟨rfl, c_3⟩ | ⟨rfl, c_3⟩
  · obtain ⟨k1, hk1, rfl⟩ := c_3
    refine ln_if_eqF (tgt := 27) hx hb dX6_catchword_5 (by decide) (by decide) ?_
    refine lv_iload_n hx hb dX6_catchword_8 rfl (lv_at hl 2 rfl) ?_
    refine lv_iconst (v := nI 0) hx hb dX6_catchword_9 (by decide) ?_
    refine lv_iconst (v := nI 1) hx hb dX6_catchword_10 (by decide) ?_
    refine vp_callSi (W.runS (As := [.int x2, .int (nI 0), .int (nI 1)]) (rest := []) ⟨hx, hb, hml, hown, hts⟩ (k_X6_in l dC dI cI cZ x2 (nI 0) (nI 1)) (va_cwS 3 hts gX6_catchword_X6_in rfl rfl rfl (by decide +kernel) ⟨Nat.le_of_ble_eq_true rfl, Nat.le_of_ble_eq_true rfl⟩) ln_preS0 rfl rfl hl.1 rfl (lv_room (Nat.le_of_ble_eq_true rfl)) dX6_catchword_11 ⟨Nat.le_of_ble_eq_true rfl, Nat.le_of_ble_eq_true rfl⟩) (fun r_4 w_5 => ?_)
    rcases w_5 with ⟨rfl, c_6⟩ | ⟨rfl, c_6⟩
    · obtain ⟨k2, hk2, rfl⟩ := (in_isN (k := 1) (by decide)).mp c_6
      refine ln_if_eqF (tgt := 27) hx hb dX6_catchword_14 (by decide) (by decide) ?_
      refine lv_iload_n hx hb dX6_catchword_17 rfl (lv_at hl 3 rfl) ?_
      refine lv_iconst (v := (-1)) hx hb dX6_catchword_18 (by decide) ?_
      refine lv_bipush (v := nI 99) hx hb dX6_catchword_19 (by decide) ?_
      refine vp_callSi (W.runS (As := [.int x3, .int (-1), .int (nI 99)]) (rest := []) ⟨hx, hb, hml, hown, hts⟩ (k_X6_in l dC dI cI cZ x3 (-1) (nI 99)) (va_cwS 3 hts gX6_catchword_X6_in rfl rfl rfl (by decide +kernel) ⟨Nat.le_of_ble_eq_true rfl, Nat.le_of_ble_eq_true rfl⟩) ln_preS0 rfl rfl hl.1 rfl (lv_room (Nat.le_of_ble_eq_true rfl)) dX6_catchword_21 ⟨Nat.le_of_ble_eq_true rfl, Nat.le_of_ble_eq_true rfl⟩) (fun r_7 w_8 => ?_)
      rcases w_8 with ⟨rfl, c_9⟩ | ⟨rfl, c_9⟩
      · refine ln_if_neT (tgt := 29) hx hb dX6_catchword_24 (by decide) (by decide) ?_
        refine lv_aload_n hx hb dX6_catchword_29 rfl (lv_at hl 0 rfl) ?_
        refine va_get (D := (dC, dI)) (ci := 6) (v := .ref aMw) (C := RX6) (T := TX6) (N := 20) hx hb hts mX6_catchword_inX6 hown hK hP 0 rfl rfl 3 (by decide) (hts (.fieldLink RX6 16 "LeafOrderModel" "word" "[I") mX6_catchword_0) (fun _ h9 => h9) rfl dX6_catchword_30 ?_
        refine lv_iconst (v := nI 2) hx hb dX6_catchword_33 (by decide) ?_
        refine lv_iload_n hx hb dX6_catchword_34 rfl (lv_at hl 1 rfl) ?_
        refine ln_imul hx hb dX6_catchword_35 ?_
        refine lv_iload_n hx hb dX6_catchword_36 rfl (lv_at hl 2 rfl) ?_
        refine ln_iadd hx hb dX6_catchword_37 ?_
        refine lv_iload_n hx hb dX6_catchword_38 rfl (lv_at hl 3 rfl) ?_
        refine ln_iastI (i := (2 * k1) + k2) hx hb hK hP hD hS 1 0 rfl rfl (by omega) (by decide) dX6_catchword_39 (fun H locs hP hD hS => ?_)
        have hP : va_P (dC, dI) vwCl [(aM, .inr (6, [.int (nI nL), .ref aMb, .ref aMe, .ref aMw, .ref aMc, .ref aMd, .ref aMs, .ref aMz, .int (nI mt), .ref aMA, .ref aMJ, .ref aMl, .ref aM2, .int ba, .int bb, .int (nI u1), .int (nI u2), .ref aMp, .ref aMt, .int (nI pt)])), (aMw, .inl (cI, 18, .inl (upd fw ((2 * k1) + k2) x3)))] H := hP
        have hD : va_D A [(aM, .inr (6, [.int (nI nL), .ref aMb, .ref aMe, .ref aMw, .ref aMc, .ref aMd, .ref aMs, .ref aMz, .int (nI mt), .ref aMA, .ref aMJ, .ref aMl, .ref aM2, .int ba, .int bb, .int (nI u1), .int (nI u2), .ref aMp, .ref aMt, .int (nI pt)])), (aMw, .inl (cI, 18, .inl (upd fw ((2 * k1) + k2) x3)))] := hD
        refine lv_iconst (v := nI 1) hx hb dX6_catchword_40 (by decide) ?_
        have hC : pc_word nL (nI k1) (nI k2) x3 := ⟨⟨k1, hk1, rfl⟩, ⟨k2, hk2, rfl⟩, in_word.mp c_9⟩
        exact W.zret (v := (nI 1)) hx hb hr (by decide) (fun t ht hW => ⟨⟨(nI 1), (upd fw ((2 * k1) + k2) x3), rfl, ⟨(cif_t hC).symm, (by rw [cif_t hC, tn_nI (show k1 < 2 ^ 31 by omega), tn_nI (show k2 < 2 ^ 31 by omega)])⟩, by rw [ht]; exact hP, hD⟩, hS.F ht⟩) hS.2.2 dX6_catchword_41
      · refine ln_if_neF (tgt := 29) hx hb dX6_catchword_24 (by decide) (by decide) ?_
        refine lv_iconst (v := nI 0) hx hb dX6_catchword_27 (by decide) ?_
        have hC : ¬ pc_word nL (nI k1) (nI k2) x3 := (fun q => c_9 (in_word.mpr q.2.2))
        exact W.zret (v := (nI 0)) hx hb hr (by decide) (fun t ht hW => ⟨⟨(nI 0), fw, rfl, ⟨(cif_f hC).symm, (cif_f hC).symm⟩, by rw [ht]; exact hP, hD⟩, hS.F ht⟩) hS.2.2 dX6_catchword_28
    · have c_10 : ¬ isN x2 2 := fun q => c_6 ((in_isN (k := 1) (by decide)).mpr q)
      refine ln_if_eqT (tgt := 27) hx hb dX6_catchword_14 (by decide) (by decide) ?_
      refine lv_iconst (v := nI 0) hx hb dX6_catchword_27 (by decide) ?_
      have hC : ¬ pc_word nL (nI k1) x2 x3 := (fun q => c_10 q.2.1)
      exact W.zret (v := (nI 0)) hx hb hr (by decide) (fun t ht hW => ⟨⟨(nI 0), fw, rfl, ⟨(cif_f hC).symm, (cif_f hC).symm⟩, by rw [ht]; exact hP, hD⟩, hS.F ht⟩) hS.2.2 dX6_catchword_28
  · refine ln_if_eqT (tgt := 27) hx hb dX6_catchword_5 (by decide) (by decide) ?_
    refine lv_iconst (v := nI 0) hx hb dX6_catchword_27 (by decide) ?_
    have hC : ¬ pc_word nL x1 x2 x3 := (fun q => c_3 q.1)
    exact W.zret (v := (nI 0)) hx hb hr (by decide) (fun t ht hW => ⟨⟨(nI 0), fw, rfl, ⟨(cif_f hC).symm, (cif_f hC).symm⟩, by rw [ht]; exact hP, hD⟩, hS.F ht⟩) hS.2.2 dX6_catchword_28
theorem mX6_cut_0 : Cond.fieldLink RX6 19 "LeafOrderModel" "cutBegin" "[I" ∈ wsX6_cut := by decide +kernel
theorem mX6_cut_inX6 : ∀ w ∈ wsX60, w ∈ wsX6_cut := by decide +kernel
theorem mX6_cut_2 : Cond.fieldLink RX6 22 "LeafOrderModel" "cutEnd" "[I" ∈ wsX6_cut := by decide +kernel
set_option maxHeartbeats 4000000 in
set_option maxRecDepth 100000 in
theorem k_X6_cut (l : Launch) (dC : Nat → ClassId) (dI : Nat → Nat → Nat) (cI cZ : ClassId) (aM aMb aMe aMw aMc aMd aMs aMz aMA aMJ aMl aM2 aMp aMt : Nat) (nL : Nat) (mt : Nat) (ba : Int32) (bb : Int32) (u1 : Nat) (u2 : Nat) (pt : Nat) (fc : Nat → Nat) (fd : Nat → Nat) (x1 : Int32) (x2 : Int32) (x3 : Int32) (x4 : Int32) (sz : Nat) (bLc : ∀ k, fc k ≤ 99) (bLd : ∀ k, fd k ≤ 99) (hn : nL ≤ 9) : Met l yX6_cut wsX6_cut { frames := 2, cells := 0, slots := 0, locals := 43 } (va_Pc [.ref aM, .int x1, .int x2, .int x3, .int x4] (fun U => U.heap.size = sz ∧ va_P (dC, dI) vwCl [(aM, .inr (6, [.int (nI nL), .ref aMb, .ref aMe, .ref aMw, .ref aMc, .ref aMd, .ref aMs, .ref aMz, .int (nI mt), .ref aMA, .ref aMJ, .ref aMl, .ref aM2, .int ba, .int bb, .int (nI u1), .int (nI u2), .ref aMp, .ref aMt, .int (nI pt)])), (aMc, .inl (cI, 18, .inl (nF fc))), (aMd, .inl (cI, 18, .inl (nF fd)))] U.heap ∧ lK dC dI cI cZ U ∧ va_D (fun _ => True) [(aM, .inr (6, [.int (nI nL), .ref aMb, .ref aMe, .ref aMw, .ref aMc, .ref aMd, .ref aMs, .ref aMz, .int (nI mt), .ref aMA, .ref aMJ, .ref aMl, .ref aM2, .int ba, .int bb, .int (nI u1), .int (nI u2), .ref aMp, .ref aMt, .int (nI pt)])), (aMc, .inl (cI, 18, .inl (nF fc))), (aMd, .inl (cI, 18, .inl (nF fd)))])) (va_Qi (fun (r : Int32) (u : (Nat → Nat) × (Nat → Nat)) => match u with | (fcz, fdz) => r = cif (pc_cut nL x1 x2 x3 x4) (nI 1) (nI 0) ∧ fcz = cif (pc_cut nL x1 x2 x3 x4) (upN fc (2 * tn x1 + tn x2) (tn x3)) fc ∧ fdz = cif (pc_cut nL x1 x2 x3 x4) (upN fd (2 * tn x1 + tn x2) (tn x4)) fd ∧ (∀ k, fcz k ≤ 99) ∧ (∀ k, fdz k ≤ 99)) (fun (u : (Nat → Nat) × (Nat → Nat)) (t : State) => match u with | (fcz, fdz) => va_P (dC, dI) vwCl [(aM, .inr (6, [.int (nI nL), .ref aMb, .ref aMe, .ref aMw, .ref aMc, .ref aMd, .ref aMs, .ref aMz, .int (nI mt), .ref aMA, .ref aMJ, .ref aMl, .ref aM2, .int ba, .int bb, .int (nI u1), .int (nI u2), .ref aMp, .ref aMt, .int (nI pt)])), (aMc, .inl (cI, 18, .inl (nF fcz))), (aMd, .inl (cI, 18, .inl (nF fdz)))] t.heap ∧ va_D (va_A [(aM, .inr (6, [.int (nI nL), .ref aMb, .ref aMe, .ref aMw, .ref aMc, .ref aMd, .ref aMs, .ref aMz, .int (nI mt), .ref aMA, .ref aMJ, .ref aMl, .ref aM2, .int ba, .int bb, .int (nI u1), .int (nI u2), .ref aMp, .ref aMt, .int (nI pt)])), (aMc, .inl (cI, 18, .inl (nF fc))), (aMd, .inl (cI, 18, .inl (nF fd)))] sz) [(aM, .inr (6, [.int (nI nL), .ref aMb, .ref aMe, .ref aMw, .ref aMc, .ref aMd, .ref aMs, .ref aMz, .int (nI mt), .ref aMA, .ref aMJ, .ref aMl, .ref aM2, .int ba, .int bb, .int (nI u1), .int (nI u2), .ref aMp, .ref aMt, .int (nI pt)])), (aMc, .inl (cI, 18, .inl (nF fcz))), (aMd, .inl (cI, 18, .inl (nF fdz)))]) (va_A [(aM, .inr (6, [.int (nI nL), .ref aMb, .ref aMe, .ref aMw, .ref aMc, .ref aMd, .ref aMs, .ref aMz, .int (nI mt), .ref aMA, .ref aMJ, .ref aMl, .ref aM2, .int ba, .int bb, .int (nI u1), .int (nI u2), .ref aMp, .ref aMt, .int (nI pt)])), (aMc, .inl (cI, 18, .inl (nF fc))), (aMd, .inl (cI, 18, .inl (nF fd)))] sz)) 0 0 (va_A [(aM, .inr (6, [.int (nI nL), .ref aMb, .ref aMe, .ref aMw, .ref aMc, .ref aMd, .ref aMs, .ref aMz, .int (nI mt), .ref aMA, .ref aMJ, .ref aMl, .ref aM2, .int ba, .int bb, .int (nI u1), .int (nI u2), .ref aMp, .ref aMt, .int (nI pt)])), (aMc, .inl (cI, 18, .inl (nF fc))), (aMd, .inl (cI, 18, .inl (nF fd)))] sz) := by
  refine Met.ofW (cc := cX6_cut) (maxL := 5) (ret := (some .boolean)) (by decide) rfl ?_
  intro p e s m args below meth c s₁ B hml hv
  obtain ⟨rfl, hsz, hP, hKK, hD0⟩ := hv
  have hK := hKK.1
  have hx := B.exec
  have hb := B.bytes
  have hr := B.returns
  have hts := atoms_spec (ws := wsX6_cut) B.pre
  have hown : s.vm.findClass RX6 = some m.cls := findClass_of_methodNamed B.named
  have hlocks := B.notSynchronized
  subst hsz
  have hD := hD0.self (sz := s.heap.size)
  generalize hAe : va_A [(aM, .inr (6, [.int (nI nL), .ref aMb, .ref aMe, .ref aMw, .ref aMc, .ref aMd, .ref aMs, .ref aMz, .int (nI mt), .ref aMA, .ref aMJ, .ref aMl, .ref aM2, .int ba, .int bb, .int (nI u1), .int (nI u2), .ref aMp, .ref aMt, .int (nI pt)])), (aMc, .inl (cI, 18, .inl (nF fc))), (aMd, .inl (cI, 18, .inl (nF fd)))] s.heap.size = A at hD ⊢
  have hA : ∀ q : Nat, s.heap.size ≤ q → A q := fun q h => by rw [← hAe]; exact Or.inr h
  have hS : va_S A s.heap s.heap [] := va_S.rf
  have hl := lv_entry ([.ref aM, .int x1, .int x2, .int x3, .int x4]) (n := 5) (Nat.le_of_ble_eq_true rfl)
  rw [lg_entry_eq]
  generalize (lg_sl ([.ref aM, .int x1, .int x2, .int x3, .int x4]) ++ List.replicate (5 - (lg_sl ([.ref aM, .int x1, .int x2, .int x3, .int x4])).length) Slot.unset).toArray = ls at hl ⊢
  have hl : lv_has ls 5 [(0, .ref aM), (1, .int x1), (2, .int x2), (3, .int x3), (4, .int x4)] := hl
  refine lv_aload_n hx hb dX6_cut_0 rfl (lv_at hl 0 rfl) ?_
  refine lv_iload_n hx hb dX6_cut_1 rfl (lv_at hl 1 rfl) ?_
  have hPc := hP.sub (ws' := [(aM, .inr (6, [.int (nI nL), .ref aMb, .ref aMe, .ref aMw, .ref aMc, .ref aMd, .ref aMs, .ref aMz, .int (nI mt), .ref aMA, .ref aMJ, .ref aMl, .ref aM2, .int ba, .int bb, .int (nI u1), .int (nI u2), .ref aMp, .ref aMt, .int (nI pt)]))]) [0] rfl
  refine vp_callSi (W.runV (As := [.int x1]) (rest := []) ⟨hx, hb, hml, hown, hts⟩ (k_X6_isLeaf l dC dI cI cZ aM aMb aMe aMw aMc aMd aMs aMz aMA aMJ aMl aM2 aMp aMt nL mt ba bb u1 u2 pt x1 (by omega)) (cwV 1 hts gX6_cut_X6_isLeaf rfl rfl rfl (by decide +kernel) ⟨Nat.le_of_ble_eq_true rfl, Nat.le_of_ble_eq_true rfl⟩) (ln_preV (q0 := 0) (ci := 6) hPc hKK rfl rfl) rfl rfl hl.1 rfl (lv_room (Nat.le_of_ble_eq_true rfl)) dX6_cut_2 ⟨Nat.le_of_ble_eq_true rfl, Nat.le_of_ble_eq_true rfl⟩) (fun r_1 w_2 => ?_)
  rcases w_2 with ⟨rfl, c_3⟩ | ⟨rfl, c_3⟩
  · obtain ⟨k1, hk1, rfl⟩ := c_3
    refine ln_if_eqF (tgt := 38) hx hb dX6_cut_5 (by decide) (by decide) ?_
    refine lv_iload_n hx hb dX6_cut_8 rfl (lv_at hl 2 rfl) ?_
    refine lv_iconst (v := nI 0) hx hb dX6_cut_9 (by decide) ?_
    refine lv_iconst (v := nI 1) hx hb dX6_cut_10 (by decide) ?_
    refine vp_callSi (W.runS (As := [.int x2, .int (nI 0), .int (nI 1)]) (rest := []) ⟨hx, hb, hml, hown, hts⟩ (k_X6_in l dC dI cI cZ x2 (nI 0) (nI 1)) (va_cwS 3 hts gX6_cut_X6_in rfl rfl rfl (by decide +kernel) ⟨Nat.le_of_ble_eq_true rfl, Nat.le_of_ble_eq_true rfl⟩) ln_preS0 rfl rfl hl.1 rfl (lv_room (Nat.le_of_ble_eq_true rfl)) dX6_cut_11 ⟨Nat.le_of_ble_eq_true rfl, Nat.le_of_ble_eq_true rfl⟩) (fun r_4 w_5 => ?_)
    rcases w_5 with ⟨rfl, c_6⟩ | ⟨rfl, c_6⟩
    · obtain ⟨k2, hk2, rfl⟩ := (in_isN (k := 1) (by decide)).mp c_6
      refine ln_if_eqF (tgt := 38) hx hb dX6_cut_14 (by decide) (by decide) ?_
      refine lv_iload_n hx hb dX6_cut_17 rfl (lv_at hl 3 rfl) ?_
      refine lv_iconst (v := nI 0) hx hb dX6_cut_18 (by decide) ?_
      refine lv_bipush (v := nI 99) hx hb dX6_cut_19 (by decide) ?_
      refine vp_callSi (W.runS (As := [.int x3, .int (nI 0), .int (nI 99)]) (rest := []) ⟨hx, hb, hml, hown, hts⟩ (k_X6_in l dC dI cI cZ x3 (nI 0) (nI 99)) (va_cwS 3 hts gX6_cut_X6_in rfl rfl rfl (by decide +kernel) ⟨Nat.le_of_ble_eq_true rfl, Nat.le_of_ble_eq_true rfl⟩) ln_preS0 rfl rfl hl.1 rfl (lv_room (Nat.le_of_ble_eq_true rfl)) dX6_cut_21 ⟨Nat.le_of_ble_eq_true rfl, Nat.le_of_ble_eq_true rfl⟩) (fun r_7 w_8 => ?_)
      rcases w_8 with ⟨rfl, c_9⟩ | ⟨rfl, c_9⟩
      · obtain ⟨k3, hk3, rfl⟩ := (in_isN (k := 99) (by decide)).mp c_9
        refine ln_if_eqF (tgt := 38) hx hb dX6_cut_24 (by decide) (by decide) ?_
        refine lv_iload hx hb dX6_cut_27 (lv_at hl 4 rfl) ?_
        refine lv_iconst (v := nI 0) hx hb dX6_cut_29 (by decide) ?_
        refine lv_bipush (v := nI 99) hx hb dX6_cut_30 (by decide) ?_
        refine vp_callSi (W.runS (As := [.int x4, .int (nI 0), .int (nI 99)]) (rest := []) ⟨hx, hb, hml, hown, hts⟩ (k_X6_in l dC dI cI cZ x4 (nI 0) (nI 99)) (va_cwS 3 hts gX6_cut_X6_in rfl rfl rfl (by decide +kernel) ⟨Nat.le_of_ble_eq_true rfl, Nat.le_of_ble_eq_true rfl⟩) ln_preS0 rfl rfl hl.1 rfl (lv_room (Nat.le_of_ble_eq_true rfl)) dX6_cut_32 ⟨Nat.le_of_ble_eq_true rfl, Nat.le_of_ble_eq_true rfl⟩) (fun r_10 w_11 => ?_)
        rcases w_11 with ⟨rfl, c_12⟩ | ⟨rfl, c_12⟩
        · obtain ⟨k4, hk4, rfl⟩ := (in_isN (k := 99) (by decide)).mp c_12
          refine ln_if_neT (tgt := 40) hx hb dX6_cut_35 (by decide) (by decide) ?_
          refine lv_aload_n hx hb dX6_cut_40 rfl (lv_at hl 0 rfl) ?_
          refine va_get (D := (dC, dI)) (ci := 6) (v := .ref aMc) (C := RX6) (T := TX6) (N := 20) hx hb hts mX6_cut_inX6 hown hK hP 0 rfl rfl 4 (by decide) (hts (.fieldLink RX6 19 "LeafOrderModel" "cutBegin" "[I") mX6_cut_0) (fun _ h9 => h9) rfl dX6_cut_41 ?_
          refine lv_iconst (v := nI 2) hx hb dX6_cut_44 (by decide) ?_
          refine lv_iload_n hx hb dX6_cut_45 rfl (lv_at hl 1 rfl) ?_
          refine ln_imul hx hb dX6_cut_46 ?_
          refine lv_iload_n hx hb dX6_cut_47 rfl (lv_at hl 2 rfl) ?_
          refine ln_iadd hx hb dX6_cut_48 ?_
          refine lv_iload_n hx hb dX6_cut_49 rfl (lv_at hl 3 rfl) ?_
          refine ln_iast (i := (2 * k1) + k2) hx hb hK hP hD hS 1 0 rfl rfl (by omega) (by decide) dX6_cut_50 (fun H locs hP hD hS => ?_)
          have b_13 : ∀ k, (upN fc ((2 * k1) + k2) k3) k ≤ 99 := upN_le bLc (by omega)
          have hP : va_P (dC, dI) vwCl [(aM, .inr (6, [.int (nI nL), .ref aMb, .ref aMe, .ref aMw, .ref aMc, .ref aMd, .ref aMs, .ref aMz, .int (nI mt), .ref aMA, .ref aMJ, .ref aMl, .ref aM2, .int ba, .int bb, .int (nI u1), .int (nI u2), .ref aMp, .ref aMt, .int (nI pt)])), (aMc, .inl (cI, 18, .inl (nF (upN fc ((2 * k1) + k2) k3)))), (aMd, .inl (cI, 18, .inl (nF fd)))] H := hP
          have hD : va_D A [(aM, .inr (6, [.int (nI nL), .ref aMb, .ref aMe, .ref aMw, .ref aMc, .ref aMd, .ref aMs, .ref aMz, .int (nI mt), .ref aMA, .ref aMJ, .ref aMl, .ref aM2, .int ba, .int bb, .int (nI u1), .int (nI u2), .ref aMp, .ref aMt, .int (nI pt)])), (aMc, .inl (cI, 18, .inl (nF (upN fc ((2 * k1) + k2) k3)))), (aMd, .inl (cI, 18, .inl (nF fd)))] := hD
          refine lv_aload_n hx hb dX6_cut_51 rfl (lv_at hl 0 rfl) ?_
          refine va_get (D := (dC, dI)) (ci := 6) (v := .ref aMd) (C := RX6) (T := TX6) (N := 20) hx hb hts mX6_cut_inX6 hown hK hP 0 rfl rfl 5 (by decide) (hts (.fieldLink RX6 22 "LeafOrderModel" "cutEnd" "[I") mX6_cut_2) (fun _ h9 => h9) rfl dX6_cut_52 ?_
          refine lv_iconst (v := nI 2) hx hb dX6_cut_55 (by decide) ?_
          refine lv_iload_n hx hb dX6_cut_56 rfl (lv_at hl 1 rfl) ?_
          refine ln_imul hx hb dX6_cut_57 ?_
          refine lv_iload_n hx hb dX6_cut_58 rfl (lv_at hl 2 rfl) ?_
          refine ln_iadd hx hb dX6_cut_59 ?_
          refine lv_iload hx hb dX6_cut_60 (lv_at hl 4 rfl) ?_
          refine ln_iast (i := (2 * k1) + k2) hx hb hK hP hD hS 2 0 rfl rfl (by omega) (by decide) dX6_cut_62 (fun H locs hP hD hS => ?_)
          have b_14 : ∀ k, (upN fd ((2 * k1) + k2) k4) k ≤ 99 := upN_le bLd (by omega)
          have hP : va_P (dC, dI) vwCl [(aM, .inr (6, [.int (nI nL), .ref aMb, .ref aMe, .ref aMw, .ref aMc, .ref aMd, .ref aMs, .ref aMz, .int (nI mt), .ref aMA, .ref aMJ, .ref aMl, .ref aM2, .int ba, .int bb, .int (nI u1), .int (nI u2), .ref aMp, .ref aMt, .int (nI pt)])), (aMc, .inl (cI, 18, .inl (nF (upN fc ((2 * k1) + k2) k3)))), (aMd, .inl (cI, 18, .inl (nF (upN fd ((2 * k1) + k2) k4))))] H := hP
          have hD : va_D A [(aM, .inr (6, [.int (nI nL), .ref aMb, .ref aMe, .ref aMw, .ref aMc, .ref aMd, .ref aMs, .ref aMz, .int (nI mt), .ref aMA, .ref aMJ, .ref aMl, .ref aM2, .int ba, .int bb, .int (nI u1), .int (nI u2), .ref aMp, .ref aMt, .int (nI pt)])), (aMc, .inl (cI, 18, .inl (nF (upN fc ((2 * k1) + k2) k3)))), (aMd, .inl (cI, 18, .inl (nF (upN fd ((2 * k1) + k2) k4))))] := hD
          refine lv_iconst (v := nI 1) hx hb dX6_cut_63 (by decide) ?_
          have hC : pc_cut nL (nI k1) (nI k2) (nI k3) (nI k4) := ⟨⟨k1, hk1, rfl⟩, ⟨k2, hk2, rfl⟩, ⟨k3, hk3, rfl⟩, ⟨k4, hk4, rfl⟩⟩
          exact W.zret (v := (nI 1)) hx hb hr (by decide) (fun t ht hW => ⟨⟨(nI 1), (upN fc ((2 * k1) + k2) k3, upN fd ((2 * k1) + k2) k4), rfl, ⟨(cif_t hC).symm, (by rw [cif_t hC, tn_nI (show k1 < 2 ^ 31 by omega), tn_nI (show k2 < 2 ^ 31 by omega), tn_nI (show k3 < 2 ^ 31 by omega)]), (by rw [cif_t hC, tn_nI (show k1 < 2 ^ 31 by omega), tn_nI (show k2 < 2 ^ 31 by omega), tn_nI (show k4 < 2 ^ 31 by omega)]), b_13, b_14⟩, by rw [ht]; exact hP, hD⟩, hS.F ht⟩) hS.2.2 dX6_cut_64
        · have c_15 : ¬ isN x4 100 := fun q => c_12 ((in_isN (k := 99) (by decide)).mpr q)
          refine ln_if_neF (tgt := 40) hx hb dX6_cut_35 (by decide) (by decide) ?_
          refine lv_iconst (v := nI 0) hx hb dX6_cut_38 (by decide) ?_
          have hC : ¬ pc_cut nL (nI k1) (nI k2) (nI k3) x4 := (fun q => c_15 q.2.2.2)
          exact W.zret (v := (nI 0)) hx hb hr (by decide) (fun t ht hW => ⟨⟨(nI 0), (fc, fd), rfl, ⟨(cif_f hC).symm, (cif_f hC).symm, (cif_f hC).symm, bLc, bLd⟩, by rw [ht]; exact hP, hD⟩, hS.F ht⟩) hS.2.2 dX6_cut_39
      · have c_16 : ¬ isN x3 100 := fun q => c_9 ((in_isN (k := 99) (by decide)).mpr q)
        refine ln_if_eqT (tgt := 38) hx hb dX6_cut_24 (by decide) (by decide) ?_
        refine lv_iconst (v := nI 0) hx hb dX6_cut_38 (by decide) ?_
        have hC : ¬ pc_cut nL (nI k1) (nI k2) x3 x4 := (fun q => c_16 q.2.2.1)
        exact W.zret (v := (nI 0)) hx hb hr (by decide) (fun t ht hW => ⟨⟨(nI 0), (fc, fd), rfl, ⟨(cif_f hC).symm, (cif_f hC).symm, (cif_f hC).symm, bLc, bLd⟩, by rw [ht]; exact hP, hD⟩, hS.F ht⟩) hS.2.2 dX6_cut_39
    · have c_17 : ¬ isN x2 2 := fun q => c_6 ((in_isN (k := 1) (by decide)).mpr q)
      refine ln_if_eqT (tgt := 38) hx hb dX6_cut_14 (by decide) (by decide) ?_
      refine lv_iconst (v := nI 0) hx hb dX6_cut_38 (by decide) ?_
      have hC : ¬ pc_cut nL (nI k1) x2 x3 x4 := (fun q => c_17 q.2.1)
      exact W.zret (v := (nI 0)) hx hb hr (by decide) (fun t ht hW => ⟨⟨(nI 0), (fc, fd), rfl, ⟨(cif_f hC).symm, (cif_f hC).symm, (cif_f hC).symm, bLc, bLd⟩, by rw [ht]; exact hP, hD⟩, hS.F ht⟩) hS.2.2 dX6_cut_39
  · refine ln_if_eqT (tgt := 38) hx hb dX6_cut_5 (by decide) (by decide) ?_
    refine lv_iconst (v := nI 0) hx hb dX6_cut_38 (by decide) ?_
    have hC : ¬ pc_cut nL x1 x2 x3 x4 := (fun q => c_3 q.1)
    exact W.zret (v := (nI 0)) hx hb hr (by decide) (fun t ht hW => ⟨⟨(nI 0), (fc, fd), rfl, ⟨(cif_f hC).symm, (cif_f hC).symm, (cif_f hC).symm, bLc, bLd⟩, by rw [ht]; exact hP, hD⟩, hS.F ht⟩) hS.2.2 dX6_cut_39
theorem mX6_stain_0 : Cond.fieldLink RX6 25 "LeafOrderModel" "stain" "[I" ∈ wsX6_stain := by decide +kernel
theorem mX6_stain_inX6 : ∀ w ∈ wsX60, w ∈ wsX6_stain := by decide +kernel
set_option maxHeartbeats 4000000 in
set_option maxRecDepth 100000 in
theorem k_X6_stain (l : Launch) (dC : Nat → ClassId) (dI : Nat → Nat → Nat) (cI cZ : ClassId) (aM aMb aMe aMw aMc aMd aMs aMz aMA aMJ aMl aM2 aMp aMt : Nat) (nL : Nat) (mt : Nat) (ba : Int32) (bb : Int32) (u1 : Nat) (u2 : Nat) (pt : Nat) (fs : Nat → Nat) (x1 : Int32) (x2 : Int32) (x3 : Int32) (sz : Nat) (bLs : ∀ k, fs k ≤ 99) (hn : nL ≤ 9) : Met l yX6_stain wsX6_stain { frames := 2, cells := 0, slots := 0, locals := 43 } (va_Pc [.ref aM, .int x1, .int x2, .int x3] (fun U => U.heap.size = sz ∧ va_P (dC, dI) vwCl [(aM, .inr (6, [.int (nI nL), .ref aMb, .ref aMe, .ref aMw, .ref aMc, .ref aMd, .ref aMs, .ref aMz, .int (nI mt), .ref aMA, .ref aMJ, .ref aMl, .ref aM2, .int ba, .int bb, .int (nI u1), .int (nI u2), .ref aMp, .ref aMt, .int (nI pt)])), (aMs, .inl (cI, 27, .inl (nF fs)))] U.heap ∧ lK dC dI cI cZ U ∧ va_D (fun _ => True) [(aM, .inr (6, [.int (nI nL), .ref aMb, .ref aMe, .ref aMw, .ref aMc, .ref aMd, .ref aMs, .ref aMz, .int (nI mt), .ref aMA, .ref aMJ, .ref aMl, .ref aM2, .int ba, .int bb, .int (nI u1), .int (nI u2), .ref aMp, .ref aMt, .int (nI pt)])), (aMs, .inl (cI, 27, .inl (nF fs)))])) (va_Qi (fun (r : Int32) (fsz : (Nat → Nat)) => r = cif (pc_stain nL x1 x2 x3) (nI 1) (nI 0) ∧ fsz = cif (pc_stain nL x1 x2 x3) (upN fs (3 * tn x1 + tn x2) (tn x3)) fs ∧ (∀ k, fsz k ≤ 99)) (fun (fsz : (Nat → Nat)) (t : State) => va_P (dC, dI) vwCl [(aM, .inr (6, [.int (nI nL), .ref aMb, .ref aMe, .ref aMw, .ref aMc, .ref aMd, .ref aMs, .ref aMz, .int (nI mt), .ref aMA, .ref aMJ, .ref aMl, .ref aM2, .int ba, .int bb, .int (nI u1), .int (nI u2), .ref aMp, .ref aMt, .int (nI pt)])), (aMs, .inl (cI, 27, .inl (nF fsz)))] t.heap ∧ va_D (va_A [(aM, .inr (6, [.int (nI nL), .ref aMb, .ref aMe, .ref aMw, .ref aMc, .ref aMd, .ref aMs, .ref aMz, .int (nI mt), .ref aMA, .ref aMJ, .ref aMl, .ref aM2, .int ba, .int bb, .int (nI u1), .int (nI u2), .ref aMp, .ref aMt, .int (nI pt)])), (aMs, .inl (cI, 27, .inl (nF fs)))] sz) [(aM, .inr (6, [.int (nI nL), .ref aMb, .ref aMe, .ref aMw, .ref aMc, .ref aMd, .ref aMs, .ref aMz, .int (nI mt), .ref aMA, .ref aMJ, .ref aMl, .ref aM2, .int ba, .int bb, .int (nI u1), .int (nI u2), .ref aMp, .ref aMt, .int (nI pt)])), (aMs, .inl (cI, 27, .inl (nF fsz)))]) (va_A [(aM, .inr (6, [.int (nI nL), .ref aMb, .ref aMe, .ref aMw, .ref aMc, .ref aMd, .ref aMs, .ref aMz, .int (nI mt), .ref aMA, .ref aMJ, .ref aMl, .ref aM2, .int ba, .int bb, .int (nI u1), .int (nI u2), .ref aMp, .ref aMt, .int (nI pt)])), (aMs, .inl (cI, 27, .inl (nF fs)))] sz)) 0 0 (va_A [(aM, .inr (6, [.int (nI nL), .ref aMb, .ref aMe, .ref aMw, .ref aMc, .ref aMd, .ref aMs, .ref aMz, .int (nI mt), .ref aMA, .ref aMJ, .ref aMl, .ref aM2, .int ba, .int bb, .int (nI u1), .int (nI u2), .ref aMp, .ref aMt, .int (nI pt)])), (aMs, .inl (cI, 27, .inl (nF fs)))] sz) := by
  refine Met.ofW (cc := cX6_stain) (maxL := 4) (ret := (some .boolean)) (by decide) rfl ?_
  intro p e s m args below meth c s₁ B hml hv
  obtain ⟨rfl, hsz, hP, hKK, hD0⟩ := hv
  have hK := hKK.1
  have hx := B.exec
  have hb := B.bytes
  have hr := B.returns
  have hts := atoms_spec (ws := wsX6_stain) B.pre
  have hown : s.vm.findClass RX6 = some m.cls := findClass_of_methodNamed B.named
  have hlocks := B.notSynchronized
  subst hsz
  have hD := hD0.self (sz := s.heap.size)
  generalize hAe : va_A [(aM, .inr (6, [.int (nI nL), .ref aMb, .ref aMe, .ref aMw, .ref aMc, .ref aMd, .ref aMs, .ref aMz, .int (nI mt), .ref aMA, .ref aMJ, .ref aMl, .ref aM2, .int ba, .int bb, .int (nI u1), .int (nI u2), .ref aMp, .ref aMt, .int (nI pt)])), (aMs, .inl (cI, 27, .inl (nF fs)))] s.heap.size = A at hD ⊢
  have hA : ∀ q : Nat, s.heap.size ≤ q → A q := fun q h => by rw [← hAe]; exact Or.inr h
  have hS : va_S A s.heap s.heap [] := va_S.rf
  have hl := lv_entry ([.ref aM, .int x1, .int x2, .int x3]) (n := 4) (Nat.le_of_ble_eq_true rfl)
  rw [lg_entry_eq]
  generalize (lg_sl ([.ref aM, .int x1, .int x2, .int x3]) ++ List.replicate (4 - (lg_sl ([.ref aM, .int x1, .int x2, .int x3])).length) Slot.unset).toArray = ls at hl ⊢
  have hl : lv_has ls 4 [(0, .ref aM), (1, .int x1), (2, .int x2), (3, .int x3)] := hl
  refine lv_aload_n hx hb dX6_stain_0 rfl (lv_at hl 0 rfl) ?_
  refine lv_iload_n hx hb dX6_stain_1 rfl (lv_at hl 1 rfl) ?_
  have hPc := hP.sub (ws' := [(aM, .inr (6, [.int (nI nL), .ref aMb, .ref aMe, .ref aMw, .ref aMc, .ref aMd, .ref aMs, .ref aMz, .int (nI mt), .ref aMA, .ref aMJ, .ref aMl, .ref aM2, .int ba, .int bb, .int (nI u1), .int (nI u2), .ref aMp, .ref aMt, .int (nI pt)]))]) [0] rfl
  refine vp_callSi (W.runV (As := [.int x1]) (rest := []) ⟨hx, hb, hml, hown, hts⟩ (k_X6_isLeaf l dC dI cI cZ aM aMb aMe aMw aMc aMd aMs aMz aMA aMJ aMl aM2 aMp aMt nL mt ba bb u1 u2 pt x1 (by omega)) (cwV 1 hts gX6_stain_X6_isLeaf rfl rfl rfl (by decide +kernel) ⟨Nat.le_of_ble_eq_true rfl, Nat.le_of_ble_eq_true rfl⟩) (ln_preV (q0 := 0) (ci := 6) hPc hKK rfl rfl) rfl rfl hl.1 rfl (lv_room (Nat.le_of_ble_eq_true rfl)) dX6_stain_2 ⟨Nat.le_of_ble_eq_true rfl, Nat.le_of_ble_eq_true rfl⟩) (fun r_1 w_2 => ?_)
  rcases w_2 with ⟨rfl, c_3⟩ | ⟨rfl, c_3⟩
  · obtain ⟨k1, hk1, rfl⟩ := c_3
    refine ln_if_eqF (tgt := 27) hx hb dX6_stain_5 (by decide) (by decide) ?_
    refine lv_iload_n hx hb dX6_stain_8 rfl (lv_at hl 2 rfl) ?_
    refine lv_iconst (v := nI 0) hx hb dX6_stain_9 (by decide) ?_
    refine lv_iconst (v := nI 2) hx hb dX6_stain_10 (by decide) ?_
    refine vp_callSi (W.runS (As := [.int x2, .int (nI 0), .int (nI 2)]) (rest := []) ⟨hx, hb, hml, hown, hts⟩ (k_X6_in l dC dI cI cZ x2 (nI 0) (nI 2)) (va_cwS 3 hts gX6_stain_X6_in rfl rfl rfl (by decide +kernel) ⟨Nat.le_of_ble_eq_true rfl, Nat.le_of_ble_eq_true rfl⟩) ln_preS0 rfl rfl hl.1 rfl (lv_room (Nat.le_of_ble_eq_true rfl)) dX6_stain_11 ⟨Nat.le_of_ble_eq_true rfl, Nat.le_of_ble_eq_true rfl⟩) (fun r_4 w_5 => ?_)
    rcases w_5 with ⟨rfl, c_6⟩ | ⟨rfl, c_6⟩
    · obtain ⟨k2, hk2, rfl⟩ := (in_isN (k := 2) (by decide)).mp c_6
      refine ln_if_eqF (tgt := 27) hx hb dX6_stain_14 (by decide) (by decide) ?_
      refine lv_iload_n hx hb dX6_stain_17 rfl (lv_at hl 3 rfl) ?_
      refine lv_iconst (v := nI 0) hx hb dX6_stain_18 (by decide) ?_
      refine lv_bipush (v := nI 99) hx hb dX6_stain_19 (by decide) ?_
      refine vp_callSi (W.runS (As := [.int x3, .int (nI 0), .int (nI 99)]) (rest := []) ⟨hx, hb, hml, hown, hts⟩ (k_X6_in l dC dI cI cZ x3 (nI 0) (nI 99)) (va_cwS 3 hts gX6_stain_X6_in rfl rfl rfl (by decide +kernel) ⟨Nat.le_of_ble_eq_true rfl, Nat.le_of_ble_eq_true rfl⟩) ln_preS0 rfl rfl hl.1 rfl (lv_room (Nat.le_of_ble_eq_true rfl)) dX6_stain_21 ⟨Nat.le_of_ble_eq_true rfl, Nat.le_of_ble_eq_true rfl⟩) (fun r_7 w_8 => ?_)
      rcases w_8 with ⟨rfl, c_9⟩ | ⟨rfl, c_9⟩
      · obtain ⟨k3, hk3, rfl⟩ := (in_isN (k := 99) (by decide)).mp c_9
        refine ln_if_neT (tgt := 29) hx hb dX6_stain_24 (by decide) (by decide) ?_
        refine lv_aload_n hx hb dX6_stain_29 rfl (lv_at hl 0 rfl) ?_
        refine va_get (D := (dC, dI)) (ci := 6) (v := .ref aMs) (C := RX6) (T := TX6) (N := 20) hx hb hts mX6_stain_inX6 hown hK hP 0 rfl rfl 6 (by decide) (hts (.fieldLink RX6 25 "LeafOrderModel" "stain" "[I") mX6_stain_0) (fun _ h9 => h9) rfl dX6_stain_30 ?_
        refine lv_iconst (v := nI 3) hx hb dX6_stain_33 (by decide) ?_
        refine lv_iload_n hx hb dX6_stain_34 rfl (lv_at hl 1 rfl) ?_
        refine ln_imul hx hb dX6_stain_35 ?_
        refine lv_iload_n hx hb dX6_stain_36 rfl (lv_at hl 2 rfl) ?_
        refine ln_iadd hx hb dX6_stain_37 ?_
        refine lv_iload_n hx hb dX6_stain_38 rfl (lv_at hl 3 rfl) ?_
        refine ln_iast (i := (3 * k1) + k2) hx hb hK hP hD hS 1 0 rfl rfl (by omega) (by decide) dX6_stain_39 (fun H locs hP hD hS => ?_)
        have b_10 : ∀ k, (upN fs ((3 * k1) + k2) k3) k ≤ 99 := upN_le bLs (by omega)
        have hP : va_P (dC, dI) vwCl [(aM, .inr (6, [.int (nI nL), .ref aMb, .ref aMe, .ref aMw, .ref aMc, .ref aMd, .ref aMs, .ref aMz, .int (nI mt), .ref aMA, .ref aMJ, .ref aMl, .ref aM2, .int ba, .int bb, .int (nI u1), .int (nI u2), .ref aMp, .ref aMt, .int (nI pt)])), (aMs, .inl (cI, 27, .inl (nF (upN fs ((3 * k1) + k2) k3))))] H := hP
        have hD : va_D A [(aM, .inr (6, [.int (nI nL), .ref aMb, .ref aMe, .ref aMw, .ref aMc, .ref aMd, .ref aMs, .ref aMz, .int (nI mt), .ref aMA, .ref aMJ, .ref aMl, .ref aM2, .int ba, .int bb, .int (nI u1), .int (nI u2), .ref aMp, .ref aMt, .int (nI pt)])), (aMs, .inl (cI, 27, .inl (nF (upN fs ((3 * k1) + k2) k3))))] := hD
        refine lv_iconst (v := nI 1) hx hb dX6_stain_40 (by decide) ?_
        have hC : pc_stain nL (nI k1) (nI k2) (nI k3) := ⟨⟨k1, hk1, rfl⟩, ⟨k2, hk2, rfl⟩, ⟨k3, hk3, rfl⟩⟩
        exact W.zret (v := (nI 1)) hx hb hr (by decide) (fun t ht hW => ⟨⟨(nI 1), (upN fs ((3 * k1) + k2) k3), rfl, ⟨(cif_t hC).symm, (by rw [cif_t hC, tn_nI (show k1 < 2 ^ 31 by omega), tn_nI (show k2 < 2 ^ 31 by omega), tn_nI (show k3 < 2 ^ 31 by omega)]), b_10⟩, by rw [ht]; exact hP, hD⟩, hS.F ht⟩) hS.2.2 dX6_stain_41
      · have c_11 : ¬ isN x3 100 := fun q => c_9 ((in_isN (k := 99) (by decide)).mpr q)
        refine ln_if_neF (tgt := 29) hx hb dX6_stain_24 (by decide) (by decide) ?_
        refine lv_iconst (v := nI 0) hx hb dX6_stain_27 (by decide) ?_
        have hC : ¬ pc_stain nL (nI k1) (nI k2) x3 := (fun q => c_11 q.2.2)
        exact W.zret (v := (nI 0)) hx hb hr (by decide) (fun t ht hW => ⟨⟨(nI 0), fs, rfl, ⟨(cif_f hC).symm, (cif_f hC).symm, bLs⟩, by rw [ht]; exact hP, hD⟩, hS.F ht⟩) hS.2.2 dX6_stain_28
    · have c_12 : ¬ isN x2 3 := fun q => c_6 ((in_isN (k := 2) (by decide)).mpr q)
      refine ln_if_eqT (tgt := 27) hx hb dX6_stain_14 (by decide) (by decide) ?_
      refine lv_iconst (v := nI 0) hx hb dX6_stain_27 (by decide) ?_
      have hC : ¬ pc_stain nL (nI k1) x2 x3 := (fun q => c_12 q.2.1)
      exact W.zret (v := (nI 0)) hx hb hr (by decide) (fun t ht hW => ⟨⟨(nI 0), fs, rfl, ⟨(cif_f hC).symm, (cif_f hC).symm, bLs⟩, by rw [ht]; exact hP, hD⟩, hS.F ht⟩) hS.2.2 dX6_stain_28
  · refine ln_if_eqT (tgt := 27) hx hb dX6_stain_5 (by decide) (by decide) ?_
    refine lv_iconst (v := nI 0) hx hb dX6_stain_27 (by decide) ?_
    have hC : ¬ pc_stain nL x1 x2 x3 := (fun q => c_3 q.1)
    exact W.zret (v := (nI 0)) hx hb hr (by decide) (fun t ht hW => ⟨⟨(nI 0), fs, rfl, ⟨(cif_f hC).symm, (cif_f hC).symm, bLs⟩, by rw [ht]; exact hP, hD⟩, hS.F ht⟩) hS.2.2 dX6_stain_28
theorem mX6_weights_0 : Cond.fieldLink RX6 28 "LeafOrderModel" "weight" "[I" ∈ wsX6_weights := by decide +kernel
theorem mX6_weights_inX6 : ∀ w ∈ wsX60, w ∈ wsX6_weights := by decide +kernel
set_option maxHeartbeats 4000000 in
set_option maxRecDepth 100000 in
theorem k_X6_weights (l : Launch) (dC : Nat → ClassId) (dI : Nat → Nat → Nat) (cI cZ : ClassId) (aM aMb aMe aMw aMc aMd aMs aMz aMA aMJ aMl aM2 aMp aMt : Nat) (nL : Nat) (mt : Nat) (ba : Int32) (bb : Int32) (u1 : Nat) (u2 : Nat) (pt : Nat) (fz : Nat → Nat) (x1 : Int32) (x2 : Int32) (x3 : Int32) (x4 : Int32) (x5 : Int32) (x6 : Int32) (sz : Nat) (bCz : ∀ k, fz k ≤ 999) : Met l yX6_weights wsX6_weights { frames := 1, cells := 0, slots := 0, locals := 22 } (va_Pc [.ref aM, .int x1, .int x2, .int x3, .int x4, .int x5, .int x6] (fun U => U.heap.size = sz ∧ va_P (dC, dI) vwCl [(aM, .inr (6, [.int (nI nL), .ref aMb, .ref aMe, .ref aMw, .ref aMc, .ref aMd, .ref aMs, .ref aMz, .int (nI mt), .ref aMA, .ref aMJ, .ref aMl, .ref aM2, .int ba, .int bb, .int (nI u1), .int (nI u2), .ref aMp, .ref aMt, .int (nI pt)])), (aMz, .inl (cI, 6, .inl (nF fz)))] U.heap ∧ lK dC dI cI cZ U ∧ va_D (fun _ => True) [(aM, .inr (6, [.int (nI nL), .ref aMb, .ref aMe, .ref aMw, .ref aMc, .ref aMd, .ref aMs, .ref aMz, .int (nI mt), .ref aMA, .ref aMJ, .ref aMl, .ref aM2, .int ba, .int bb, .int (nI u1), .int (nI u2), .ref aMp, .ref aMt, .int (nI pt)])), (aMz, .inl (cI, 6, .inl (nF fz)))])) (va_Qi (fun (r : Int32) (fzz : (Nat → Nat)) => r = cif (pc_weights x1 x2 x3 x4 x5 x6) (nI 1) (nI 0) ∧ fzz = cif (pc_weights x1 x2 x3 x4 x5 x6) (pw_fz fz x1 x2 x3 x4 x5 x6) fz ∧ (∀ k, fzz k ≤ 999)) (fun (fzz : (Nat → Nat)) (t : State) => va_P (dC, dI) vwCl [(aM, .inr (6, [.int (nI nL), .ref aMb, .ref aMe, .ref aMw, .ref aMc, .ref aMd, .ref aMs, .ref aMz, .int (nI mt), .ref aMA, .ref aMJ, .ref aMl, .ref aM2, .int ba, .int bb, .int (nI u1), .int (nI u2), .ref aMp, .ref aMt, .int (nI pt)])), (aMz, .inl (cI, 6, .inl (nF fzz)))] t.heap ∧ va_D (va_A [(aM, .inr (6, [.int (nI nL), .ref aMb, .ref aMe, .ref aMw, .ref aMc, .ref aMd, .ref aMs, .ref aMz, .int (nI mt), .ref aMA, .ref aMJ, .ref aMl, .ref aM2, .int ba, .int bb, .int (nI u1), .int (nI u2), .ref aMp, .ref aMt, .int (nI pt)])), (aMz, .inl (cI, 6, .inl (nF fz)))] sz) [(aM, .inr (6, [.int (nI nL), .ref aMb, .ref aMe, .ref aMw, .ref aMc, .ref aMd, .ref aMs, .ref aMz, .int (nI mt), .ref aMA, .ref aMJ, .ref aMl, .ref aM2, .int ba, .int bb, .int (nI u1), .int (nI u2), .ref aMp, .ref aMt, .int (nI pt)])), (aMz, .inl (cI, 6, .inl (nF fzz)))]) (va_A [(aM, .inr (6, [.int (nI nL), .ref aMb, .ref aMe, .ref aMw, .ref aMc, .ref aMd, .ref aMs, .ref aMz, .int (nI mt), .ref aMA, .ref aMJ, .ref aMl, .ref aM2, .int ba, .int bb, .int (nI u1), .int (nI u2), .ref aMp, .ref aMt, .int (nI pt)])), (aMz, .inl (cI, 6, .inl (nF fz)))] sz)) 0 0 (va_A [(aM, .inr (6, [.int (nI nL), .ref aMb, .ref aMe, .ref aMw, .ref aMc, .ref aMd, .ref aMs, .ref aMz, .int (nI mt), .ref aMA, .ref aMJ, .ref aMl, .ref aM2, .int ba, .int bb, .int (nI u1), .int (nI u2), .ref aMp, .ref aMt, .int (nI pt)])), (aMz, .inl (cI, 6, .inl (nF fz)))] sz) := by
  refine Met.ofW (cc := cX6_weights) (maxL := 7) (ret := (some .boolean)) (by decide) rfl ?_
  intro p e s m args below meth c s₁ B hml hv
  obtain ⟨rfl, hsz, hP, hKK, hD0⟩ := hv
  have hK := hKK.1
  have hx := B.exec
  have hb := B.bytes
  have hr := B.returns
  have hts := atoms_spec (ws := wsX6_weights) B.pre
  have hown : s.vm.findClass RX6 = some m.cls := findClass_of_methodNamed B.named
  have hlocks := B.notSynchronized
  subst hsz
  have hD := hD0.self (sz := s.heap.size)
  generalize hAe : va_A [(aM, .inr (6, [.int (nI nL), .ref aMb, .ref aMe, .ref aMw, .ref aMc, .ref aMd, .ref aMs, .ref aMz, .int (nI mt), .ref aMA, .ref aMJ, .ref aMl, .ref aM2, .int ba, .int bb, .int (nI u1), .int (nI u2), .ref aMp, .ref aMt, .int (nI pt)])), (aMz, .inl (cI, 6, .inl (nF fz)))] s.heap.size = A at hD ⊢
  have hA : ∀ q : Nat, s.heap.size ≤ q → A q := fun q h => by rw [← hAe]; exact Or.inr h
  have hS : va_S A s.heap s.heap [] := va_S.rf
  have hl := lv_entry ([.ref aM, .int x1, .int x2, .int x3, .int x4, .int x5, .int x6]) (n := 7) (Nat.le_of_ble_eq_true rfl)
  rw [lg_entry_eq]
  generalize (lg_sl ([.ref aM, .int x1, .int x2, .int x3, .int x4, .int x5, .int x6]) ++ List.replicate (7 - (lg_sl ([.ref aM, .int x1, .int x2, .int x3, .int x4, .int x5, .int x6])).length) Slot.unset).toArray = ls at hl ⊢
  have hl : lv_has ls 7 [(0, .ref aM), (1, .int x1), (2, .int x2), (3, .int x3), (4, .int x4), (5, .int x5), (6, .int x6)] := hl
  refine lv_iload_n hx hb dX6_weights_0 rfl (lv_at hl 1 rfl) ?_
  refine lv_iconst (v := nI 0) hx hb dX6_weights_1 (by decide) ?_
  refine lv_bipush (v := nI 9) hx hb dX6_weights_2 (by decide) ?_
  refine vp_callSi (W.runS (As := [.int x1, .int (nI 0), .int (nI 9)]) (rest := []) ⟨hx, hb, hml, hown, hts⟩ (k_X6_in l dC dI cI cZ x1 (nI 0) (nI 9)) (va_cwS 3 hts gX6_weights_X6_in rfl rfl rfl (by decide +kernel) ⟨Nat.le_of_ble_eq_true rfl, Nat.le_of_ble_eq_true rfl⟩) ln_preS0 rfl rfl hl.1 rfl (lv_room (Nat.le_of_ble_eq_true rfl)) dX6_weights_4 ⟨Nat.le_of_ble_eq_true rfl, Nat.le_of_ble_eq_true rfl⟩) (fun r_1 w_2 => ?_)
  rcases w_2 with ⟨rfl, c_3⟩ | ⟨rfl, c_3⟩
  · obtain ⟨k1, hk1, rfl⟩ := (in_isN (k := 9) (by decide)).mp c_3
    refine ln_if_eqF (tgt := 64) hx hb dX6_weights_7 (by decide) (by decide) ?_
    refine lv_iload_n hx hb dX6_weights_10 rfl (lv_at hl 2 rfl) ?_
    refine lv_iconst (v := nI 0) hx hb dX6_weights_11 (by decide) ?_
    refine lv_bipush (v := nI 9) hx hb dX6_weights_12 (by decide) ?_
    refine vp_callSi (W.runS (As := [.int x2, .int (nI 0), .int (nI 9)]) (rest := []) ⟨hx, hb, hml, hown, hts⟩ (k_X6_in l dC dI cI cZ x2 (nI 0) (nI 9)) (va_cwS 3 hts gX6_weights_X6_in rfl rfl rfl (by decide +kernel) ⟨Nat.le_of_ble_eq_true rfl, Nat.le_of_ble_eq_true rfl⟩) ln_preS0 rfl rfl hl.1 rfl (lv_room (Nat.le_of_ble_eq_true rfl)) dX6_weights_14 ⟨Nat.le_of_ble_eq_true rfl, Nat.le_of_ble_eq_true rfl⟩) (fun r_4 w_5 => ?_)
    rcases w_5 with ⟨rfl, c_6⟩ | ⟨rfl, c_6⟩
    · obtain ⟨k2, hk2, rfl⟩ := (in_isN (k := 9) (by decide)).mp c_6
      refine ln_if_eqF (tgt := 64) hx hb dX6_weights_17 (by decide) (by decide) ?_
      refine lv_iload_n hx hb dX6_weights_20 rfl (lv_at hl 3 rfl) ?_
      refine lv_iconst (v := nI 0) hx hb dX6_weights_21 (by decide) ?_
      refine lv_bipush (v := nI 99) hx hb dX6_weights_22 (by decide) ?_
      refine vp_callSi (W.runS (As := [.int x3, .int (nI 0), .int (nI 99)]) (rest := []) ⟨hx, hb, hml, hown, hts⟩ (k_X6_in l dC dI cI cZ x3 (nI 0) (nI 99)) (va_cwS 3 hts gX6_weights_X6_in rfl rfl rfl (by decide +kernel) ⟨Nat.le_of_ble_eq_true rfl, Nat.le_of_ble_eq_true rfl⟩) ln_preS0 rfl rfl hl.1 rfl (lv_room (Nat.le_of_ble_eq_true rfl)) dX6_weights_24 ⟨Nat.le_of_ble_eq_true rfl, Nat.le_of_ble_eq_true rfl⟩) (fun r_7 w_8 => ?_)
      rcases w_8 with ⟨rfl, c_9⟩ | ⟨rfl, c_9⟩
      · obtain ⟨k3, hk3, rfl⟩ := (in_isN (k := 99) (by decide)).mp c_9
        refine ln_if_eqF (tgt := 64) hx hb dX6_weights_27 (by decide) (by decide) ?_
        refine lv_iload hx hb dX6_weights_30 (lv_at hl 4 rfl) ?_
        refine lv_iconst (v := nI 0) hx hb dX6_weights_32 (by decide) ?_
        refine lv_bipush (v := nI 99) hx hb dX6_weights_33 (by decide) ?_
        refine vp_callSi (W.runS (As := [.int x4, .int (nI 0), .int (nI 99)]) (rest := []) ⟨hx, hb, hml, hown, hts⟩ (k_X6_in l dC dI cI cZ x4 (nI 0) (nI 99)) (va_cwS 3 hts gX6_weights_X6_in rfl rfl rfl (by decide +kernel) ⟨Nat.le_of_ble_eq_true rfl, Nat.le_of_ble_eq_true rfl⟩) ln_preS0 rfl rfl hl.1 rfl (lv_room (Nat.le_of_ble_eq_true rfl)) dX6_weights_35 ⟨Nat.le_of_ble_eq_true rfl, Nat.le_of_ble_eq_true rfl⟩) (fun r_10 w_11 => ?_)
        rcases w_11 with ⟨rfl, c_12⟩ | ⟨rfl, c_12⟩
        · obtain ⟨k4, hk4, rfl⟩ := (in_isN (k := 99) (by decide)).mp c_12
          refine ln_if_eqF (tgt := 64) hx hb dX6_weights_38 (by decide) (by decide) ?_
          refine lv_iload hx hb dX6_weights_41 (lv_at hl 5 rfl) ?_
          refine lv_iconst (v := nI 0) hx hb dX6_weights_43 (by decide) ?_
          refine lv_bipush (v := nI 99) hx hb dX6_weights_44 (by decide) ?_
          refine vp_callSi (W.runS (As := [.int x5, .int (nI 0), .int (nI 99)]) (rest := []) ⟨hx, hb, hml, hown, hts⟩ (k_X6_in l dC dI cI cZ x5 (nI 0) (nI 99)) (va_cwS 3 hts gX6_weights_X6_in rfl rfl rfl (by decide +kernel) ⟨Nat.le_of_ble_eq_true rfl, Nat.le_of_ble_eq_true rfl⟩) ln_preS0 rfl rfl hl.1 rfl (lv_room (Nat.le_of_ble_eq_true rfl)) dX6_weights_46 ⟨Nat.le_of_ble_eq_true rfl, Nat.le_of_ble_eq_true rfl⟩) (fun r_13 w_14 => ?_)
          rcases w_14 with ⟨rfl, c_15⟩ | ⟨rfl, c_15⟩
          · obtain ⟨k5, hk5, rfl⟩ := (in_isN (k := 99) (by decide)).mp c_15
            refine ln_if_eqF (tgt := 64) hx hb dX6_weights_49 (by decide) (by decide) ?_
            refine lv_iload hx hb dX6_weights_52 (lv_at hl 6 rfl) ?_
            refine lv_iconst (v := nI 0) hx hb dX6_weights_54 (by decide) ?_
            refine lv_sipush (v := nI 999) hx hb dX6_weights_55 (by decide) ?_
            refine vp_callSi (W.runS (As := [.int x6, .int (nI 0), .int (nI 999)]) (rest := []) ⟨hx, hb, hml, hown, hts⟩ (k_X6_in l dC dI cI cZ x6 (nI 0) (nI 999)) (va_cwS 3 hts gX6_weights_X6_in rfl rfl rfl (by decide +kernel) ⟨Nat.le_of_ble_eq_true rfl, Nat.le_of_ble_eq_true rfl⟩) ln_preS0 rfl rfl hl.1 rfl (lv_room (Nat.le_of_ble_eq_true rfl)) dX6_weights_58 ⟨Nat.le_of_ble_eq_true rfl, Nat.le_of_ble_eq_true rfl⟩) (fun r_16 w_17 => ?_)
            rcases w_17 with ⟨rfl, c_18⟩ | ⟨rfl, c_18⟩
            · obtain ⟨k6, hk6, rfl⟩ := (in_isN (k := 999) (by decide)).mp c_18
              refine ln_if_neT (tgt := 66) hx hb dX6_weights_61 (by decide) (by decide) ?_
              refine lv_aload_n hx hb dX6_weights_66 rfl (lv_at hl 0 rfl) ?_
              refine va_get (D := (dC, dI)) (ci := 6) (v := .ref aMz) (C := RX6) (T := TX6) (N := 20) hx hb hts mX6_weights_inX6 hown hK hP 0 rfl rfl 7 (by decide) (hts (.fieldLink RX6 28 "LeafOrderModel" "weight" "[I") mX6_weights_0) (fun _ h9 => h9) rfl dX6_weights_67 ?_
              refine lv_iconst (v := nI 0) hx hb dX6_weights_70 (by decide) ?_
              refine lv_iload_n hx hb dX6_weights_71 rfl (lv_at hl 1 rfl) ?_
              refine ln_iast (i := 0) hx hb hK hP hD hS 1 0 rfl rfl (by omega) (by decide) dX6_weights_72 (fun H locs hP hD hS => ?_)
              have b_19 : ∀ k, (upN fz 0 k1) k ≤ 999 := upN_le bCz (by omega)
              have hP : va_P (dC, dI) vwCl [(aM, .inr (6, [.int (nI nL), .ref aMb, .ref aMe, .ref aMw, .ref aMc, .ref aMd, .ref aMs, .ref aMz, .int (nI mt), .ref aMA, .ref aMJ, .ref aMl, .ref aM2, .int ba, .int bb, .int (nI u1), .int (nI u2), .ref aMp, .ref aMt, .int (nI pt)])), (aMz, .inl (cI, 6, .inl (nF (upN fz 0 k1))))] H := hP
              have hD : va_D A [(aM, .inr (6, [.int (nI nL), .ref aMb, .ref aMe, .ref aMw, .ref aMc, .ref aMd, .ref aMs, .ref aMz, .int (nI mt), .ref aMA, .ref aMJ, .ref aMl, .ref aM2, .int ba, .int bb, .int (nI u1), .int (nI u2), .ref aMp, .ref aMt, .int (nI pt)])), (aMz, .inl (cI, 6, .inl (nF (upN fz 0 k1))))] := hD
              refine lv_aload_n hx hb dX6_weights_73 rfl (lv_at hl 0 rfl) ?_
              refine va_get (D := (dC, dI)) (ci := 6) (v := .ref aMz) (C := RX6) (T := TX6) (N := 20) hx hb hts mX6_weights_inX6 hown hK hP 0 rfl rfl 7 (by decide) (hts (.fieldLink RX6 28 "LeafOrderModel" "weight" "[I") mX6_weights_0) (fun _ h9 => h9) rfl dX6_weights_74 ?_
              refine lv_iconst (v := nI 1) hx hb dX6_weights_77 (by decide) ?_
              refine lv_iload_n hx hb dX6_weights_78 rfl (lv_at hl 2 rfl) ?_
              refine ln_iast (i := 1) hx hb hK hP hD hS 1 0 rfl rfl (by omega) (by decide) dX6_weights_79 (fun H locs hP hD hS => ?_)
              have b_20 : ∀ k, (upN (upN fz 0 k1) 1 k2) k ≤ 999 := upN_le b_19 (by omega)
              have hP : va_P (dC, dI) vwCl [(aM, .inr (6, [.int (nI nL), .ref aMb, .ref aMe, .ref aMw, .ref aMc, .ref aMd, .ref aMs, .ref aMz, .int (nI mt), .ref aMA, .ref aMJ, .ref aMl, .ref aM2, .int ba, .int bb, .int (nI u1), .int (nI u2), .ref aMp, .ref aMt, .int (nI pt)])), (aMz, .inl (cI, 6, .inl (nF (upN (upN fz 0 k1) 1 k2))))] H := hP
              have hD : va_D A [(aM, .inr (6, [.int (nI nL), .ref aMb, .ref aMe, .ref aMw, .ref aMc, .ref aMd, .ref aMs, .ref aMz, .int (nI mt), .ref aMA, .ref aMJ, .ref aMl, .ref aM2, .int ba, .int bb, .int (nI u1), .int (nI u2), .ref aMp, .ref aMt, .int (nI pt)])), (aMz, .inl (cI, 6, .inl (nF (upN (upN fz 0 k1) 1 k2))))] := hD
              refine lv_aload_n hx hb dX6_weights_80 rfl (lv_at hl 0 rfl) ?_
              refine va_get (D := (dC, dI)) (ci := 6) (v := .ref aMz) (C := RX6) (T := TX6) (N := 20) hx hb hts mX6_weights_inX6 hown hK hP 0 rfl rfl 7 (by decide) (hts (.fieldLink RX6 28 "LeafOrderModel" "weight" "[I") mX6_weights_0) (fun _ h9 => h9) rfl dX6_weights_81 ?_
              refine lv_iconst (v := nI 2) hx hb dX6_weights_84 (by decide) ?_
              refine lv_iload_n hx hb dX6_weights_85 rfl (lv_at hl 3 rfl) ?_
              refine ln_iast (i := 2) hx hb hK hP hD hS 1 0 rfl rfl (by omega) (by decide) dX6_weights_86 (fun H locs hP hD hS => ?_)
              have b_21 : ∀ k, (upN (upN (upN fz 0 k1) 1 k2) 2 k3) k ≤ 999 := upN_le b_20 (by omega)
              have hP : va_P (dC, dI) vwCl [(aM, .inr (6, [.int (nI nL), .ref aMb, .ref aMe, .ref aMw, .ref aMc, .ref aMd, .ref aMs, .ref aMz, .int (nI mt), .ref aMA, .ref aMJ, .ref aMl, .ref aM2, .int ba, .int bb, .int (nI u1), .int (nI u2), .ref aMp, .ref aMt, .int (nI pt)])), (aMz, .inl (cI, 6, .inl (nF (upN (upN (upN fz 0 k1) 1 k2) 2 k3))))] H := hP
              have hD : va_D A [(aM, .inr (6, [.int (nI nL), .ref aMb, .ref aMe, .ref aMw, .ref aMc, .ref aMd, .ref aMs, .ref aMz, .int (nI mt), .ref aMA, .ref aMJ, .ref aMl, .ref aM2, .int ba, .int bb, .int (nI u1), .int (nI u2), .ref aMp, .ref aMt, .int (nI pt)])), (aMz, .inl (cI, 6, .inl (nF (upN (upN (upN fz 0 k1) 1 k2) 2 k3))))] := hD
              refine lv_aload_n hx hb dX6_weights_87 rfl (lv_at hl 0 rfl) ?_
              refine va_get (D := (dC, dI)) (ci := 6) (v := .ref aMz) (C := RX6) (T := TX6) (N := 20) hx hb hts mX6_weights_inX6 hown hK hP 0 rfl rfl 7 (by decide) (hts (.fieldLink RX6 28 "LeafOrderModel" "weight" "[I") mX6_weights_0) (fun _ h9 => h9) rfl dX6_weights_88 ?_
              refine lv_iconst (v := nI 3) hx hb dX6_weights_91 (by decide) ?_
              refine lv_iload hx hb dX6_weights_92 (lv_at hl 4 rfl) ?_
              refine ln_iast (i := 3) hx hb hK hP hD hS 1 0 rfl rfl (by omega) (by decide) dX6_weights_94 (fun H locs hP hD hS => ?_)
              have b_22 : ∀ k, (upN (upN (upN (upN fz 0 k1) 1 k2) 2 k3) 3 k4) k ≤ 999 := upN_le b_21 (by omega)
              have hP : va_P (dC, dI) vwCl [(aM, .inr (6, [.int (nI nL), .ref aMb, .ref aMe, .ref aMw, .ref aMc, .ref aMd, .ref aMs, .ref aMz, .int (nI mt), .ref aMA, .ref aMJ, .ref aMl, .ref aM2, .int ba, .int bb, .int (nI u1), .int (nI u2), .ref aMp, .ref aMt, .int (nI pt)])), (aMz, .inl (cI, 6, .inl (nF (upN (upN (upN (upN fz 0 k1) 1 k2) 2 k3) 3 k4))))] H := hP
              have hD : va_D A [(aM, .inr (6, [.int (nI nL), .ref aMb, .ref aMe, .ref aMw, .ref aMc, .ref aMd, .ref aMs, .ref aMz, .int (nI mt), .ref aMA, .ref aMJ, .ref aMl, .ref aM2, .int ba, .int bb, .int (nI u1), .int (nI u2), .ref aMp, .ref aMt, .int (nI pt)])), (aMz, .inl (cI, 6, .inl (nF (upN (upN (upN (upN fz 0 k1) 1 k2) 2 k3) 3 k4))))] := hD
              refine lv_aload_n hx hb dX6_weights_95 rfl (lv_at hl 0 rfl) ?_
              refine va_get (D := (dC, dI)) (ci := 6) (v := .ref aMz) (C := RX6) (T := TX6) (N := 20) hx hb hts mX6_weights_inX6 hown hK hP 0 rfl rfl 7 (by decide) (hts (.fieldLink RX6 28 "LeafOrderModel" "weight" "[I") mX6_weights_0) (fun _ h9 => h9) rfl dX6_weights_96 ?_
              refine lv_iconst (v := nI 4) hx hb dX6_weights_99 (by decide) ?_
              refine lv_iload hx hb dX6_weights_100 (lv_at hl 5 rfl) ?_
              refine ln_iast (i := 4) hx hb hK hP hD hS 1 0 rfl rfl (by omega) (by decide) dX6_weights_102 (fun H locs hP hD hS => ?_)
              have b_23 : ∀ k, (upN (upN (upN (upN (upN fz 0 k1) 1 k2) 2 k3) 3 k4) 4 k5) k ≤ 999 := upN_le b_22 (by omega)
              have hP : va_P (dC, dI) vwCl [(aM, .inr (6, [.int (nI nL), .ref aMb, .ref aMe, .ref aMw, .ref aMc, .ref aMd, .ref aMs, .ref aMz, .int (nI mt), .ref aMA, .ref aMJ, .ref aMl, .ref aM2, .int ba, .int bb, .int (nI u1), .int (nI u2), .ref aMp, .ref aMt, .int (nI pt)])), (aMz, .inl (cI, 6, .inl (nF (upN (upN (upN (upN (upN fz 0 k1) 1 k2) 2 k3) 3 k4) 4 k5))))] H := hP
              have hD : va_D A [(aM, .inr (6, [.int (nI nL), .ref aMb, .ref aMe, .ref aMw, .ref aMc, .ref aMd, .ref aMs, .ref aMz, .int (nI mt), .ref aMA, .ref aMJ, .ref aMl, .ref aM2, .int ba, .int bb, .int (nI u1), .int (nI u2), .ref aMp, .ref aMt, .int (nI pt)])), (aMz, .inl (cI, 6, .inl (nF (upN (upN (upN (upN (upN fz 0 k1) 1 k2) 2 k3) 3 k4) 4 k5))))] := hD
              refine lv_aload_n hx hb dX6_weights_103 rfl (lv_at hl 0 rfl) ?_
              refine va_get (D := (dC, dI)) (ci := 6) (v := .ref aMz) (C := RX6) (T := TX6) (N := 20) hx hb hts mX6_weights_inX6 hown hK hP 0 rfl rfl 7 (by decide) (hts (.fieldLink RX6 28 "LeafOrderModel" "weight" "[I") mX6_weights_0) (fun _ h9 => h9) rfl dX6_weights_104 ?_
              refine lv_iconst (v := nI 5) hx hb dX6_weights_107 (by decide) ?_
              refine lv_iload hx hb dX6_weights_108 (lv_at hl 6 rfl) ?_
              refine ln_iast (i := 5) hx hb hK hP hD hS 1 0 rfl rfl (by omega) (by decide) dX6_weights_110 (fun H locs hP hD hS => ?_)
              have b_24 : ∀ k, (upN (upN (upN (upN (upN (upN fz 0 k1) 1 k2) 2 k3) 3 k4) 4 k5) 5 k6) k ≤ 999 := upN_le b_23 (by omega)
              have hP : va_P (dC, dI) vwCl [(aM, .inr (6, [.int (nI nL), .ref aMb, .ref aMe, .ref aMw, .ref aMc, .ref aMd, .ref aMs, .ref aMz, .int (nI mt), .ref aMA, .ref aMJ, .ref aMl, .ref aM2, .int ba, .int bb, .int (nI u1), .int (nI u2), .ref aMp, .ref aMt, .int (nI pt)])), (aMz, .inl (cI, 6, .inl (nF (upN (upN (upN (upN (upN (upN fz 0 k1) 1 k2) 2 k3) 3 k4) 4 k5) 5 k6))))] H := hP
              have hD : va_D A [(aM, .inr (6, [.int (nI nL), .ref aMb, .ref aMe, .ref aMw, .ref aMc, .ref aMd, .ref aMs, .ref aMz, .int (nI mt), .ref aMA, .ref aMJ, .ref aMl, .ref aM2, .int ba, .int bb, .int (nI u1), .int (nI u2), .ref aMp, .ref aMt, .int (nI pt)])), (aMz, .inl (cI, 6, .inl (nF (upN (upN (upN (upN (upN (upN fz 0 k1) 1 k2) 2 k3) 3 k4) 4 k5) 5 k6))))] := hD
              refine lv_iconst (v := nI 1) hx hb dX6_weights_111 (by decide) ?_
              have hC : pc_weights (nI k1) (nI k2) (nI k3) (nI k4) (nI k5) (nI k6) := ⟨⟨k1, hk1, rfl⟩, ⟨k2, hk2, rfl⟩, ⟨k3, hk3, rfl⟩, ⟨k4, hk4, rfl⟩, ⟨k5, hk5, rfl⟩, ⟨k6, hk6, rfl⟩⟩
              exact W.zret (v := (nI 1)) hx hb hr (by decide) (fun t ht hW => ⟨⟨(nI 1), (upN (upN (upN (upN (upN (upN fz 0 k1) 1 k2) 2 k3) 3 k4) 4 k5) 5 k6), rfl, ⟨(cif_t hC).symm, (by rw [cif_t hC]; unfold pw_fz; rw [tn_nI (show k1 < 2 ^ 31 by omega), tn_nI (show k2 < 2 ^ 31 by omega), tn_nI (show k3 < 2 ^ 31 by omega), tn_nI (show k4 < 2 ^ 31 by omega), tn_nI (show k5 < 2 ^ 31 by omega), tn_nI (show k6 < 2 ^ 31 by omega)]), b_24⟩, by rw [ht]; exact hP, hD⟩, hS.F ht⟩) hS.2.2 dX6_weights_112
            · have c_25 : ¬ isN x6 1000 := fun q => c_18 ((in_isN (k := 999) (by decide)).mpr q)
              refine ln_if_neF (tgt := 66) hx hb dX6_weights_61 (by decide) (by decide) ?_
              refine lv_iconst (v := nI 0) hx hb dX6_weights_64 (by decide) ?_
              have hC : ¬ pc_weights (nI k1) (nI k2) (nI k3) (nI k4) (nI k5) x6 := (fun q => c_25 q.2.2.2.2.2)
              exact W.zret (v := (nI 0)) hx hb hr (by decide) (fun t ht hW => ⟨⟨(nI 0), fz, rfl, ⟨(cif_f hC).symm, (cif_f hC).symm, bCz⟩, by rw [ht]; exact hP, hD⟩, hS.F ht⟩) hS.2.2 dX6_weights_65
          · have c_26 : ¬ isN x5 100 := fun q => c_15 ((in_isN (k := 99) (by decide)).mpr q)
            refine ln_if_eqT (tgt := 64) hx hb dX6_weights_49 (by decide) (by decide) ?_
            refine lv_iconst (v := nI 0) hx hb dX6_weights_64 (by decide) ?_
            have hC : ¬ pc_weights (nI k1) (nI k2) (nI k3) (nI k4) x5 x6 := (fun q => c_26 q.2.2.2.2.1)
            exact W.zret (v := (nI 0)) hx hb hr (by decide) (fun t ht hW => ⟨⟨(nI 0), fz, rfl, ⟨(cif_f hC).symm, (cif_f hC).symm, bCz⟩, by rw [ht]; exact hP, hD⟩, hS.F ht⟩) hS.2.2 dX6_weights_65
        · have c_27 : ¬ isN x4 100 := fun q => c_12 ((in_isN (k := 99) (by decide)).mpr q)
          refine ln_if_eqT (tgt := 64) hx hb dX6_weights_38 (by decide) (by decide) ?_
          refine lv_iconst (v := nI 0) hx hb dX6_weights_64 (by decide) ?_
          have hC : ¬ pc_weights (nI k1) (nI k2) (nI k3) x4 x5 x6 := (fun q => c_27 q.2.2.2.1)
          exact W.zret (v := (nI 0)) hx hb hr (by decide) (fun t ht hW => ⟨⟨(nI 0), fz, rfl, ⟨(cif_f hC).symm, (cif_f hC).symm, bCz⟩, by rw [ht]; exact hP, hD⟩, hS.F ht⟩) hS.2.2 dX6_weights_65
      · have c_28 : ¬ isN x3 100 := fun q => c_9 ((in_isN (k := 99) (by decide)).mpr q)
        refine ln_if_eqT (tgt := 64) hx hb dX6_weights_27 (by decide) (by decide) ?_
        refine lv_iconst (v := nI 0) hx hb dX6_weights_64 (by decide) ?_
        have hC : ¬ pc_weights (nI k1) (nI k2) x3 x4 x5 x6 := (fun q => c_28 q.2.2.1)
        exact W.zret (v := (nI 0)) hx hb hr (by decide) (fun t ht hW => ⟨⟨(nI 0), fz, rfl, ⟨(cif_f hC).symm, (cif_f hC).symm, bCz⟩, by rw [ht]; exact hP, hD⟩, hS.F ht⟩) hS.2.2 dX6_weights_65
    · have c_29 : ¬ isN x2 10 := fun q => c_6 ((in_isN (k := 9) (by decide)).mpr q)
      refine ln_if_eqT (tgt := 64) hx hb dX6_weights_17 (by decide) (by decide) ?_
      refine lv_iconst (v := nI 0) hx hb dX6_weights_64 (by decide) ?_
      have hC : ¬ pc_weights (nI k1) x2 x3 x4 x5 x6 := (fun q => c_29 q.2.1)
      exact W.zret (v := (nI 0)) hx hb hr (by decide) (fun t ht hW => ⟨⟨(nI 0), fz, rfl, ⟨(cif_f hC).symm, (cif_f hC).symm, bCz⟩, by rw [ht]; exact hP, hD⟩, hS.F ht⟩) hS.2.2 dX6_weights_65
  · have c_30 : ¬ isN x1 10 := fun q => c_3 ((in_isN (k := 9) (by decide)).mpr q)
    refine ln_if_eqT (tgt := 64) hx hb dX6_weights_7 (by decide) (by decide) ?_
    refine lv_iconst (v := nI 0) hx hb dX6_weights_64 (by decide) ?_
    have hC : ¬ pc_weights x1 x2 x3 x4 x5 x6 := (fun q => c_30 q.1)
    exact W.zret (v := (nI 0)) hx hb hr (by decide) (fun t ht hW => ⟨⟨(nI 0), fz, rfl, ⟨(cif_f hC).symm, (cif_f hC).symm, bCz⟩, by rw [ht]; exact hP, hD⟩, hS.F ht⟩) hS.2.2 dX6_weights_65
theorem mX6_turnable_0 : Cond.fieldLink RX6 31 "LeafOrderModel" "mayTurn" "Z" ∈ wsX6_turnable := by decide +kernel
theorem mX6_turnable_inX6 : ∀ w ∈ wsX60, w ∈ wsX6_turnable := by decide +kernel
set_option maxHeartbeats 4000000 in
set_option maxRecDepth 100000 in
theorem k_X6_turnable (l : Launch) (dC : Nat → ClassId) (dI : Nat → Nat → Nat) (cI cZ : ClassId) (aM aMb aMe aMw aMc aMd aMs aMz aMA aMJ aMl aM2 aMp aMt : Nat) (nL : Nat) (mt : Nat) (ba : Int32) (bb : Int32) (u1 : Nat) (u2 : Nat) (pt : Nat) (q1 : Nat) (sz : Nat) (h1 : q1 < 2) : Met l yX6_turnable wsX6_turnable { frames := 0, cells := 0, slots := 0, locals := 0 } (va_Pc [.ref aM, .int (nI q1)] (fun U => U.heap.size = sz ∧ va_P (dC, dI) vwCl [(aM, .inr (6, [.int (nI nL), .ref aMb, .ref aMe, .ref aMw, .ref aMc, .ref aMd, .ref aMs, .ref aMz, .int (nI mt), .ref aMA, .ref aMJ, .ref aMl, .ref aM2, .int ba, .int bb, .int (nI u1), .int (nI u2), .ref aMp, .ref aMt, .int (nI pt)]))] U.heap ∧ lK dC dI cI cZ U ∧ va_D (fun _ => True) [(aM, .inr (6, [.int (nI nL), .ref aMb, .ref aMe, .ref aMw, .ref aMc, .ref aMd, .ref aMs, .ref aMz, .int (nI mt), .ref aMA, .ref aMJ, .ref aMl, .ref aM2, .int ba, .int bb, .int (nI u1), .int (nI u2), .ref aMp, .ref aMt, .int (nI pt)]))])) (va_Qv (fun (mtz : (Nat)) => mtz = q1) (fun (mtz : (Nat)) (t : State) => va_P (dC, dI) vwCl [(aM, .inr (6, [.int (nI nL), .ref aMb, .ref aMe, .ref aMw, .ref aMc, .ref aMd, .ref aMs, .ref aMz, .int (nI mtz), .ref aMA, .ref aMJ, .ref aMl, .ref aM2, .int ba, .int bb, .int (nI u1), .int (nI u2), .ref aMp, .ref aMt, .int (nI pt)]))] t.heap ∧ va_D (va_A [(aM, .inr (6, [.int (nI nL), .ref aMb, .ref aMe, .ref aMw, .ref aMc, .ref aMd, .ref aMs, .ref aMz, .int (nI mt), .ref aMA, .ref aMJ, .ref aMl, .ref aM2, .int ba, .int bb, .int (nI u1), .int (nI u2), .ref aMp, .ref aMt, .int (nI pt)]))] sz) [(aM, .inr (6, [.int (nI nL), .ref aMb, .ref aMe, .ref aMw, .ref aMc, .ref aMd, .ref aMs, .ref aMz, .int (nI mtz), .ref aMA, .ref aMJ, .ref aMl, .ref aM2, .int ba, .int bb, .int (nI u1), .int (nI u2), .ref aMp, .ref aMt, .int (nI pt)]))]) (va_A [(aM, .inr (6, [.int (nI nL), .ref aMb, .ref aMe, .ref aMw, .ref aMc, .ref aMd, .ref aMs, .ref aMz, .int (nI mt), .ref aMA, .ref aMJ, .ref aMl, .ref aM2, .int ba, .int bb, .int (nI u1), .int (nI u2), .ref aMp, .ref aMt, .int (nI pt)]))] sz)) 0 0 (va_A [(aM, .inr (6, [.int (nI nL), .ref aMb, .ref aMe, .ref aMw, .ref aMc, .ref aMd, .ref aMs, .ref aMz, .int (nI mt), .ref aMA, .ref aMJ, .ref aMl, .ref aM2, .int ba, .int bb, .int (nI u1), .int (nI u2), .ref aMp, .ref aMt, .int (nI pt)]))] sz) := by
  refine Met.ofW (cc := cX6_turnable) (maxL := 2) (ret := none) (by decide) rfl ?_
  intro p e s m args below meth c s₁ B hml hv
  obtain ⟨rfl, hsz, hP, hKK, hD0⟩ := hv
  have hK := hKK.1
  have hx := B.exec
  have hb := B.bytes
  have hr := B.returns
  have hts := atoms_spec (ws := wsX6_turnable) B.pre
  have hown : s.vm.findClass RX6 = some m.cls := findClass_of_methodNamed B.named
  have hlocks := B.notSynchronized
  subst hsz
  have hD := hD0.self (sz := s.heap.size)
  generalize hAe : va_A [(aM, .inr (6, [.int (nI nL), .ref aMb, .ref aMe, .ref aMw, .ref aMc, .ref aMd, .ref aMs, .ref aMz, .int (nI mt), .ref aMA, .ref aMJ, .ref aMl, .ref aM2, .int ba, .int bb, .int (nI u1), .int (nI u2), .ref aMp, .ref aMt, .int (nI pt)]))] s.heap.size = A at hD ⊢
  have hA : ∀ q : Nat, s.heap.size ≤ q → A q := fun q h => by rw [← hAe]; exact Or.inr h
  have hS : va_S A s.heap s.heap [] := va_S.rf
  have hl := lv_entry ([.ref aM, .int (nI q1)]) (n := 2) (Nat.le_of_ble_eq_true rfl)
  rw [lg_entry_eq]
  generalize (lg_sl ([.ref aM, .int (nI q1)]) ++ List.replicate (2 - (lg_sl ([.ref aM, .int (nI q1)])).length) Slot.unset).toArray = ls at hl ⊢
  have hl : lv_has ls 2 [(0, .ref aM), (1, .int (nI q1))] := hl
  rcases (show q1 = 0 ∨ q1 = 1 by omega) with rfl | rfl
  · refine lv_aload_n hx hb dX6_turnable_0 rfl (lv_at hl 0 rfl) ?_
    refine lv_iload_n hx hb dX6_turnable_1 rfl (lv_at hl 1 rfl) ?_
    refine va_put (D := (dC, dI)) (ci := 6) (v := .int (nI 0)) (ty := .boolean) (C := RX6) (T := TX6) (N := 20) hx hb hts mX6_turnable_inX6 tyX6 tyX6_ok nmX6 hown hK hP hD hS 0 rfl rfl 8 (by decide) (hts (.fieldLink RX6 31 "LeafOrderModel" "mayTurn" "Z") mX6_turnable_0) (fun _ h9 => h9) rfl (by decide +kernel) rfl rfl (Nat.le_of_ble_eq_true rfl) dX6_turnable_2 (fun H locs hP hD hS => ?_)
    have hP : va_P (dC, dI) vwCl [(aM, .inr (6, [.int (nI nL), .ref aMb, .ref aMe, .ref aMw, .ref aMc, .ref aMd, .ref aMs, .ref aMz, .int (nI 0), .ref aMA, .ref aMJ, .ref aMl, .ref aM2, .int ba, .int bb, .int (nI u1), .int (nI u2), .ref aMp, .ref aMt, .int (nI pt)]))] H := hP
    have hD : va_D A [(aM, .inr (6, [.int (nI nL), .ref aMb, .ref aMe, .ref aMw, .ref aMc, .ref aMd, .ref aMs, .ref aMz, .int (nI 0), .ref aMA, .ref aMJ, .ref aMl, .ref aM2, .int ba, .int bb, .int (nI u1), .int (nI u2), .ref aMp, .ref aMt, .int (nI pt)]))] := hD
    exact W.vret hx hb hr (fun t ht hW => ⟨⟨0, rfl, rfl, by rw [ht]; exact hP, hD⟩, hS.F ht⟩) hS.2.2 dX6_turnable_5
  · refine lv_aload_n hx hb dX6_turnable_0 rfl (lv_at hl 0 rfl) ?_
    refine lv_iload_n hx hb dX6_turnable_1 rfl (lv_at hl 1 rfl) ?_
    refine va_put (D := (dC, dI)) (ci := 6) (v := .int (nI 1)) (ty := .boolean) (C := RX6) (T := TX6) (N := 20) hx hb hts mX6_turnable_inX6 tyX6 tyX6_ok nmX6 hown hK hP hD hS 0 rfl rfl 8 (by decide) (hts (.fieldLink RX6 31 "LeafOrderModel" "mayTurn" "Z") mX6_turnable_0) (fun _ h9 => h9) rfl (by decide +kernel) rfl rfl (Nat.le_of_ble_eq_true rfl) dX6_turnable_2 (fun H locs hP hD hS => ?_)
    have hP : va_P (dC, dI) vwCl [(aM, .inr (6, [.int (nI nL), .ref aMb, .ref aMe, .ref aMw, .ref aMc, .ref aMd, .ref aMs, .ref aMz, .int (nI 1), .ref aMA, .ref aMJ, .ref aMl, .ref aM2, .int ba, .int bb, .int (nI u1), .int (nI u2), .ref aMp, .ref aMt, .int (nI pt)]))] H := hP
    have hD : va_D A [(aM, .inr (6, [.int (nI nL), .ref aMb, .ref aMe, .ref aMw, .ref aMc, .ref aMd, .ref aMs, .ref aMz, .int (nI 1), .ref aMA, .ref aMJ, .ref aMl, .ref aM2, .int ba, .int bb, .int (nI u1), .int (nI u2), .ref aMp, .ref aMt, .int (nI pt)]))] := hD
    exact W.vret hx hb hr (fun t ht hW => ⟨⟨1, rfl, rfl, by rw [ht]; exact hP, hD⟩, hS.F ht⟩) hS.2.2 dX6_turnable_5
theorem mX6_must_0 : Cond.fieldLink RX6 35 "LeafOrderModel" "isAhead" "[Z" ∈ wsX6_must := by decide +kernel
theorem mX6_must_inX6 : ∀ w ∈ wsX60, w ∈ wsX6_must := by decide +kernel
theorem mX6_must_2 : Cond.fieldLink RX6 39 "LeafOrderModel" "isJoined" "[Z" ∈ wsX6_must := by decide +kernel
set_option maxHeartbeats 4000000 in
set_option maxRecDepth 100000 in
theorem k_X6_must (l : Launch) (dC : Nat → ClassId) (dI : Nat → Nat → Nat) (cI cZ : ClassId) (aM aMb aMe aMw aMc aMd aMs aMz aMA aMJ aMl aM2 aMp aMt : Nat) (nL : Nat) (mt : Nat) (ba : Int32) (bb : Int32) (u1 : Nat) (u2 : Nat) (pt : Nat) (gA : Nat → Nat) (gJ : Nat → Nat) (x1 : Int32) (x2 : Int32) (q3 : Nat) (q4 : Nat) (sz : Nat) (bMA : ∀ k, gA k ≤ 1) (bMJ : ∀ k, gJ k ≤ 1) (hn : nL ≤ 9) (h3 : q3 < 2) (h4 : q4 < 2) : Met l yX6_must wsX6_must { frames := 2, cells := 0, slots := 0, locals := 43 } (va_Pc [.ref aM, .int x1, .int x2, .int (nI q3), .int (nI q4)] (fun U => U.heap.size = sz ∧ va_P (dC, dI) vwCl [(aM, .inr (6, [.int (nI nL), .ref aMb, .ref aMe, .ref aMw, .ref aMc, .ref aMd, .ref aMs, .ref aMz, .int (nI mt), .ref aMA, .ref aMJ, .ref aMl, .ref aM2, .int ba, .int bb, .int (nI u1), .int (nI u2), .ref aMp, .ref aMt, .int (nI pt)])), (aMA, .inl (cZ, 81, .inl (nF gA))), (aMJ, .inl (cZ, 81, .inl (nF gJ)))] U.heap ∧ lK dC dI cI cZ U ∧ va_D (fun _ => True) [(aM, .inr (6, [.int (nI nL), .ref aMb, .ref aMe, .ref aMw, .ref aMc, .ref aMd, .ref aMs, .ref aMz, .int (nI mt), .ref aMA, .ref aMJ, .ref aMl, .ref aM2, .int ba, .int bb, .int (nI u1), .int (nI u2), .ref aMp, .ref aMt, .int (nI pt)])), (aMA, .inl (cZ, 81, .inl (nF gA))), (aMJ, .inl (cZ, 81, .inl (nF gJ)))])) (va_Qi (fun (r : Int32) (u : (Nat → Nat) × (Nat → Nat)) => match u with | (gAz, gJz) => r = cif (pc_pair nL x1 x2) (nI 1) (nI 0) ∧ gAz = cif (pc_pair nL x1 x2 ∧ q3 = 0) (upN gA (9 * tn x1 + tn x2) q4) gA ∧ gJz = cif (pc_pair nL x1 x2 ∧ ¬ q3 = 0) (upN gJ (9 * tn x1 + tn x2) q4) gJ ∧ (∀ k, gAz k ≤ 1) ∧ (∀ k, gJz k ≤ 1)) (fun (u : (Nat → Nat) × (Nat → Nat)) (t : State) => match u with | (gAz, gJz) => va_P (dC, dI) vwCl [(aM, .inr (6, [.int (nI nL), .ref aMb, .ref aMe, .ref aMw, .ref aMc, .ref aMd, .ref aMs, .ref aMz, .int (nI mt), .ref aMA, .ref aMJ, .ref aMl, .ref aM2, .int ba, .int bb, .int (nI u1), .int (nI u2), .ref aMp, .ref aMt, .int (nI pt)])), (aMA, .inl (cZ, 81, .inl (nF gAz))), (aMJ, .inl (cZ, 81, .inl (nF gJz)))] t.heap ∧ va_D (va_A [(aM, .inr (6, [.int (nI nL), .ref aMb, .ref aMe, .ref aMw, .ref aMc, .ref aMd, .ref aMs, .ref aMz, .int (nI mt), .ref aMA, .ref aMJ, .ref aMl, .ref aM2, .int ba, .int bb, .int (nI u1), .int (nI u2), .ref aMp, .ref aMt, .int (nI pt)])), (aMA, .inl (cZ, 81, .inl (nF gA))), (aMJ, .inl (cZ, 81, .inl (nF gJ)))] sz) [(aM, .inr (6, [.int (nI nL), .ref aMb, .ref aMe, .ref aMw, .ref aMc, .ref aMd, .ref aMs, .ref aMz, .int (nI mt), .ref aMA, .ref aMJ, .ref aMl, .ref aM2, .int ba, .int bb, .int (nI u1), .int (nI u2), .ref aMp, .ref aMt, .int (nI pt)])), (aMA, .inl (cZ, 81, .inl (nF gAz))), (aMJ, .inl (cZ, 81, .inl (nF gJz)))]) (va_A [(aM, .inr (6, [.int (nI nL), .ref aMb, .ref aMe, .ref aMw, .ref aMc, .ref aMd, .ref aMs, .ref aMz, .int (nI mt), .ref aMA, .ref aMJ, .ref aMl, .ref aM2, .int ba, .int bb, .int (nI u1), .int (nI u2), .ref aMp, .ref aMt, .int (nI pt)])), (aMA, .inl (cZ, 81, .inl (nF gA))), (aMJ, .inl (cZ, 81, .inl (nF gJ)))] sz)) 0 0 (va_A [(aM, .inr (6, [.int (nI nL), .ref aMb, .ref aMe, .ref aMw, .ref aMc, .ref aMd, .ref aMs, .ref aMz, .int (nI mt), .ref aMA, .ref aMJ, .ref aMl, .ref aM2, .int ba, .int bb, .int (nI u1), .int (nI u2), .ref aMp, .ref aMt, .int (nI pt)])), (aMA, .inl (cZ, 81, .inl (nF gA))), (aMJ, .inl (cZ, 81, .inl (nF gJ)))] sz) := by
  refine Met.ofW (cc := cX6_must) (maxL := 5) (ret := (some .boolean)) (by decide) rfl ?_
  intro p e s m args below meth c s₁ B hml hv
  obtain ⟨rfl, hsz, hP, hKK, hD0⟩ := hv
  have hK := hKK.1
  have hx := B.exec
  have hb := B.bytes
  have hr := B.returns
  have hts := atoms_spec (ws := wsX6_must) B.pre
  have hown : s.vm.findClass RX6 = some m.cls := findClass_of_methodNamed B.named
  have hlocks := B.notSynchronized
  subst hsz
  have hD := hD0.self (sz := s.heap.size)
  generalize hAe : va_A [(aM, .inr (6, [.int (nI nL), .ref aMb, .ref aMe, .ref aMw, .ref aMc, .ref aMd, .ref aMs, .ref aMz, .int (nI mt), .ref aMA, .ref aMJ, .ref aMl, .ref aM2, .int ba, .int bb, .int (nI u1), .int (nI u2), .ref aMp, .ref aMt, .int (nI pt)])), (aMA, .inl (cZ, 81, .inl (nF gA))), (aMJ, .inl (cZ, 81, .inl (nF gJ)))] s.heap.size = A at hD ⊢
  have hA : ∀ q : Nat, s.heap.size ≤ q → A q := fun q h => by rw [← hAe]; exact Or.inr h
  have hS : va_S A s.heap s.heap [] := va_S.rf
  have hl := lv_entry ([.ref aM, .int x1, .int x2, .int (nI q3), .int (nI q4)]) (n := 5) (Nat.le_of_ble_eq_true rfl)
  rw [lg_entry_eq]
  generalize (lg_sl ([.ref aM, .int x1, .int x2, .int (nI q3), .int (nI q4)]) ++ List.replicate (5 - (lg_sl ([.ref aM, .int x1, .int x2, .int (nI q3), .int (nI q4)])).length) Slot.unset).toArray = ls at hl ⊢
  have hl : lv_has ls 5 [(0, .ref aM), (1, .int x1), (2, .int x2), (3, .int (nI q3)), (4, .int (nI q4))] := hl
  rcases (show q3 = 0 ∨ q3 = 1 by omega) with rfl | rfl
  · refine lv_aload_n hx hb dX6_must_0 rfl (lv_at hl 0 rfl) ?_
    refine lv_iload_n hx hb dX6_must_1 rfl (lv_at hl 1 rfl) ?_
    have hPc := hP.sub (ws' := [(aM, .inr (6, [.int (nI nL), .ref aMb, .ref aMe, .ref aMw, .ref aMc, .ref aMd, .ref aMs, .ref aMz, .int (nI mt), .ref aMA, .ref aMJ, .ref aMl, .ref aM2, .int ba, .int bb, .int (nI u1), .int (nI u2), .ref aMp, .ref aMt, .int (nI pt)]))]) [0] rfl
    refine vp_callSi (W.runV (As := [.int x1]) (rest := []) ⟨hx, hb, hml, hown, hts⟩ (k_X6_isLeaf l dC dI cI cZ aM aMb aMe aMw aMc aMd aMs aMz aMA aMJ aMl aM2 aMp aMt nL mt ba bb u1 u2 pt x1 (by omega)) (cwV 1 hts gX6_must_X6_isLeaf rfl rfl rfl (by decide +kernel) ⟨Nat.le_of_ble_eq_true rfl, Nat.le_of_ble_eq_true rfl⟩) (ln_preV (q0 := 0) (ci := 6) hPc hKK rfl rfl) rfl rfl hl.1 rfl (lv_room (Nat.le_of_ble_eq_true rfl)) dX6_must_2 ⟨Nat.le_of_ble_eq_true rfl, Nat.le_of_ble_eq_true rfl⟩) (fun r_1 w_2 => ?_)
    rcases w_2 with ⟨rfl, c_3⟩ | ⟨rfl, c_3⟩
    · obtain ⟨k1, hk1, rfl⟩ := c_3
      refine ln_if_eqF (tgt := 21) hx hb dX6_must_5 (by decide) (by decide) ?_
      refine lv_aload_n hx hb dX6_must_8 rfl (lv_at hl 0 rfl) ?_
      refine lv_iload_n hx hb dX6_must_9 rfl (lv_at hl 2 rfl) ?_
      have hPc := hP.sub (ws' := [(aM, .inr (6, [.int (nI nL), .ref aMb, .ref aMe, .ref aMw, .ref aMc, .ref aMd, .ref aMs, .ref aMz, .int (nI mt), .ref aMA, .ref aMJ, .ref aMl, .ref aM2, .int ba, .int bb, .int (nI u1), .int (nI u2), .ref aMp, .ref aMt, .int (nI pt)]))]) [0] rfl
      refine vp_callSi (W.runV (As := [.int x2]) (rest := []) ⟨hx, hb, hml, hown, hts⟩ (k_X6_isLeaf l dC dI cI cZ aM aMb aMe aMw aMc aMd aMs aMz aMA aMJ aMl aM2 aMp aMt nL mt ba bb u1 u2 pt x2 (by omega)) (cwV 1 hts gX6_must_X6_isLeaf rfl rfl rfl (by decide +kernel) ⟨Nat.le_of_ble_eq_true rfl, Nat.le_of_ble_eq_true rfl⟩) (ln_preV (q0 := 0) (ci := 6) hPc hKK rfl rfl) rfl rfl hl.1 rfl (lv_room (Nat.le_of_ble_eq_true rfl)) dX6_must_10 ⟨Nat.le_of_ble_eq_true rfl, Nat.le_of_ble_eq_true rfl⟩) (fun r_4 w_5 => ?_)
      rcases w_5 with ⟨rfl, c_6⟩ | ⟨rfl, c_6⟩
      · obtain ⟨k2, hk2, rfl⟩ := c_6
        refine ln_if_eqF (tgt := 21) hx hb dX6_must_13 (by decide) (by decide) ?_
        refine lv_iload_n hx hb dX6_must_16 rfl (lv_at hl 1 rfl) ?_
        refine lv_iload_n hx hb dX6_must_17 rfl (lv_at hl 2 rfl) ?_
        refine ln_icmp_ne (tgt := 23) hx hb dX6_must_18 (by decide) (by omega) (by omega) (fun c_7 => ?_) (fun c_7 => ?_)
        · refine lv_iload_n hx hb dX6_must_23 rfl (lv_at hl 3 rfl) ?_
          refine ln_if_eqT (tgt := 43) hx hb dX6_must_24 (by decide) (by decide) ?_
          refine lv_aload_n hx hb dX6_must_43 rfl (lv_at hl 0 rfl) ?_
          refine va_get (D := (dC, dI)) (ci := 6) (v := .ref aMA) (C := RX6) (T := TX6) (N := 20) hx hb hts mX6_must_inX6 hown hK hP 0 rfl rfl 9 (by decide) (hts (.fieldLink RX6 35 "LeafOrderModel" "isAhead" "[Z") mX6_must_0) (fun _ h9 => h9) rfl dX6_must_44 ?_
          refine lv_bipush (v := nI 9) hx hb dX6_must_47 (by decide) ?_
          refine lv_iload_n hx hb dX6_must_49 rfl (lv_at hl 1 rfl) ?_
          refine ln_imul hx hb dX6_must_50 ?_
          refine lv_iload_n hx hb dX6_must_51 rfl (lv_at hl 2 rfl) ?_
          refine ln_iadd hx hb dX6_must_52 ?_
          refine lv_iload hx hb dX6_must_53 (lv_at hl 4 rfl) ?_
          refine ln_zast (i := (9 * k1) + k2) hx hb hK hP hD hS 1 1 rfl rfl (by omega) (by decide) (by omega) dX6_must_55 (fun H locs hP hD hS => ?_)
          have b_8 : ∀ k, (upN gA ((9 * k1) + k2) q4) k ≤ 1 := upN_le bMA (by omega)
          have hP : va_P (dC, dI) vwCl [(aM, .inr (6, [.int (nI nL), .ref aMb, .ref aMe, .ref aMw, .ref aMc, .ref aMd, .ref aMs, .ref aMz, .int (nI mt), .ref aMA, .ref aMJ, .ref aMl, .ref aM2, .int ba, .int bb, .int (nI u1), .int (nI u2), .ref aMp, .ref aMt, .int (nI pt)])), (aMA, .inl (cZ, 81, .inl (nF (upN gA ((9 * k1) + k2) q4)))), (aMJ, .inl (cZ, 81, .inl (nF gJ)))] H := hP
          have hD : va_D A [(aM, .inr (6, [.int (nI nL), .ref aMb, .ref aMe, .ref aMw, .ref aMc, .ref aMd, .ref aMs, .ref aMz, .int (nI mt), .ref aMA, .ref aMJ, .ref aMl, .ref aM2, .int ba, .int bb, .int (nI u1), .int (nI u2), .ref aMp, .ref aMt, .int (nI pt)])), (aMA, .inl (cZ, 81, .inl (nF (upN gA ((9 * k1) + k2) q4)))), (aMJ, .inl (cZ, 81, .inl (nF gJ)))] := hD
          refine lv_iconst (v := nI 1) hx hb dX6_must_56 (by decide) ?_
          have hC : pc_pair nL (nI k1) (nI k2) := ⟨⟨k1, hk1, rfl⟩, ⟨k2, hk2, rfl⟩, fun q => c_7 ((nI_eq (by omega) (by omega)).mp q)⟩
          exact W.zret (v := (nI 1)) hx hb hr (by decide) (fun t ht hW => ⟨⟨(nI 1), (upN gA ((9 * k1) + k2) q4, gJ), rfl, ⟨(cif_t hC).symm, (by rw [cif_t ⟨hC, by decide⟩, tn_nI (show k1 < 2 ^ 31 by omega), tn_nI (show k2 < 2 ^ 31 by omega)]), (cif_f (fun q => absurd q.2 (by decide))).symm, b_8, bMJ⟩, by rw [ht]; exact hP, hD⟩, hS.F ht⟩) hS.2.2 dX6_must_57
        · refine lv_iconst (v := nI 0) hx hb dX6_must_21 (by decide) ?_
          have hC : ¬ pc_pair nL (nI k1) (nI k2) := (fun q => q.2.2 (by rw [c_7]))
          exact W.zret (v := (nI 0)) hx hb hr (by decide) (fun t ht hW => ⟨⟨(nI 0), (gA, gJ), rfl, ⟨(cif_f hC).symm, (cif_f (fun q => hC q.1)).symm, (cif_f (fun q => hC q.1)).symm, bMA, bMJ⟩, by rw [ht]; exact hP, hD⟩, hS.F ht⟩) hS.2.2 dX6_must_22
      · refine ln_if_eqT (tgt := 21) hx hb dX6_must_13 (by decide) (by decide) ?_
        refine lv_iconst (v := nI 0) hx hb dX6_must_21 (by decide) ?_
        have hC : ¬ pc_pair nL (nI k1) x2 := (fun q => c_6 q.2.1)
        exact W.zret (v := (nI 0)) hx hb hr (by decide) (fun t ht hW => ⟨⟨(nI 0), (gA, gJ), rfl, ⟨(cif_f hC).symm, (cif_f (fun q => hC q.1)).symm, (cif_f (fun q => hC q.1)).symm, bMA, bMJ⟩, by rw [ht]; exact hP, hD⟩, hS.F ht⟩) hS.2.2 dX6_must_22
    · refine ln_if_eqT (tgt := 21) hx hb dX6_must_5 (by decide) (by decide) ?_
      refine lv_iconst (v := nI 0) hx hb dX6_must_21 (by decide) ?_
      have hC : ¬ pc_pair nL x1 x2 := (fun q => c_3 q.1)
      exact W.zret (v := (nI 0)) hx hb hr (by decide) (fun t ht hW => ⟨⟨(nI 0), (gA, gJ), rfl, ⟨(cif_f hC).symm, (cif_f (fun q => hC q.1)).symm, (cif_f (fun q => hC q.1)).symm, bMA, bMJ⟩, by rw [ht]; exact hP, hD⟩, hS.F ht⟩) hS.2.2 dX6_must_22
  · refine lv_aload_n hx hb dX6_must_0 rfl (lv_at hl 0 rfl) ?_
    refine lv_iload_n hx hb dX6_must_1 rfl (lv_at hl 1 rfl) ?_
    have hPc := hP.sub (ws' := [(aM, .inr (6, [.int (nI nL), .ref aMb, .ref aMe, .ref aMw, .ref aMc, .ref aMd, .ref aMs, .ref aMz, .int (nI mt), .ref aMA, .ref aMJ, .ref aMl, .ref aM2, .int ba, .int bb, .int (nI u1), .int (nI u2), .ref aMp, .ref aMt, .int (nI pt)]))]) [0] rfl
    refine vp_callSi (W.runV (As := [.int x1]) (rest := []) ⟨hx, hb, hml, hown, hts⟩ (k_X6_isLeaf l dC dI cI cZ aM aMb aMe aMw aMc aMd aMs aMz aMA aMJ aMl aM2 aMp aMt nL mt ba bb u1 u2 pt x1 (by omega)) (cwV 1 hts gX6_must_X6_isLeaf rfl rfl rfl (by decide +kernel) ⟨Nat.le_of_ble_eq_true rfl, Nat.le_of_ble_eq_true rfl⟩) (ln_preV (q0 := 0) (ci := 6) hPc hKK rfl rfl) rfl rfl hl.1 rfl (lv_room (Nat.le_of_ble_eq_true rfl)) dX6_must_2 ⟨Nat.le_of_ble_eq_true rfl, Nat.le_of_ble_eq_true rfl⟩) (fun r_9 w_10 => ?_)
    rcases w_10 with ⟨rfl, c_11⟩ | ⟨rfl, c_11⟩
    · obtain ⟨k1, hk1, rfl⟩ := c_11
      refine ln_if_eqF (tgt := 21) hx hb dX6_must_5 (by decide) (by decide) ?_
      refine lv_aload_n hx hb dX6_must_8 rfl (lv_at hl 0 rfl) ?_
      refine lv_iload_n hx hb dX6_must_9 rfl (lv_at hl 2 rfl) ?_
      have hPc := hP.sub (ws' := [(aM, .inr (6, [.int (nI nL), .ref aMb, .ref aMe, .ref aMw, .ref aMc, .ref aMd, .ref aMs, .ref aMz, .int (nI mt), .ref aMA, .ref aMJ, .ref aMl, .ref aM2, .int ba, .int bb, .int (nI u1), .int (nI u2), .ref aMp, .ref aMt, .int (nI pt)]))]) [0] rfl
      refine vp_callSi (W.runV (As := [.int x2]) (rest := []) ⟨hx, hb, hml, hown, hts⟩ (k_X6_isLeaf l dC dI cI cZ aM aMb aMe aMw aMc aMd aMs aMz aMA aMJ aMl aM2 aMp aMt nL mt ba bb u1 u2 pt x2 (by omega)) (cwV 1 hts gX6_must_X6_isLeaf rfl rfl rfl (by decide +kernel) ⟨Nat.le_of_ble_eq_true rfl, Nat.le_of_ble_eq_true rfl⟩) (ln_preV (q0 := 0) (ci := 6) hPc hKK rfl rfl) rfl rfl hl.1 rfl (lv_room (Nat.le_of_ble_eq_true rfl)) dX6_must_10 ⟨Nat.le_of_ble_eq_true rfl, Nat.le_of_ble_eq_true rfl⟩) (fun r_12 w_13 => ?_)
      rcases w_13 with ⟨rfl, c_14⟩ | ⟨rfl, c_14⟩
      · obtain ⟨k2, hk2, rfl⟩ := c_14
        refine ln_if_eqF (tgt := 21) hx hb dX6_must_13 (by decide) (by decide) ?_
        refine lv_iload_n hx hb dX6_must_16 rfl (lv_at hl 1 rfl) ?_
        refine lv_iload_n hx hb dX6_must_17 rfl (lv_at hl 2 rfl) ?_
        refine ln_icmp_ne (tgt := 23) hx hb dX6_must_18 (by decide) (by omega) (by omega) (fun c_15 => ?_) (fun c_15 => ?_)
        · refine lv_iload_n hx hb dX6_must_23 rfl (lv_at hl 3 rfl) ?_
          refine ln_if_eqF (tgt := 43) hx hb dX6_must_24 (by decide) (by decide) ?_
          refine lv_aload_n hx hb dX6_must_27 rfl (lv_at hl 0 rfl) ?_
          refine va_get (D := (dC, dI)) (ci := 6) (v := .ref aMJ) (C := RX6) (T := TX6) (N := 20) hx hb hts mX6_must_inX6 hown hK hP 0 rfl rfl 10 (by decide) (hts (.fieldLink RX6 39 "LeafOrderModel" "isJoined" "[Z") mX6_must_2) (fun _ h9 => h9) rfl dX6_must_28 ?_
          refine lv_bipush (v := nI 9) hx hb dX6_must_31 (by decide) ?_
          refine lv_iload_n hx hb dX6_must_33 rfl (lv_at hl 1 rfl) ?_
          refine ln_imul hx hb dX6_must_34 ?_
          refine lv_iload_n hx hb dX6_must_35 rfl (lv_at hl 2 rfl) ?_
          refine ln_iadd hx hb dX6_must_36 ?_
          refine lv_iload hx hb dX6_must_37 (lv_at hl 4 rfl) ?_
          refine ln_zast (i := (9 * k1) + k2) hx hb hK hP hD hS 2 1 rfl rfl (by omega) (by decide) (by omega) dX6_must_39 (fun H locs hP hD hS => ?_)
          have b_16 : ∀ k, (upN gJ ((9 * k1) + k2) q4) k ≤ 1 := upN_le bMJ (by omega)
          have hP : va_P (dC, dI) vwCl [(aM, .inr (6, [.int (nI nL), .ref aMb, .ref aMe, .ref aMw, .ref aMc, .ref aMd, .ref aMs, .ref aMz, .int (nI mt), .ref aMA, .ref aMJ, .ref aMl, .ref aM2, .int ba, .int bb, .int (nI u1), .int (nI u2), .ref aMp, .ref aMt, .int (nI pt)])), (aMA, .inl (cZ, 81, .inl (nF gA))), (aMJ, .inl (cZ, 81, .inl (nF (upN gJ ((9 * k1) + k2) q4))))] H := hP
          have hD : va_D A [(aM, .inr (6, [.int (nI nL), .ref aMb, .ref aMe, .ref aMw, .ref aMc, .ref aMd, .ref aMs, .ref aMz, .int (nI mt), .ref aMA, .ref aMJ, .ref aMl, .ref aM2, .int ba, .int bb, .int (nI u1), .int (nI u2), .ref aMp, .ref aMt, .int (nI pt)])), (aMA, .inl (cZ, 81, .inl (nF gA))), (aMJ, .inl (cZ, 81, .inl (nF (upN gJ ((9 * k1) + k2) q4))))] := hD
          refine lv_goto (tgt := 56) hx hb dX6_must_40 (by decide) ?_
          refine lv_iconst (v := nI 1) hx hb dX6_must_56 (by decide) ?_
          have hC : pc_pair nL (nI k1) (nI k2) := ⟨⟨k1, hk1, rfl⟩, ⟨k2, hk2, rfl⟩, fun q => c_15 ((nI_eq (by omega) (by omega)).mp q)⟩
          exact W.zret (v := (nI 1)) hx hb hr (by decide) (fun t ht hW => ⟨⟨(nI 1), (gA, upN gJ ((9 * k1) + k2) q4), rfl, ⟨(cif_t hC).symm, (cif_f (fun q => absurd q.2 (by decide))).symm, (by rw [cif_t ⟨hC, by decide⟩, tn_nI (show k1 < 2 ^ 31 by omega), tn_nI (show k2 < 2 ^ 31 by omega)]), bMA, b_16⟩, by rw [ht]; exact hP, hD⟩, hS.F ht⟩) hS.2.2 dX6_must_57
        · refine lv_iconst (v := nI 0) hx hb dX6_must_21 (by decide) ?_
          have hC : ¬ pc_pair nL (nI k1) (nI k2) := (fun q => q.2.2 (by rw [c_15]))
          exact W.zret (v := (nI 0)) hx hb hr (by decide) (fun t ht hW => ⟨⟨(nI 0), (gA, gJ), rfl, ⟨(cif_f hC).symm, (cif_f (fun q => hC q.1)).symm, (cif_f (fun q => hC q.1)).symm, bMA, bMJ⟩, by rw [ht]; exact hP, hD⟩, hS.F ht⟩) hS.2.2 dX6_must_22
      · refine ln_if_eqT (tgt := 21) hx hb dX6_must_13 (by decide) (by decide) ?_
        refine lv_iconst (v := nI 0) hx hb dX6_must_21 (by decide) ?_
        have hC : ¬ pc_pair nL (nI k1) x2 := (fun q => c_14 q.2.1)
        exact W.zret (v := (nI 0)) hx hb hr (by decide) (fun t ht hW => ⟨⟨(nI 0), (gA, gJ), rfl, ⟨(cif_f hC).symm, (cif_f (fun q => hC q.1)).symm, (cif_f (fun q => hC q.1)).symm, bMA, bMJ⟩, by rw [ht]; exact hP, hD⟩, hS.F ht⟩) hS.2.2 dX6_must_22
    · refine ln_if_eqT (tgt := 21) hx hb dX6_must_5 (by decide) (by decide) ?_
      refine lv_iconst (v := nI 0) hx hb dX6_must_21 (by decide) ?_
      have hC : ¬ pc_pair nL x1 x2 := (fun q => c_11 q.1)
      exact W.zret (v := (nI 0)) hx hb hr (by decide) (fun t ht hW => ⟨⟨(nI 0), (gA, gJ), rfl, ⟨(cif_f hC).symm, (cif_f (fun q => hC q.1)).symm, (cif_f (fun q => hC q.1)).symm, bMA, bMJ⟩, by rw [ht]; exact hP, hD⟩, hS.F ht⟩) hS.2.2 dX6_must_22
set_option maxHeartbeats 4000000 in
set_option maxRecDepth 100000 in
theorem k_X6_apart (l : Launch) (dC : Nat → ClassId) (dI : Nat → Nat → Nat) (cI cZ : ClassId) (q1 : Nat) (q2 : Nat) (h1 : q1 < 2147483648) (h2 : q2 < 2147483648) : Met l yX6_apart wsX6_apart { frames := 0, cells := 0, slots := 0, locals := 0 } (va_Pc [.int (nI q1), .int (nI q2)] (fun _ => True)) (vp_Si (fun r => r = (nI (m_dist q1 q2)))) 0 0 (fun _ => False) := by
  refine Met.ofW (cc := cX6_apart) (maxL := 2) (ret := (some .int)) (by decide) rfl ?_
  intro p e s m args below meth c s₁ B hml hv
  obtain ⟨rfl, -⟩ := hv
  have hx := B.exec
  have hb := B.bytes
  have hr := B.returns
  have hts := atoms_spec (ws := wsX6_apart) B.pre
  have hown : s.vm.findClass RX6 = some m.cls := findClass_of_methodNamed B.named
  have hlocks := B.notSynchronized
  have hl := lv_entry ([.int (nI q1), .int (nI q2)]) (n := 2) (Nat.le_of_ble_eq_true rfl)
  rw [lg_entry_eq]
  generalize (lg_sl ([.int (nI q1), .int (nI q2)]) ++ List.replicate (2 - (lg_sl ([.int (nI q1), .int (nI q2)])).length) Slot.unset).toArray = ls at hl ⊢
  have hl : lv_has ls 2 [(0, .int (nI q1)), (1, .int (nI q2))] := hl
  refine lv_iload_n hx hb dX6_apart_0 rfl (lv_at hl 0 rfl) ?_
  refine lv_iload_n hx hb dX6_apart_1 rfl (lv_at hl 1 rfl) ?_
  refine ln_icmp_le (tgt := 11) hx hb dX6_apart_2 (by decide) (by omega) (by omega) (fun c_1 => ?_) (fun c_1 => ?_)
  · refine lv_iload_n hx hb dX6_apart_11 rfl (lv_at hl 1 rfl) ?_
    refine lv_iload_n hx hb dX6_apart_12 rfl (lv_at hl 0 rfl) ?_
    refine ln_isub hx hb dX6_apart_13 (by omega) ?_
    exact W.iret (v := (nI (q2 - q1))) hx hb hr (fun t ht hW => ⟨(nI (q2 - q1)), rfl, (by rw [show m_dist q1 q2 = q2 - q1 by unfold m_dist; omega]), ht⟩) (fun _ h => by cases h) dX6_apart_14
  · refine lv_iload_n hx hb dX6_apart_5 rfl (lv_at hl 0 rfl) ?_
    refine lv_iload_n hx hb dX6_apart_6 rfl (lv_at hl 1 rfl) ?_
    refine ln_isub hx hb dX6_apart_7 (by omega) ?_
    refine lv_goto (tgt := 14) hx hb dX6_apart_8 (by decide) ?_
    exact W.iret (v := (nI (q1 - q2))) hx hb hr (fun t ht hW => ⟨(nI (q1 - q2)), rfl, (by rw [show m_dist q1 q2 = q1 - q2 by unfold m_dist; omega]), ht⟩) (fun _ h => by cases h) dX6_apart_14
theorem mX6_whole_0 : Cond.fieldLink RX6 28 "LeafOrderModel" "weight" "[I" ∈ wsX6_whole := by decide +kernel
theorem mX6_whole_inX6 : ∀ w ∈ wsX60, w ∈ wsX6_whole := by decide +kernel
theorem mX6_whole_2 : Cond.fieldLink RX6 25 "LeafOrderModel" "stain" "[I" ∈ wsX6_whole := by decide +kernel
theorem mX6_whole_3 : Cond.fieldLink RX6 13 "LeafOrderModel" "end" "[I" ∈ wsX6_whole := by decide +kernel
theorem mX6_whole_4 : Cond.fieldLink RX6 7 "LeafOrderModel" "begin" "[I" ∈ wsX6_whole := by decide +kernel
theorem mX6_whole_5 : Cond.fieldLink RX6 16 "LeafOrderModel" "word" "[I" ∈ wsX6_whole := by decide +kernel
theorem mX6_whole_6 : Cond.fieldLink RX6 22 "LeafOrderModel" "cutEnd" "[I" ∈ wsX6_whole := by decide +kernel
theorem mX6_whole_7 : Cond.fieldLink RX6 19 "LeafOrderModel" "cutBegin" "[I" ∈ wsX6_whole := by decide +kernel
set_option maxHeartbeats 4000000 in
set_option maxRecDepth 100000 in
theorem k_X6_whole (l : Launch) (dC : Nat → ClassId) (dI : Nat → Nat → Nat) (cI cZ : ClassId) (aM aMb aMe aMw aMc aMd aMs aMz aMA aMJ aMl aM2 aMp aMt : Nat) (nL : Nat) (mt : Nat) (ba : Int32) (bb : Int32) (u1 : Nat) (u2 : Nat) (pt : Nat) (fb : Nat → Nat) (fe : Nat → Nat) (fw : Nat → Int32) (fc : Nat → Nat) (fd : Nat → Nat) (fs : Nat → Nat) (fz : Nat → Nat) (q1 : Nat) (q2 : Nat) (q3 : Nat) (q4 : Nat) (bLb : ∀ k, fb k ≤ 99) (bLe : ∀ k, fe k ≤ 99) (bLc : ∀ k, fc k ≤ 99) (bLd : ∀ k, fd k ≤ 99) (bLs : ∀ k, fs k ≤ 99) (bCz : ∀ k, fz k ≤ 999) (h1 : q1 < 9) (h2 : q2 < 2) (h3 : q3 < 9) (h4 : q4 < 2) : Met l yX6_whole wsX6_whole { frames := 1, cells := 0, slots := 0, locals := 21 } (va_Pc [.ref aM, .int (nI q1), .int (nI q2), .int (nI q3), .int (nI q4)] (fun U => va_P (dC, dI) vwCl [(aM, .inr (6, [.int (nI nL), .ref aMb, .ref aMe, .ref aMw, .ref aMc, .ref aMd, .ref aMs, .ref aMz, .int (nI mt), .ref aMA, .ref aMJ, .ref aMl, .ref aM2, .int ba, .int bb, .int (nI u1), .int (nI u2), .ref aMp, .ref aMt, .int (nI pt)])), (aMb, .inl (cI, 18, .inl (nF fb))), (aMe, .inl (cI, 18, .inl (nF fe))), (aMw, .inl (cI, 18, .inl fw)), (aMc, .inl (cI, 18, .inl (nF fc))), (aMd, .inl (cI, 18, .inl (nF fd))), (aMs, .inl (cI, 27, .inl (nF fs))), (aMz, .inl (cI, 6, .inl (nF fz)))] U.heap ∧ lK dC dI cI cZ U)) (vp_Si (fun r => r = (nI (m_full fb fe fw fc fd fs fz (2 * q1 + q2) (2 * q3 + q4))))) 0 0 (fun _ => False) := by
  refine Met.ofW (cc := cX6_whole) (maxL := 9) (ret := (some .int)) (by decide) rfl ?_
  intro p e s m args below meth c s₁ B hml hv
  obtain ⟨rfl, hP, hKK⟩ := hv
  have hK := hKK.1
  have hx := B.exec
  have hb := B.bytes
  have hr := B.returns
  have hts := atoms_spec (ws := wsX6_whole) B.pre
  have hown : s.vm.findClass RX6 = some m.cls := findClass_of_methodNamed B.named
  have hlocks := B.notSynchronized
  have hl := lv_entry ([.ref aM, .int (nI q1), .int (nI q2), .int (nI q3), .int (nI q4)]) (n := 9) (Nat.le_of_ble_eq_true rfl)
  rw [lg_entry_eq]
  generalize (lg_sl ([.ref aM, .int (nI q1), .int (nI q2), .int (nI q3), .int (nI q4)]) ++ List.replicate (9 - (lg_sl ([.ref aM, .int (nI q1), .int (nI q2), .int (nI q3), .int (nI q4)])).length) Slot.unset).toArray = ls at hl ⊢
  have hl : lv_has ls 9 [(0, .ref aM), (1, .int (nI q1)), (2, .int (nI q2)), (3, .int (nI q3)), (4, .int (nI q4))] := hl
  have CUT118 : ∀ (ls : Array Slot), lv_has ls 9 [(0, .ref aM), (1, .int (nI q1)), (2, .int (nI q2)), (3, .int (nI q3)), (4, .int (nI q4)), (7, .int (nI (m_w0 fb fe fw fc fd fz q1 q2 q3 q4)))] → W p l e { frames := 1, cells := 0, slots := 0, locals := 21 } s m [.ref aM, .int (nI q1), .int (nI q2), .int (nI q3), .int (nI q4)].toArray below meth c s.heap [] 0 0 (MQ below (vp_Si (fun r => r = (nI (m_full fb fe fw fc fd fs fz (2 * q1 + q2) (2 * q3 + q4))))) [.ref aM, .int (nI q1), .int (nI q2), .int (nI q3), .int (nI q4)].toArray s 0 0 (fun _ => False)) (F0 m 118 ls []) := by
    intro ls hl
    refine lv_iconst (v := nI 0) hx hb dX6_whole_118 (by decide) ?_
    refine lv_istore (lv' := [(8, .int (nI 0)), (0, .ref aM), (1, .int (nI q1)), (2, .int (nI q2)), (3, .int (nI q3)), (4, .int (nI q4)), (7, .int (nI (m_w0 fb fe fw fc fd fz q1 q2 q3 q4)))]) hx hb dX6_whole_119 hl (by decide) rfl (fun ls hl => ?_)
    have LP121 : ∀ (n121 : Nat) (i : Nat) (acc : Nat), 3 - i < n121 → (i ≤ 3) → (acc = m_w0 fb fe fw fc fd fz q1 q2 q3 q4 + fz 1 * m_sap fs q1 q3 i) → ∀ (ls : Array Slot), lv_has ls 9 [(0, .ref aM), (1, .int (nI q1)), (2, .int (nI q2)), (3, .int (nI q3)), (4, .int (nI q4)), (7, .int (nI acc)), (8, .int (nI i))] → W p l e { frames := 1, cells := 0, slots := 0, locals := 21 } s m [.ref aM, .int (nI q1), .int (nI q2), .int (nI q3), .int (nI q4)].toArray below meth c s.heap [] 0 0 (MQ below (vp_Si (fun r => r = (nI (m_full fb fe fw fc fd fs fz (2 * q1 + q2) (2 * q3 + q4))))) [.ref aM, .int (nI q1), .int (nI q2), .int (nI q3), .int (nI q4)].toArray s 0 0 (fun _ => False)) (F0 m 121 ls []) := by
      intro n121
      induction n121 with
      | zero =>
        intro i acc hm
        exact absurd hm (Nat.not_lt_zero _)
      | succ n121 ih121 =>
        intro i acc hm121  hi hacc ls hl
        refine lv_iload hx hb dX6_whole_121 (lv_at hl 6 rfl) ?_
        refine lv_iconst (v := nI 3) hx hb dX6_whole_123 (by decide) ?_
        refine ln_icmp_ge (tgt := 170) hx hb dX6_whole_124 (by decide) (by omega) (by decide) (fun c_1 => ?_) (fun c_1 => ?_)
        · refine lv_iload hx hb dX6_whole_170 (lv_at hl 5 rfl) ?_
          exact W.iret (v := (nI acc)) hx hb hr (fun t ht hW => ⟨(nI acc), rfl, (by rw [hacc, show i = 3 by omega, m_w0_full fb fe fw fc fd fs fz q1 q2 q3 q4 h2 h4]), ht⟩) (fun _ h => by cases h) dX6_whole_172
        · refine lv_iload hx hb dX6_whole_127 (lv_at hl 5 rfl) ?_
          refine lv_aload_n hx hb dX6_whole_129 rfl (lv_at hl 0 rfl) ?_
          refine va_get (D := (dC, dI)) (ci := 6) (v := .ref aMz) (C := RX6) (T := TX6) (N := 20) hx hb hts mX6_whole_inX6 hown hK hP 0 rfl rfl 7 (by decide) (hts (.fieldLink RX6 28 "LeafOrderModel" "weight" "[I") mX6_whole_0) (fun _ h9 => h9) rfl dX6_whole_130 ?_
          refine lv_iconst (v := nI 1) hx hb dX6_whole_133 (by decide) ?_
          refine ln_iald (i := 1) hx hb hK hP 7 0 rfl rfl (by omega) (by decide) dX6_whole_134 ?_
          have b_2 := bCz 1
          refine lv_aload_n hx hb dX6_whole_135 rfl (lv_at hl 0 rfl) ?_
          refine va_get (D := (dC, dI)) (ci := 6) (v := .ref aMs) (C := RX6) (T := TX6) (N := 20) hx hb hts mX6_whole_inX6 hown hK hP 0 rfl rfl 6 (by decide) (hts (.fieldLink RX6 25 "LeafOrderModel" "stain" "[I") mX6_whole_2) (fun _ h9 => h9) rfl dX6_whole_136 ?_
          refine lv_iconst (v := nI 3) hx hb dX6_whole_139 (by decide) ?_
          refine lv_iload_n hx hb dX6_whole_140 rfl (lv_at hl 1 rfl) ?_
          refine ln_imul hx hb dX6_whole_141 ?_
          refine lv_iload hx hb dX6_whole_142 (lv_at hl 6 rfl) ?_
          refine ln_iadd hx hb dX6_whole_144 ?_
          refine ln_iald (i := (3 * q1) + i) hx hb hK hP 6 0 rfl rfl (by omega) (by decide) dX6_whole_145 ?_
          have b_3 := bLs ((3 * q1) + i)
          refine lv_aload_n hx hb dX6_whole_146 rfl (lv_at hl 0 rfl) ?_
          refine va_get (D := (dC, dI)) (ci := 6) (v := .ref aMs) (C := RX6) (T := TX6) (N := 20) hx hb hts mX6_whole_inX6 hown hK hP 0 rfl rfl 6 (by decide) (hts (.fieldLink RX6 25 "LeafOrderModel" "stain" "[I") mX6_whole_2) (fun _ h9 => h9) rfl dX6_whole_147 ?_
          refine lv_iconst (v := nI 3) hx hb dX6_whole_150 (by decide) ?_
          refine lv_iload_n hx hb dX6_whole_151 rfl (lv_at hl 3 rfl) ?_
          refine ln_imul hx hb dX6_whole_152 ?_
          refine lv_iload hx hb dX6_whole_153 (lv_at hl 6 rfl) ?_
          refine ln_iadd hx hb dX6_whole_155 ?_
          refine ln_iald (i := (3 * q3) + i) hx hb hK hP 6 0 rfl rfl (by omega) (by decide) dX6_whole_156 ?_
          have b_4 := bLs ((3 * q3) + i)
          refine vp_callSi (W.runS (As := [.int (nI (fs ((3 * q1) + i))), .int (nI (fs ((3 * q3) + i)))]) (rest := [.int (nI (fz 1)), .int (nI acc)]) ⟨hx, hb, hml, hown, hts⟩ (k_X6_apart l dC dI cI cZ (fs ((3 * q1) + i)) (fs ((3 * q3) + i)) (by omega) (by omega)) (va_cwS 2 hts gX6_whole_X6_apart rfl rfl rfl (by decide +kernel) ⟨Nat.le_of_ble_eq_true rfl, Nat.le_of_ble_eq_true rfl⟩) ln_preS0 rfl rfl hl.1 rfl (lv_room (Nat.le_of_ble_eq_true rfl)) dX6_whole_157 ⟨Nat.le_of_ble_eq_true rfl, Nat.le_of_ble_eq_true rfl⟩) (fun r_5 w_6 => ?_)
          subst w_6
          refine ln_imul hx hb dX6_whole_160 ?_
          refine ln_iadd hx hb dX6_whole_161 ?_
          refine lv_istore (lv' := [(7, .int (nI (acc + ((fz 1) * (m_dist (fs ((3 * q1) + i)) (fs ((3 * q3) + i))))))), (0, .ref aM), (1, .int (nI q1)), (2, .int (nI q2)), (3, .int (nI q3)), (4, .int (nI q4)), (8, .int (nI i))]) hx hb dX6_whole_162 hl (by decide) rfl (fun ls hl => ?_)
          refine lv_iinc (v := (nI (i + 1))) (lv' := [(8, .int (nI (i + 1))), (7, .int (nI (acc + ((fz 1) * (m_dist (fs ((3 * q1) + i)) (fs ((3 * q3) + i))))))), (0, .ref aM), (1, .int (nI q1)), (2, .int (nI q2)), (3, .int (nI q3)), (4, .int (nI q4))]) hx hb dX6_whole_164 hl (k := 6) rfl (by first | exact nI_1 _ | rfl) (by decide) rfl (fun ls hl => ?_)
          refine lv_goto (tgt := 121) hx hb dX6_whole_167 (by decide) ?_
          exact ih121 (i + 1) (acc + ((fz 1) * (m_dist (fs ((3 * q1) + i)) (fs ((3 * q3) + i))))) (by omega)  (by omega) (by rw [m_sap, Nat.mul_add, hacc, Nat.add_assoc]) ls (lv_sub hl [2, 3, 4, 5, 6, 1, 0] rfl)
    exact LP121 _ 0 (m_w0 fb fe fw fc fd fz q1 q2 q3 q4) (Nat.lt_succ_self _)  (by decide) rfl ls (lv_sub hl [1, 2, 3, 4, 5, 6, 0] rfl)
  refine lv_iconst (v := nI 2) hx hb dX6_whole_0 (by decide) ?_
  refine lv_iload_n hx hb dX6_whole_1 rfl (lv_at hl 1 rfl) ?_
  refine ln_imul hx hb dX6_whole_2 ?_
  refine lv_iconst (v := nI 1) hx hb dX6_whole_3 (by decide) ?_
  refine ln_iadd hx hb dX6_whole_4 ?_
  refine lv_iload_n hx hb dX6_whole_5 rfl (lv_at hl 2 rfl) ?_
  refine ln_isub hx hb dX6_whole_6 (by omega) ?_
  refine lv_istore (lv' := [(5, .int (nI (((2 * q1) + 1) - q2))), (0, .ref aM), (1, .int (nI q1)), (2, .int (nI q2)), (3, .int (nI q3)), (4, .int (nI q4))]) hx hb dX6_whole_7 hl (by decide) rfl (fun ls hl => ?_)
  refine lv_iconst (v := nI 2) hx hb dX6_whole_9 (by decide) ?_
  refine lv_iload_n hx hb dX6_whole_10 rfl (lv_at hl 4 rfl) ?_
  refine ln_imul hx hb dX6_whole_11 ?_
  refine lv_iload hx hb dX6_whole_12 (lv_at hl 5 rfl) ?_
  refine ln_iadd hx hb dX6_whole_14 ?_
  refine lv_istore (lv' := [(6, .int (nI ((2 * q3) + q4))), (5, .int (nI (((2 * q1) + 1) - q2))), (0, .ref aM), (1, .int (nI q1)), (2, .int (nI q2)), (3, .int (nI q3)), (4, .int (nI q4))]) hx hb dX6_whole_15 hl (by decide) rfl (fun ls hl => ?_)
  refine lv_aload_n hx hb dX6_whole_17 rfl (lv_at hl 2 rfl) ?_
  refine va_get (D := (dC, dI)) (ci := 6) (v := .ref aMz) (C := RX6) (T := TX6) (N := 20) hx hb hts mX6_whole_inX6 hown hK hP 0 rfl rfl 7 (by decide) (hts (.fieldLink RX6 28 "LeafOrderModel" "weight" "[I") mX6_whole_0) (fun _ h9 => h9) rfl dX6_whole_18 ?_
  refine lv_iconst (v := nI 0) hx hb dX6_whole_21 (by decide) ?_
  refine ln_iald (i := 0) hx hb hK hP 7 0 rfl rfl (by omega) (by decide) dX6_whole_22 ?_
  have b_7 := bCz 0
  refine lv_aload_n hx hb dX6_whole_23 rfl (lv_at hl 2 rfl) ?_
  refine va_get (D := (dC, dI)) (ci := 6) (v := .ref aMe) (C := RX6) (T := TX6) (N := 20) hx hb hts mX6_whole_inX6 hown hK hP 0 rfl rfl 2 (by decide) (hts (.fieldLink RX6 13 "LeafOrderModel" "end" "[I") mX6_whole_3) (fun _ h9 => h9) rfl dX6_whole_24 ?_
  refine lv_iload hx hb dX6_whole_27 (lv_at hl 1 rfl) ?_
  refine ln_iald (i := ((2 * q1) + 1) - q2) hx hb hK hP 2 0 rfl rfl (by omega) (by decide) dX6_whole_29 ?_
  have b_8 := bLe (((2 * q1) + 1) - q2)
  refine lv_aload_n hx hb dX6_whole_30 rfl (lv_at hl 2 rfl) ?_
  refine va_get (D := (dC, dI)) (ci := 6) (v := .ref aMb) (C := RX6) (T := TX6) (N := 20) hx hb hts mX6_whole_inX6 hown hK hP 0 rfl rfl 1 (by decide) (hts (.fieldLink RX6 7 "LeafOrderModel" "begin" "[I") mX6_whole_4) (fun _ h9 => h9) rfl dX6_whole_31 ?_
  refine lv_iload hx hb dX6_whole_34 (lv_at hl 0 rfl) ?_
  refine ln_iald (i := (2 * q3) + q4) hx hb hK hP 1 0 rfl rfl (by omega) (by decide) dX6_whole_36 ?_
  have b_9 := bLb ((2 * q3) + q4)
  refine vp_callSi (W.runS (As := [.int (nI (fe (((2 * q1) + 1) - q2))), .int (nI (fb ((2 * q3) + q4)))]) (rest := [.int (nI (fz 0))]) ⟨hx, hb, hml, hown, hts⟩ (k_X6_apart l dC dI cI cZ (fe (((2 * q1) + 1) - q2)) (fb ((2 * q3) + q4)) (by omega) (by omega)) (va_cwS 2 hts gX6_whole_X6_apart rfl rfl rfl (by decide +kernel) ⟨Nat.le_of_ble_eq_true rfl, Nat.le_of_ble_eq_true rfl⟩) ln_preS0 rfl rfl hl.1 rfl (lv_room (Nat.le_of_ble_eq_true rfl)) dX6_whole_37 ⟨Nat.le_of_ble_eq_true rfl, Nat.le_of_ble_eq_true rfl⟩) (fun r_10 w_11 => ?_)
  subst w_11
  refine ln_imul hx hb dX6_whole_40 ?_
  refine lv_istore (lv' := [(7, .int (nI ((fz 0) * (m_dist (fe (((2 * q1) + 1) - q2)) (fb ((2 * q3) + q4)))))), (6, .int (nI ((2 * q3) + q4))), (5, .int (nI (((2 * q1) + 1) - q2))), (0, .ref aM), (1, .int (nI q1)), (2, .int (nI q2)), (3, .int (nI q3)), (4, .int (nI q4))]) hx hb dX6_whole_41 hl (by decide) rfl (fun ls hl => ?_)
  refine lv_iload hx hb dX6_whole_43 (lv_at hl 0 rfl) ?_
  refine lv_aload_n hx hb dX6_whole_45 rfl (lv_at hl 3 rfl) ?_
  refine va_get (D := (dC, dI)) (ci := 6) (v := .ref aMw) (C := RX6) (T := TX6) (N := 20) hx hb hts mX6_whole_inX6 hown hK hP 0 rfl rfl 3 (by decide) (hts (.fieldLink RX6 16 "LeafOrderModel" "word" "[I") mX6_whole_5) (fun _ h9 => h9) rfl dX6_whole_46 ?_
  refine lv_iload hx hb dX6_whole_49 (lv_at hl 2 rfl) ?_
  refine ln_ialdI (i := ((2 * q1) + 1) - q2) hx hb hK hP 3 0 rfl rfl (by omega) (by decide) dX6_whole_51 ?_
  refine lv_iconst (v := (-1)) hx hb dX6_whole_52 (by decide) ?_
  refine lv_icmp_eq (tgt := 82) hx hb dX6_whole_53 (by decide) (fun c_12 => ?_) (fun c_12 => ?_)
  · refine lv_iconst (v := nI 0) hx hb dX6_whole_82 (by decide) ?_
    refine ln_iadd hx hb dX6_whole_83 ?_
    refine lv_istore (lv' := [(7, .int (nI (((fz 0) * (m_dist (fe (((2 * q1) + 1) - q2)) (fb ((2 * q3) + q4)))) + 0))), (6, .int (nI ((2 * q3) + q4))), (5, .int (nI (((2 * q1) + 1) - q2))), (0, .ref aM), (1, .int (nI q1)), (2, .int (nI q2)), (3, .int (nI q3)), (4, .int (nI q4))]) hx hb dX6_whole_84 hl (by decide) rfl (fun ls hl => ?_)
    refine lv_iload hx hb dX6_whole_86 (lv_at hl 0 rfl) ?_
    refine lv_aload_n hx hb dX6_whole_88 rfl (lv_at hl 3 rfl) ?_
    refine va_get (D := (dC, dI)) (ci := 6) (v := .ref aMd) (C := RX6) (T := TX6) (N := 20) hx hb hts mX6_whole_inX6 hown hK hP 0 rfl rfl 5 (by decide) (hts (.fieldLink RX6 22 "LeafOrderModel" "cutEnd" "[I") mX6_whole_6) (fun _ h9 => h9) rfl dX6_whole_89 ?_
    refine lv_iload hx hb dX6_whole_92 (lv_at hl 2 rfl) ?_
    refine ln_iald (i := ((2 * q1) + 1) - q2) hx hb hK hP 5 0 rfl rfl (by omega) (by decide) dX6_whole_94 ?_
    have b_13 := bLd (((2 * q1) + 1) - q2)
    refine lv_aload_n hx hb dX6_whole_95 rfl (lv_at hl 3 rfl) ?_
    refine va_get (D := (dC, dI)) (ci := 6) (v := .ref aMc) (C := RX6) (T := TX6) (N := 20) hx hb hts mX6_whole_inX6 hown hK hP 0 rfl rfl 4 (by decide) (hts (.fieldLink RX6 19 "LeafOrderModel" "cutBegin" "[I") mX6_whole_7) (fun _ h9 => h9) rfl dX6_whole_96 ?_
    refine lv_iload hx hb dX6_whole_99 (lv_at hl 1 rfl) ?_
    refine ln_iald (i := (2 * q3) + q4) hx hb hK hP 4 0 rfl rfl (by omega) (by decide) dX6_whole_101 ?_
    have b_14 := bLc ((2 * q3) + q4)
    refine ln_icmp_eq (tgt := 114) hx hb dX6_whole_102 (by decide) (by omega) (by omega) (fun c_15 => ?_) (fun c_15 => ?_)
    · refine lv_iconst (v := nI 0) hx hb dX6_whole_114 (by decide) ?_
      refine ln_iadd hx hb dX6_whole_115 ?_
      refine lv_istore (lv' := [(7, .int (nI ((((fz 0) * (m_dist (fe (((2 * q1) + 1) - q2)) (fb ((2 * q3) + q4)))) + 0) + 0))), (6, .int (nI ((2 * q3) + q4))), (5, .int (nI (((2 * q1) + 1) - q2))), (0, .ref aM), (1, .int (nI q1)), (2, .int (nI q2)), (3, .int (nI q3)), (4, .int (nI q4))]) hx hb dX6_whole_116 hl (by decide) rfl (fun ls hl => ?_)
      have e7 : m_w0 fb fe fw fc fd fz q1 q2 q3 q4 = (((fz 0) * (m_dist (fe (((2 * q1) + 1) - q2)) (fb ((2 * q3) + q4)))) + 0) + 0 := by unfold m_w0; rw [if_pos c_12, if_pos c_15]
      exact CUT118 ls (by rw [e7]; exact lv_sub hl [3, 4, 5, 6, 7, 0] rfl)
    · refine lv_aload_n hx hb dX6_whole_105 rfl (lv_at hl 3 rfl) ?_
      refine va_get (D := (dC, dI)) (ci := 6) (v := .ref aMz) (C := RX6) (T := TX6) (N := 20) hx hb hts mX6_whole_inX6 hown hK hP 0 rfl rfl 7 (by decide) (hts (.fieldLink RX6 28 "LeafOrderModel" "weight" "[I") mX6_whole_0) (fun _ h9 => h9) rfl dX6_whole_106 ?_
      refine lv_iconst (v := nI 3) hx hb dX6_whole_109 (by decide) ?_
      refine ln_iald (i := 3) hx hb hK hP 7 0 rfl rfl (by omega) (by decide) dX6_whole_110 ?_
      have b_16 := bCz 3
      refine lv_goto (tgt := 115) hx hb dX6_whole_111 (by decide) ?_
      refine ln_iadd hx hb dX6_whole_115 ?_
      refine lv_istore (lv' := [(7, .int (nI ((((fz 0) * (m_dist (fe (((2 * q1) + 1) - q2)) (fb ((2 * q3) + q4)))) + 0) + (fz 3)))), (6, .int (nI ((2 * q3) + q4))), (5, .int (nI (((2 * q1) + 1) - q2))), (0, .ref aM), (1, .int (nI q1)), (2, .int (nI q2)), (3, .int (nI q3)), (4, .int (nI q4))]) hx hb dX6_whole_116 hl (by decide) rfl (fun ls hl => ?_)
      have e7 : m_w0 fb fe fw fc fd fz q1 q2 q3 q4 = (((fz 0) * (m_dist (fe (((2 * q1) + 1) - q2)) (fb ((2 * q3) + q4)))) + 0) + (fz 3) := by unfold m_w0; rw [if_pos c_12, if_neg c_15]
      exact CUT118 ls (by rw [e7]; exact lv_sub hl [3, 4, 5, 6, 7, 0] rfl)
  · refine lv_aload_n hx hb dX6_whole_56 rfl (lv_at hl 3 rfl) ?_
    refine va_get (D := (dC, dI)) (ci := 6) (v := .ref aMw) (C := RX6) (T := TX6) (N := 20) hx hb hts mX6_whole_inX6 hown hK hP 0 rfl rfl 3 (by decide) (hts (.fieldLink RX6 16 "LeafOrderModel" "word" "[I") mX6_whole_5) (fun _ h9 => h9) rfl dX6_whole_57 ?_
    refine lv_iload hx hb dX6_whole_60 (lv_at hl 2 rfl) ?_
    refine ln_ialdI (i := ((2 * q1) + 1) - q2) hx hb hK hP 3 0 rfl rfl (by omega) (by decide) dX6_whole_62 ?_
    refine lv_aload_n hx hb dX6_whole_63 rfl (lv_at hl 3 rfl) ?_
    refine va_get (D := (dC, dI)) (ci := 6) (v := .ref aMb) (C := RX6) (T := TX6) (N := 20) hx hb hts mX6_whole_inX6 hown hK hP 0 rfl rfl 1 (by decide) (hts (.fieldLink RX6 7 "LeafOrderModel" "begin" "[I") mX6_whole_4) (fun _ h9 => h9) rfl dX6_whole_64 ?_
    refine lv_iload hx hb dX6_whole_67 (lv_at hl 1 rfl) ?_
    refine ln_iald (i := (2 * q3) + q4) hx hb hK hP 1 0 rfl rfl (by omega) (by decide) dX6_whole_69 ?_
    have b_17 := bLb ((2 * q3) + q4)
    refine lv_icmp_eq (tgt := 82) hx hb dX6_whole_70 (by decide) (fun c_18 => ?_) (fun c_18 => ?_)
    · refine lv_iconst (v := nI 0) hx hb dX6_whole_82 (by decide) ?_
      refine ln_iadd hx hb dX6_whole_83 ?_
      refine lv_istore (lv' := [(7, .int (nI (((fz 0) * (m_dist (fe (((2 * q1) + 1) - q2)) (fb ((2 * q3) + q4)))) + 0))), (6, .int (nI ((2 * q3) + q4))), (5, .int (nI (((2 * q1) + 1) - q2))), (0, .ref aM), (1, .int (nI q1)), (2, .int (nI q2)), (3, .int (nI q3)), (4, .int (nI q4))]) hx hb dX6_whole_84 hl (by decide) rfl (fun ls hl => ?_)
      refine lv_iload hx hb dX6_whole_86 (lv_at hl 0 rfl) ?_
      refine lv_aload_n hx hb dX6_whole_88 rfl (lv_at hl 3 rfl) ?_
      refine va_get (D := (dC, dI)) (ci := 6) (v := .ref aMd) (C := RX6) (T := TX6) (N := 20) hx hb hts mX6_whole_inX6 hown hK hP 0 rfl rfl 5 (by decide) (hts (.fieldLink RX6 22 "LeafOrderModel" "cutEnd" "[I") mX6_whole_6) (fun _ h9 => h9) rfl dX6_whole_89 ?_
      refine lv_iload hx hb dX6_whole_92 (lv_at hl 2 rfl) ?_
      refine ln_iald (i := ((2 * q1) + 1) - q2) hx hb hK hP 5 0 rfl rfl (by omega) (by decide) dX6_whole_94 ?_
      have b_19 := bLd (((2 * q1) + 1) - q2)
      refine lv_aload_n hx hb dX6_whole_95 rfl (lv_at hl 3 rfl) ?_
      refine va_get (D := (dC, dI)) (ci := 6) (v := .ref aMc) (C := RX6) (T := TX6) (N := 20) hx hb hts mX6_whole_inX6 hown hK hP 0 rfl rfl 4 (by decide) (hts (.fieldLink RX6 19 "LeafOrderModel" "cutBegin" "[I") mX6_whole_7) (fun _ h9 => h9) rfl dX6_whole_96 ?_
      refine lv_iload hx hb dX6_whole_99 (lv_at hl 1 rfl) ?_
      refine ln_iald (i := (2 * q3) + q4) hx hb hK hP 4 0 rfl rfl (by omega) (by decide) dX6_whole_101 ?_
      have b_20 := bLc ((2 * q3) + q4)
      refine ln_icmp_eq (tgt := 114) hx hb dX6_whole_102 (by decide) (by omega) (by omega) (fun c_21 => ?_) (fun c_21 => ?_)
      · refine lv_iconst (v := nI 0) hx hb dX6_whole_114 (by decide) ?_
        refine ln_iadd hx hb dX6_whole_115 ?_
        refine lv_istore (lv' := [(7, .int (nI ((((fz 0) * (m_dist (fe (((2 * q1) + 1) - q2)) (fb ((2 * q3) + q4)))) + 0) + 0))), (6, .int (nI ((2 * q3) + q4))), (5, .int (nI (((2 * q1) + 1) - q2))), (0, .ref aM), (1, .int (nI q1)), (2, .int (nI q2)), (3, .int (nI q3)), (4, .int (nI q4))]) hx hb dX6_whole_116 hl (by decide) rfl (fun ls hl => ?_)
        have e7 : m_w0 fb fe fw fc fd fz q1 q2 q3 q4 = (((fz 0) * (m_dist (fe (((2 * q1) + 1) - q2)) (fb ((2 * q3) + q4)))) + 0) + 0 := by unfold m_w0; rw [if_neg c_12, if_pos c_18, if_pos c_21]
        exact CUT118 ls (by rw [e7]; exact lv_sub hl [3, 4, 5, 6, 7, 0] rfl)
      · refine lv_aload_n hx hb dX6_whole_105 rfl (lv_at hl 3 rfl) ?_
        refine va_get (D := (dC, dI)) (ci := 6) (v := .ref aMz) (C := RX6) (T := TX6) (N := 20) hx hb hts mX6_whole_inX6 hown hK hP 0 rfl rfl 7 (by decide) (hts (.fieldLink RX6 28 "LeafOrderModel" "weight" "[I") mX6_whole_0) (fun _ h9 => h9) rfl dX6_whole_106 ?_
        refine lv_iconst (v := nI 3) hx hb dX6_whole_109 (by decide) ?_
        refine ln_iald (i := 3) hx hb hK hP 7 0 rfl rfl (by omega) (by decide) dX6_whole_110 ?_
        have b_22 := bCz 3
        refine lv_goto (tgt := 115) hx hb dX6_whole_111 (by decide) ?_
        refine ln_iadd hx hb dX6_whole_115 ?_
        refine lv_istore (lv' := [(7, .int (nI ((((fz 0) * (m_dist (fe (((2 * q1) + 1) - q2)) (fb ((2 * q3) + q4)))) + 0) + (fz 3)))), (6, .int (nI ((2 * q3) + q4))), (5, .int (nI (((2 * q1) + 1) - q2))), (0, .ref aM), (1, .int (nI q1)), (2, .int (nI q2)), (3, .int (nI q3)), (4, .int (nI q4))]) hx hb dX6_whole_116 hl (by decide) rfl (fun ls hl => ?_)
        have e7 : m_w0 fb fe fw fc fd fz q1 q2 q3 q4 = (((fz 0) * (m_dist (fe (((2 * q1) + 1) - q2)) (fb ((2 * q3) + q4)))) + 0) + (fz 3) := by unfold m_w0; rw [if_neg c_12, if_pos c_18, if_neg c_21]
        exact CUT118 ls (by rw [e7]; exact lv_sub hl [3, 4, 5, 6, 7, 0] rfl)
    · refine lv_aload_n hx hb dX6_whole_73 rfl (lv_at hl 3 rfl) ?_
      refine va_get (D := (dC, dI)) (ci := 6) (v := .ref aMz) (C := RX6) (T := TX6) (N := 20) hx hb hts mX6_whole_inX6 hown hK hP 0 rfl rfl 7 (by decide) (hts (.fieldLink RX6 28 "LeafOrderModel" "weight" "[I") mX6_whole_0) (fun _ h9 => h9) rfl dX6_whole_74 ?_
      refine lv_iconst (v := nI 2) hx hb dX6_whole_77 (by decide) ?_
      refine ln_iald (i := 2) hx hb hK hP 7 0 rfl rfl (by omega) (by decide) dX6_whole_78 ?_
      have b_23 := bCz 2
      refine lv_goto (tgt := 83) hx hb dX6_whole_79 (by decide) ?_
      refine ln_iadd hx hb dX6_whole_83 ?_
      refine lv_istore (lv' := [(7, .int (nI (((fz 0) * (m_dist (fe (((2 * q1) + 1) - q2)) (fb ((2 * q3) + q4)))) + (fz 2)))), (6, .int (nI ((2 * q3) + q4))), (5, .int (nI (((2 * q1) + 1) - q2))), (0, .ref aM), (1, .int (nI q1)), (2, .int (nI q2)), (3, .int (nI q3)), (4, .int (nI q4))]) hx hb dX6_whole_84 hl (by decide) rfl (fun ls hl => ?_)
      refine lv_iload hx hb dX6_whole_86 (lv_at hl 0 rfl) ?_
      refine lv_aload_n hx hb dX6_whole_88 rfl (lv_at hl 3 rfl) ?_
      refine va_get (D := (dC, dI)) (ci := 6) (v := .ref aMd) (C := RX6) (T := TX6) (N := 20) hx hb hts mX6_whole_inX6 hown hK hP 0 rfl rfl 5 (by decide) (hts (.fieldLink RX6 22 "LeafOrderModel" "cutEnd" "[I") mX6_whole_6) (fun _ h9 => h9) rfl dX6_whole_89 ?_
      refine lv_iload hx hb dX6_whole_92 (lv_at hl 2 rfl) ?_
      refine ln_iald (i := ((2 * q1) + 1) - q2) hx hb hK hP 5 0 rfl rfl (by omega) (by decide) dX6_whole_94 ?_
      have b_24 := bLd (((2 * q1) + 1) - q2)
      refine lv_aload_n hx hb dX6_whole_95 rfl (lv_at hl 3 rfl) ?_
      refine va_get (D := (dC, dI)) (ci := 6) (v := .ref aMc) (C := RX6) (T := TX6) (N := 20) hx hb hts mX6_whole_inX6 hown hK hP 0 rfl rfl 4 (by decide) (hts (.fieldLink RX6 19 "LeafOrderModel" "cutBegin" "[I") mX6_whole_7) (fun _ h9 => h9) rfl dX6_whole_96 ?_
      refine lv_iload hx hb dX6_whole_99 (lv_at hl 1 rfl) ?_
      refine ln_iald (i := (2 * q3) + q4) hx hb hK hP 4 0 rfl rfl (by omega) (by decide) dX6_whole_101 ?_
      have b_25 := bLc ((2 * q3) + q4)
      refine ln_icmp_eq (tgt := 114) hx hb dX6_whole_102 (by decide) (by omega) (by omega) (fun c_26 => ?_) (fun c_26 => ?_)
      · refine lv_iconst (v := nI 0) hx hb dX6_whole_114 (by decide) ?_
        refine ln_iadd hx hb dX6_whole_115 ?_
        refine lv_istore (lv' := [(7, .int (nI ((((fz 0) * (m_dist (fe (((2 * q1) + 1) - q2)) (fb ((2 * q3) + q4)))) + (fz 2)) + 0))), (6, .int (nI ((2 * q3) + q4))), (5, .int (nI (((2 * q1) + 1) - q2))), (0, .ref aM), (1, .int (nI q1)), (2, .int (nI q2)), (3, .int (nI q3)), (4, .int (nI q4))]) hx hb dX6_whole_116 hl (by decide) rfl (fun ls hl => ?_)
        have e7 : m_w0 fb fe fw fc fd fz q1 q2 q3 q4 = (((fz 0) * (m_dist (fe (((2 * q1) + 1) - q2)) (fb ((2 * q3) + q4)))) + (fz 2)) + 0 := by unfold m_w0; rw [if_neg c_12, if_neg c_18, if_pos c_26]
        exact CUT118 ls (by rw [e7]; exact lv_sub hl [3, 4, 5, 6, 7, 0] rfl)
      · refine lv_aload_n hx hb dX6_whole_105 rfl (lv_at hl 3 rfl) ?_
        refine va_get (D := (dC, dI)) (ci := 6) (v := .ref aMz) (C := RX6) (T := TX6) (N := 20) hx hb hts mX6_whole_inX6 hown hK hP 0 rfl rfl 7 (by decide) (hts (.fieldLink RX6 28 "LeafOrderModel" "weight" "[I") mX6_whole_0) (fun _ h9 => h9) rfl dX6_whole_106 ?_
        refine lv_iconst (v := nI 3) hx hb dX6_whole_109 (by decide) ?_
        refine ln_iald (i := 3) hx hb hK hP 7 0 rfl rfl (by omega) (by decide) dX6_whole_110 ?_
        have b_27 := bCz 3
        refine lv_goto (tgt := 115) hx hb dX6_whole_111 (by decide) ?_
        refine ln_iadd hx hb dX6_whole_115 ?_
        refine lv_istore (lv' := [(7, .int (nI ((((fz 0) * (m_dist (fe (((2 * q1) + 1) - q2)) (fb ((2 * q3) + q4)))) + (fz 2)) + (fz 3)))), (6, .int (nI ((2 * q3) + q4))), (5, .int (nI (((2 * q1) + 1) - q2))), (0, .ref aM), (1, .int (nI q1)), (2, .int (nI q2)), (3, .int (nI q3)), (4, .int (nI q4))]) hx hb dX6_whole_116 hl (by decide) rfl (fun ls hl => ?_)
        have e7 : m_w0 fb fe fw fc fd fz q1 q2 q3 q4 = (((fz 0) * (m_dist (fe (((2 * q1) + 1) - q2)) (fb ((2 * q3) + q4)))) + (fz 2)) + (fz 3) := by unfold m_w0; rw [if_neg c_12, if_neg c_18, if_neg c_26]
        exact CUT118 ls (by rw [e7]; exact lv_sub hl [3, 4, 5, 6, 7, 0] rfl)
theorem mX6_isMissing_0 : Cond.fieldLink RX6 28 "LeafOrderModel" "weight" "[I" ∈ wsX6_isMissing := by decide +kernel
theorem mX6_isMissing_inX6 : ∀ w ∈ wsX60, w ∈ wsX6_isMissing := by decide +kernel
set_option maxHeartbeats 4000000 in
set_option maxRecDepth 100000 in
theorem k_X6_isMissing (l : Launch) (dC : Nat → ClassId) (dI : Nat → Nat → Nat) (cI cZ : ClassId) (aM aMb aMe aMw aMc aMd aMs aMz aMA aMJ aMl aM2 aMp aMt : Nat) (nL : Nat) (mt : Nat) (ba : Int32) (bb : Int32) (u1 : Nat) (u2 : Nat) (pt : Nat) (fb : Nat → Nat) (fe : Nat → Nat) (fw : Nat → Int32) (fc : Nat → Nat) (fd : Nat → Nat) (fs : Nat → Nat) (fz : Nat → Nat) (q1 : Nat) (q2 : Nat) (q3 : Nat) (q4 : Nat) (bLb : ∀ k, fb k ≤ 99) (bLe : ∀ k, fe k ≤ 99) (bLc : ∀ k, fc k ≤ 99) (bLd : ∀ k, fd k ≤ 99) (bLs : ∀ k, fs k ≤ 99) (bCz : ∀ k, fz k ≤ 999) (h1 : q1 < 9) (h2 : q2 < 2) (h3 : q3 < 9) (h4 : q4 < 2) : Met l yX6_isMissing wsX6_isMissing { frames := 2, cells := 0, slots := 0, locals := 49 } (va_Pc [.ref aM, .int (nI q1), .int (nI q2), .int (nI q3), .int (nI q4)] (fun U => va_P (dC, dI) vwCl [(aM, .inr (6, [.int (nI nL), .ref aMb, .ref aMe, .ref aMw, .ref aMc, .ref aMd, .ref aMs, .ref aMz, .int (nI mt), .ref aMA, .ref aMJ, .ref aMl, .ref aM2, .int ba, .int bb, .int (nI u1), .int (nI u2), .ref aMp, .ref aMt, .int (nI pt)])), (aMb, .inl (cI, 18, .inl (nF fb))), (aMe, .inl (cI, 18, .inl (nF fe))), (aMw, .inl (cI, 18, .inl fw)), (aMc, .inl (cI, 18, .inl (nF fc))), (aMd, .inl (cI, 18, .inl (nF fd))), (aMs, .inl (cI, 27, .inl (nF fs))), (aMz, .inl (cI, 6, .inl (nF fz)))] U.heap ∧ lK dC dI cI cZ U)) (vp_Si (fun r => (r = nI 1 ∧ (0 < fz 5 ∧ fz 5 < m_full fb fe fw fc fd fs fz (2 * q1 + q2) (2 * q3 + q4))) ∨ (r = nI 0 ∧ ¬ (0 < fz 5 ∧ fz 5 < m_full fb fe fw fc fd fs fz (2 * q1 + q2) (2 * q3 + q4))))) 0 0 (fun _ => False) := by
  refine Met.ofW (cc := cX6_isMissing) (maxL := 5) (ret := (some .boolean)) (by decide) rfl ?_
  intro p e s m args below meth c s₁ B hml hv
  obtain ⟨rfl, hP, hKK⟩ := hv
  have hK := hKK.1
  have hx := B.exec
  have hb := B.bytes
  have hr := B.returns
  have hts := atoms_spec (ws := wsX6_isMissing) B.pre
  have hown : s.vm.findClass RX6 = some m.cls := findClass_of_methodNamed B.named
  have hlocks := B.notSynchronized
  have hl := lv_entry ([.ref aM, .int (nI q1), .int (nI q2), .int (nI q3), .int (nI q4)]) (n := 5) (Nat.le_of_ble_eq_true rfl)
  rw [lg_entry_eq]
  generalize (lg_sl ([.ref aM, .int (nI q1), .int (nI q2), .int (nI q3), .int (nI q4)]) ++ List.replicate (5 - (lg_sl ([.ref aM, .int (nI q1), .int (nI q2), .int (nI q3), .int (nI q4)])).length) Slot.unset).toArray = ls at hl ⊢
  have hl : lv_has ls 5 [(0, .ref aM), (1, .int (nI q1)), (2, .int (nI q2)), (3, .int (nI q3)), (4, .int (nI q4))] := hl
  refine lv_aload_n hx hb dX6_isMissing_0 rfl (lv_at hl 0 rfl) ?_
  refine va_get (D := (dC, dI)) (ci := 6) (v := .ref aMz) (C := RX6) (T := TX6) (N := 20) hx hb hts mX6_isMissing_inX6 hown hK hP 0 rfl rfl 7 (by decide) (hts (.fieldLink RX6 28 "LeafOrderModel" "weight" "[I") mX6_isMissing_0) (fun _ h9 => h9) rfl dX6_isMissing_1 ?_
  refine lv_iconst (v := nI 5) hx hb dX6_isMissing_4 (by decide) ?_
  refine ln_iald (i := 5) hx hb hK hP 7 0 rfl rfl (by omega) (by decide) dX6_isMissing_5 ?_
  have b_1 := bCz 5
  refine ln_if_le (tgt := 31) hx hb dX6_isMissing_6 (by decide) (by omega) (fun c_2 => ?_) (fun c_2 => ?_)
  · refine lv_iconst (v := nI 0) hx hb dX6_isMissing_31 (by decide) ?_
    exact W.zret (v := (nI 0)) hx hb hr (by decide) (fun t ht hW => ⟨(nI 0), rfl, Or.inr ⟨rfl, (by omega)⟩, ht⟩) (fun _ h => by cases h) dX6_isMissing_32
  · refine lv_aload_n hx hb dX6_isMissing_9 rfl (lv_at hl 0 rfl) ?_
    refine lv_iload_n hx hb dX6_isMissing_10 rfl (lv_at hl 1 rfl) ?_
    refine lv_iload_n hx hb dX6_isMissing_11 rfl (lv_at hl 2 rfl) ?_
    refine lv_iload_n hx hb dX6_isMissing_12 rfl (lv_at hl 3 rfl) ?_
    refine lv_iload hx hb dX6_isMissing_13 (lv_at hl 4 rfl) ?_
    have hPc := hP.sub (ws' := [(aM, .inr (6, [.int (nI nL), .ref aMb, .ref aMe, .ref aMw, .ref aMc, .ref aMd, .ref aMs, .ref aMz, .int (nI mt), .ref aMA, .ref aMJ, .ref aMl, .ref aM2, .int ba, .int bb, .int (nI u1), .int (nI u2), .ref aMp, .ref aMt, .int (nI pt)])), (aMb, .inl (cI, 18, .inl (nF fb))), (aMe, .inl (cI, 18, .inl (nF fe))), (aMw, .inl (cI, 18, .inl fw)), (aMc, .inl (cI, 18, .inl (nF fc))), (aMd, .inl (cI, 18, .inl (nF fd))), (aMs, .inl (cI, 27, .inl (nF fs))), (aMz, .inl (cI, 6, .inl (nF fz)))]) [0, 1, 2, 3, 4, 5, 6, 7] rfl
    refine vp_callSi (W.runV (As := [.int (nI q1), .int (nI q2), .int (nI q3), .int (nI q4)]) (rest := []) ⟨hx, hb, hml, hown, hts⟩ (k_X6_whole l dC dI cI cZ aM aMb aMe aMw aMc aMd aMs aMz aMA aMJ aMl aM2 aMp aMt nL mt ba bb u1 u2 pt fb fe fw fc fd fs fz q1 q2 q3 q4 bLb bLe bLc bLd bLs bCz (by omega) (by omega) (by omega) (by omega)) (cwV 4 hts gX6_isMissing_X6_whole rfl rfl rfl (by decide +kernel) ⟨Nat.le_of_ble_eq_true rfl, Nat.le_of_ble_eq_true rfl⟩) (ln_preV (q0 := 0) (ci := 6) hPc hKK rfl rfl) rfl rfl hl.1 rfl (lv_room (Nat.le_of_ble_eq_true rfl)) dX6_isMissing_15 ⟨Nat.le_of_ble_eq_true rfl, Nat.le_of_ble_eq_true rfl⟩) (fun r_3 w_4 => ?_)
    subst w_4
    refine lv_aload_n hx hb dX6_isMissing_18 rfl (lv_at hl 0 rfl) ?_
    refine va_get (D := (dC, dI)) (ci := 6) (v := .ref aMz) (C := RX6) (T := TX6) (N := 20) hx hb hts mX6_isMissing_inX6 hown hK hP 0 rfl rfl 7 (by decide) (hts (.fieldLink RX6 28 "LeafOrderModel" "weight" "[I") mX6_isMissing_0) (fun _ h9 => h9) rfl dX6_isMissing_19 ?_
    refine lv_iconst (v := nI 5) hx hb dX6_isMissing_22 (by decide) ?_
    refine ln_iald (i := 5) hx hb hK hP 7 0 rfl rfl (by omega) (by decide) dX6_isMissing_23 ?_
    have b_5 := bCz 5
    refine ln_icmp_le (tgt := 31) hx hb dX6_isMissing_24 (by decide) (Nat.lt_of_le_of_lt (m_full_le fb fe fw fc fd fs fz (2 * q1 + q2) (2 * q3 + q4) bLb bLe bLs bCz) (by decide)) (by omega) (fun c_6 => ?_) (fun c_6 => ?_)
    · refine lv_iconst (v := nI 0) hx hb dX6_isMissing_31 (by decide) ?_
      exact W.zret (v := (nI 0)) hx hb hr (by decide) (fun t ht hW => ⟨(nI 0), rfl, Or.inr ⟨rfl, (by omega)⟩, ht⟩) (fun _ h => by cases h) dX6_isMissing_32
    · refine lv_iconst (v := nI 1) hx hb dX6_isMissing_27 (by decide) ?_
      refine lv_goto (tgt := 32) hx hb dX6_isMissing_28 (by decide) ?_
      exact W.zret (v := (nI 1)) hx hb hr (by decide) (fun t ht hW => ⟨(nI 1), rfl, Or.inl ⟨rfl, c_2, c_6⟩, ht⟩) (fun _ h => by cases h) dX6_isMissing_32
theorem mX6_joins_0 : Cond.fieldLink RX6 28 "LeafOrderModel" "weight" "[I" ∈ wsX6_joins := by decide +kernel
theorem mX6_joins_inX6 : ∀ w ∈ wsX60, w ∈ wsX6_joins := by decide +kernel
set_option maxHeartbeats 4000000 in
set_option maxRecDepth 100000 in
theorem k_X6_joins (l : Launch) (dC : Nat → ClassId) (dI : Nat → Nat → Nat) (cI cZ : ClassId) (aM aMb aMe aMw aMc aMd aMs aMz aMA aMJ aMl aM2 aMp aMt : Nat) (nL : Nat) (mt : Nat) (ba : Int32) (bb : Int32) (u1 : Nat) (u2 : Nat) (pt : Nat) (fb : Nat → Nat) (fe : Nat → Nat) (fw : Nat → Int32) (fc : Nat → Nat) (fd : Nat → Nat) (fs : Nat → Nat) (fz : Nat → Nat) (q1 : Nat) (q2 : Nat) (q3 : Nat) (q4 : Nat) (bLb : ∀ k, fb k ≤ 99) (bLe : ∀ k, fe k ≤ 99) (bLc : ∀ k, fc k ≤ 99) (bLd : ∀ k, fd k ≤ 99) (bLs : ∀ k, fs k ≤ 99) (bCz : ∀ k, fz k ≤ 999) (h1 : q1 < 9) (h2 : q2 < 2) (h3 : q3 < 9) (h4 : q4 < 2) : Met l yX6_joins wsX6_joins { frames := 3, cells := 0, slots := 0, locals := 73 } (va_Pc [.ref aM, .int (nI q1), .int (nI q2), .int (nI q3), .int (nI q4)] (fun U => va_P (dC, dI) vwCl [(aM, .inr (6, [.int (nI nL), .ref aMb, .ref aMe, .ref aMw, .ref aMc, .ref aMd, .ref aMs, .ref aMz, .int (nI mt), .ref aMA, .ref aMJ, .ref aMl, .ref aM2, .int ba, .int bb, .int (nI u1), .int (nI u2), .ref aMp, .ref aMt, .int (nI pt)])), (aMb, .inl (cI, 18, .inl (nF fb))), (aMe, .inl (cI, 18, .inl (nF fe))), (aMw, .inl (cI, 18, .inl fw)), (aMc, .inl (cI, 18, .inl (nF fc))), (aMd, .inl (cI, 18, .inl (nF fd))), (aMs, .inl (cI, 27, .inl (nF fs))), (aMz, .inl (cI, 6, .inl (nF fz)))] U.heap ∧ lK dC dI cI cZ U)) (vp_Si (fun r => r = (nI (m_join fb fe fw fc fd fs fz (2 * q1 + q2) (2 * q3 + q4))))) 0 0 (fun _ => False) := by
  refine Met.ofW (cc := cX6_joins) (maxL := 5) (ret := (some .int)) (by decide) rfl ?_
  intro p e s m args below meth c s₁ B hml hv
  obtain ⟨rfl, hP, hKK⟩ := hv
  have hK := hKK.1
  have hx := B.exec
  have hb := B.bytes
  have hr := B.returns
  have hts := atoms_spec (ws := wsX6_joins) B.pre
  have hown : s.vm.findClass RX6 = some m.cls := findClass_of_methodNamed B.named
  have hlocks := B.notSynchronized
  have hl := lv_entry ([.ref aM, .int (nI q1), .int (nI q2), .int (nI q3), .int (nI q4)]) (n := 5) (Nat.le_of_ble_eq_true rfl)
  rw [lg_entry_eq]
  generalize (lg_sl ([.ref aM, .int (nI q1), .int (nI q2), .int (nI q3), .int (nI q4)]) ++ List.replicate (5 - (lg_sl ([.ref aM, .int (nI q1), .int (nI q2), .int (nI q3), .int (nI q4)])).length) Slot.unset).toArray = ls at hl ⊢
  have hl : lv_has ls 5 [(0, .ref aM), (1, .int (nI q1)), (2, .int (nI q2)), (3, .int (nI q3)), (4, .int (nI q4))] := hl
  refine lv_aload_n hx hb dX6_joins_0 rfl (lv_at hl 0 rfl) ?_
  refine lv_iload_n hx hb dX6_joins_1 rfl (lv_at hl 1 rfl) ?_
  refine lv_iload_n hx hb dX6_joins_2 rfl (lv_at hl 2 rfl) ?_
  refine lv_iload_n hx hb dX6_joins_3 rfl (lv_at hl 3 rfl) ?_
  refine lv_iload hx hb dX6_joins_4 (lv_at hl 4 rfl) ?_
  have hPc := hP.sub (ws' := [(aM, .inr (6, [.int (nI nL), .ref aMb, .ref aMe, .ref aMw, .ref aMc, .ref aMd, .ref aMs, .ref aMz, .int (nI mt), .ref aMA, .ref aMJ, .ref aMl, .ref aM2, .int ba, .int bb, .int (nI u1), .int (nI u2), .ref aMp, .ref aMt, .int (nI pt)])), (aMb, .inl (cI, 18, .inl (nF fb))), (aMe, .inl (cI, 18, .inl (nF fe))), (aMw, .inl (cI, 18, .inl fw)), (aMc, .inl (cI, 18, .inl (nF fc))), (aMd, .inl (cI, 18, .inl (nF fd))), (aMs, .inl (cI, 27, .inl (nF fs))), (aMz, .inl (cI, 6, .inl (nF fz)))]) [0, 1, 2, 3, 4, 5, 6, 7] rfl
  refine vp_callSi (W.runV (As := [.int (nI q1), .int (nI q2), .int (nI q3), .int (nI q4)]) (rest := []) ⟨hx, hb, hml, hown, hts⟩ (k_X6_isMissing l dC dI cI cZ aM aMb aMe aMw aMc aMd aMs aMz aMA aMJ aMl aM2 aMp aMt nL mt ba bb u1 u2 pt fb fe fw fc fd fs fz q1 q2 q3 q4 bLb bLe bLc bLd bLs bCz (by omega) (by omega) (by omega) (by omega)) (cwV 4 hts gX6_joins_X6_isMissing rfl rfl rfl (by decide +kernel) ⟨Nat.le_of_ble_eq_true rfl, Nat.le_of_ble_eq_true rfl⟩) (ln_preV (q0 := 0) (ci := 6) hPc hKK rfl rfl) rfl rfl hl.1 rfl (lv_room (Nat.le_of_ble_eq_true rfl)) dX6_joins_6 ⟨Nat.le_of_ble_eq_true rfl, Nat.le_of_ble_eq_true rfl⟩) (fun r_1 w_2 => ?_)
  rcases w_2 with ⟨rfl, c_3⟩ | ⟨rfl, c_3⟩
  · refine ln_if_eqF (tgt := 21) hx hb dX6_joins_9 (by decide) (by decide) ?_
    refine lv_aload_n hx hb dX6_joins_12 rfl (lv_at hl 0 rfl) ?_
    refine va_get (D := (dC, dI)) (ci := 6) (v := .ref aMz) (C := RX6) (T := TX6) (N := 20) hx hb hts mX6_joins_inX6 hown hK hP 0 rfl rfl 7 (by decide) (hts (.fieldLink RX6 28 "LeafOrderModel" "weight" "[I") mX6_joins_0) (fun _ h9 => h9) rfl dX6_joins_13 ?_
    refine lv_iconst (v := nI 5) hx hb dX6_joins_16 (by decide) ?_
    refine ln_iald (i := 5) hx hb hK hP 7 0 rfl rfl (by omega) (by decide) dX6_joins_17 ?_
    have b_4 := bCz 5
    refine lv_goto (tgt := 30) hx hb dX6_joins_18 (by decide) ?_
    exact W.iret (v := (nI (fz 5))) hx hb hr (fun t ht hW => ⟨(nI (fz 5)), rfl, (by unfold m_join; rw [if_pos c_3]), ht⟩) (fun _ h => by cases h) dX6_joins_30
  · refine ln_if_eqT (tgt := 21) hx hb dX6_joins_9 (by decide) (by decide) ?_
    refine lv_aload_n hx hb dX6_joins_21 rfl (lv_at hl 0 rfl) ?_
    refine lv_iload_n hx hb dX6_joins_22 rfl (lv_at hl 1 rfl) ?_
    refine lv_iload_n hx hb dX6_joins_23 rfl (lv_at hl 2 rfl) ?_
    refine lv_iload_n hx hb dX6_joins_24 rfl (lv_at hl 3 rfl) ?_
    refine lv_iload hx hb dX6_joins_25 (lv_at hl 4 rfl) ?_
    have hPc := hP.sub (ws' := [(aM, .inr (6, [.int (nI nL), .ref aMb, .ref aMe, .ref aMw, .ref aMc, .ref aMd, .ref aMs, .ref aMz, .int (nI mt), .ref aMA, .ref aMJ, .ref aMl, .ref aM2, .int ba, .int bb, .int (nI u1), .int (nI u2), .ref aMp, .ref aMt, .int (nI pt)])), (aMb, .inl (cI, 18, .inl (nF fb))), (aMe, .inl (cI, 18, .inl (nF fe))), (aMw, .inl (cI, 18, .inl fw)), (aMc, .inl (cI, 18, .inl (nF fc))), (aMd, .inl (cI, 18, .inl (nF fd))), (aMs, .inl (cI, 27, .inl (nF fs))), (aMz, .inl (cI, 6, .inl (nF fz)))]) [0, 1, 2, 3, 4, 5, 6, 7] rfl
    refine vp_callSi (W.runV (As := [.int (nI q1), .int (nI q2), .int (nI q3), .int (nI q4)]) (rest := []) ⟨hx, hb, hml, hown, hts⟩ (k_X6_whole l dC dI cI cZ aM aMb aMe aMw aMc aMd aMs aMz aMA aMJ aMl aM2 aMp aMt nL mt ba bb u1 u2 pt fb fe fw fc fd fs fz q1 q2 q3 q4 bLb bLe bLc bLd bLs bCz (by omega) (by omega) (by omega) (by omega)) (cwV 4 hts gX6_joins_X6_whole rfl rfl rfl (by decide +kernel) ⟨Nat.le_of_ble_eq_true rfl, Nat.le_of_ble_eq_true rfl⟩) (ln_preV (q0 := 0) (ci := 6) hPc hKK rfl rfl) rfl rfl hl.1 rfl (lv_room (Nat.le_of_ble_eq_true rfl)) dX6_joins_27 ⟨Nat.le_of_ble_eq_true rfl, Nat.le_of_ble_eq_true rfl⟩) (fun r_5 w_6 => ?_)
    subst w_6
    exact W.iret (v := (nI (m_full fb fe fw fc fd fs fz (2 * q1 + q2) (2 * q3 + q4)))) hx hb hr (fun t ht hW => ⟨(nI (m_full fb fe fw fc fd fs fz (2 * q1 + q2) (2 * q3 + q4))), rfl, (by unfold m_join; rw [if_neg c_3]), ht⟩) (fun _ h => by cases h) dX6_joins_30
theorem mX6_join_0 : Cond.fieldLink RX6 31 "LeafOrderModel" "mayTurn" "Z" ∈ wsX6_join := by decide +kernel
theorem mX6_join_inX6 : ∀ w ∈ wsX60, w ∈ wsX6_join := by decide +kernel
set_option maxHeartbeats 4000000 in
set_option maxRecDepth 100000 in
theorem k_X6_join (l : Launch) (dC : Nat → ClassId) (dI : Nat → Nat → Nat) (cI cZ : ClassId) (aM aMb aMe aMw aMc aMd aMs aMz aMA aMJ aMl aM2 aMp aMt : Nat) (nL : Nat) (mt : Nat) (ba : Int32) (bb : Int32) (u1 : Nat) (u2 : Nat) (pt : Nat) (fb : Nat → Nat) (fe : Nat → Nat) (fw : Nat → Int32) (fc : Nat → Nat) (fd : Nat → Nat) (fs : Nat → Nat) (fz : Nat → Nat) (x1 : Int32) (q2 : Nat) (x3 : Int32) (q4 : Nat) (bLb : ∀ k, fb k ≤ 99) (bLe : ∀ k, fe k ≤ 99) (bLc : ∀ k, fc k ≤ 99) (bLd : ∀ k, fd k ≤ 99) (bLs : ∀ k, fs k ≤ 99) (bCz : ∀ k, fz k ≤ 999) (hn : nL ≤ 9) (h2 : q2 < 2) (h4 : q4 < 2) (hmt : mt < 2) : Met l yX6_join wsX6_join { frames := 4, cells := 0, slots := 0, locals := 97 } (va_Pc [.ref aM, .int x1, .int (nI q2), .int x3, .int (nI q4)] (fun U => va_P (dC, dI) vwCl [(aM, .inr (6, [.int (nI nL), .ref aMb, .ref aMe, .ref aMw, .ref aMc, .ref aMd, .ref aMs, .ref aMz, .int (nI mt), .ref aMA, .ref aMJ, .ref aMl, .ref aM2, .int ba, .int bb, .int (nI u1), .int (nI u2), .ref aMp, .ref aMt, .int (nI pt)])), (aMb, .inl (cI, 18, .inl (nF fb))), (aMe, .inl (cI, 18, .inl (nF fe))), (aMw, .inl (cI, 18, .inl fw)), (aMc, .inl (cI, 18, .inl (nF fc))), (aMd, .inl (cI, 18, .inl (nF fd))), (aMs, .inl (cI, 27, .inl (nF fs))), (aMz, .inl (cI, 6, .inl (nF fz)))] U.heap ∧ lK dC dI cI cZ U)) (vp_Si (fun r => r = (cif (pc_pair nL x1 x3 ∧ ((q2 = 0 ∧ q4 = 0) ∨ ¬ mt = 0)) (nI (m_join fb fe fw fc fd fs fz (2 * tn x1 + q2) (2 * tn x3 + q4))) (-1)))) 0 0 (fun _ => False) := by
  refine Met.ofW (cc := cX6_join) (maxL := 5) (ret := (some .int)) (by decide) rfl ?_
  intro p e s m args below meth c s₁ B hml hv
  obtain ⟨rfl, hP, hKK⟩ := hv
  have hK := hKK.1
  have hx := B.exec
  have hb := B.bytes
  have hr := B.returns
  have hts := atoms_spec (ws := wsX6_join) B.pre
  have hown : s.vm.findClass RX6 = some m.cls := findClass_of_methodNamed B.named
  have hlocks := B.notSynchronized
  have hl := lv_entry ([.ref aM, .int x1, .int (nI q2), .int x3, .int (nI q4)]) (n := 5) (Nat.le_of_ble_eq_true rfl)
  rw [lg_entry_eq]
  generalize (lg_sl ([.ref aM, .int x1, .int (nI q2), .int x3, .int (nI q4)]) ++ List.replicate (5 - (lg_sl ([.ref aM, .int x1, .int (nI q2), .int x3, .int (nI q4)])).length) Slot.unset).toArray = ls at hl ⊢
  have hl : lv_has ls 5 [(0, .ref aM), (1, .int x1), (2, .int (nI q2)), (3, .int x3), (4, .int (nI q4))] := hl
  rcases (show q2 = 0 ∨ q2 = 1 by omega) with rfl | rfl
  · rcases (show q4 = 0 ∨ q4 = 1 by omega) with rfl | rfl
    · refine lv_aload_n hx hb dX6_join_0 rfl (lv_at hl 0 rfl) ?_
      refine lv_iload_n hx hb dX6_join_1 rfl (lv_at hl 1 rfl) ?_
      have hPc := hP.sub (ws' := [(aM, .inr (6, [.int (nI nL), .ref aMb, .ref aMe, .ref aMw, .ref aMc, .ref aMd, .ref aMs, .ref aMz, .int (nI mt), .ref aMA, .ref aMJ, .ref aMl, .ref aM2, .int ba, .int bb, .int (nI u1), .int (nI u2), .ref aMp, .ref aMt, .int (nI pt)]))]) [0] rfl
      refine vp_callSi (W.runV (As := [.int x1]) (rest := []) ⟨hx, hb, hml, hown, hts⟩ (k_X6_isLeaf l dC dI cI cZ aM aMb aMe aMw aMc aMd aMs aMz aMA aMJ aMl aM2 aMp aMt nL mt ba bb u1 u2 pt x1 (by omega)) (cwV 1 hts gX6_join_X6_isLeaf rfl rfl rfl (by decide +kernel) ⟨Nat.le_of_ble_eq_true rfl, Nat.le_of_ble_eq_true rfl⟩) (ln_preV (q0 := 0) (ci := 6) hPc hKK rfl rfl) rfl rfl hl.1 rfl (lv_room (Nat.le_of_ble_eq_true rfl)) dX6_join_2 ⟨Nat.le_of_ble_eq_true rfl, Nat.le_of_ble_eq_true rfl⟩) (fun r_1 w_2 => ?_)
      rcases w_2 with ⟨rfl, c_3⟩ | ⟨rfl, c_3⟩
      · obtain ⟨k1, hk1, rfl⟩ := c_3
        refine ln_if_eqF (tgt := 37) hx hb dX6_join_5 (by decide) (by decide) ?_
        refine lv_aload_n hx hb dX6_join_8 rfl (lv_at hl 0 rfl) ?_
        refine lv_iload_n hx hb dX6_join_9 rfl (lv_at hl 3 rfl) ?_
        have hPc := hP.sub (ws' := [(aM, .inr (6, [.int (nI nL), .ref aMb, .ref aMe, .ref aMw, .ref aMc, .ref aMd, .ref aMs, .ref aMz, .int (nI mt), .ref aMA, .ref aMJ, .ref aMl, .ref aM2, .int ba, .int bb, .int (nI u1), .int (nI u2), .ref aMp, .ref aMt, .int (nI pt)]))]) [0] rfl
        refine vp_callSi (W.runV (As := [.int x3]) (rest := []) ⟨hx, hb, hml, hown, hts⟩ (k_X6_isLeaf l dC dI cI cZ aM aMb aMe aMw aMc aMd aMs aMz aMA aMJ aMl aM2 aMp aMt nL mt ba bb u1 u2 pt x3 (by omega)) (cwV 1 hts gX6_join_X6_isLeaf rfl rfl rfl (by decide +kernel) ⟨Nat.le_of_ble_eq_true rfl, Nat.le_of_ble_eq_true rfl⟩) (ln_preV (q0 := 0) (ci := 6) hPc hKK rfl rfl) rfl rfl hl.1 rfl (lv_room (Nat.le_of_ble_eq_true rfl)) dX6_join_10 ⟨Nat.le_of_ble_eq_true rfl, Nat.le_of_ble_eq_true rfl⟩) (fun r_4 w_5 => ?_)
        rcases w_5 with ⟨rfl, c_6⟩ | ⟨rfl, c_6⟩
        · obtain ⟨k2, hk2, rfl⟩ := c_6
          refine ln_if_eqF (tgt := 37) hx hb dX6_join_13 (by decide) (by decide) ?_
          refine lv_iload_n hx hb dX6_join_16 rfl (lv_at hl 1 rfl) ?_
          refine lv_iload_n hx hb dX6_join_17 rfl (lv_at hl 3 rfl) ?_
          refine ln_icmp_eq (tgt := 37) hx hb dX6_join_18 (by decide) (by omega) (by omega) (fun c_7 => ?_) (fun c_7 => ?_)
          · refine lv_iconst (v := (-1)) hx hb dX6_join_37 (by decide) ?_
            exact W.iret (v := (-1)) hx hb hr (fun t ht hW => ⟨(-1), rfl, (cif_f (fun q => q.1.2.2 (by rw [c_7]))).symm, ht⟩) (fun _ h => by cases h) dX6_join_38
          · refine lv_aload_n hx hb dX6_join_21 rfl (lv_at hl 0 rfl) ?_
            refine va_get (D := (dC, dI)) (ci := 6) (v := .int (nI mt)) (C := RX6) (T := TX6) (N := 20) hx hb hts mX6_join_inX6 hown hK hP 0 rfl rfl 8 (by decide) (hts (.fieldLink RX6 31 "LeafOrderModel" "mayTurn" "Z") mX6_join_0) (fun _ h9 => h9) rfl dX6_join_22 ?_
            refine ln_if_ne (tgt := 39) hx hb dX6_join_25 (by decide) (by omega) (fun c_8 => ?_) (fun c_8 => ?_)
            · refine lv_aload_n hx hb dX6_join_39 rfl (lv_at hl 0 rfl) ?_
              refine lv_iload_n hx hb dX6_join_40 rfl (lv_at hl 1 rfl) ?_
              refine lv_iload_n hx hb dX6_join_41 rfl (lv_at hl 2 rfl) ?_
              refine ln_if_eqT (tgt := 49) hx hb dX6_join_42 (by decide) (by decide) ?_
              refine lv_iconst (v := nI 0) hx hb dX6_join_49 (by decide) ?_
              refine lv_iload_n hx hb dX6_join_50 rfl (lv_at hl 3 rfl) ?_
              refine lv_iload hx hb dX6_join_51 (lv_at hl 4 rfl) ?_
              refine ln_if_eqT (tgt := 60) hx hb dX6_join_53 (by decide) (by decide) ?_
              refine lv_iconst (v := nI 0) hx hb dX6_join_60 (by decide) ?_
              have hPc := hP.sub (ws' := [(aM, .inr (6, [.int (nI nL), .ref aMb, .ref aMe, .ref aMw, .ref aMc, .ref aMd, .ref aMs, .ref aMz, .int (nI mt), .ref aMA, .ref aMJ, .ref aMl, .ref aM2, .int ba, .int bb, .int (nI u1), .int (nI u2), .ref aMp, .ref aMt, .int (nI pt)])), (aMb, .inl (cI, 18, .inl (nF fb))), (aMe, .inl (cI, 18, .inl (nF fe))), (aMw, .inl (cI, 18, .inl fw)), (aMc, .inl (cI, 18, .inl (nF fc))), (aMd, .inl (cI, 18, .inl (nF fd))), (aMs, .inl (cI, 27, .inl (nF fs))), (aMz, .inl (cI, 6, .inl (nF fz)))]) [0, 1, 2, 3, 4, 5, 6, 7] rfl
              refine vp_callSi (W.runV (As := [.int (nI k1), .int (nI 0), .int (nI k2), .int (nI 0)]) (rest := []) ⟨hx, hb, hml, hown, hts⟩ (k_X6_joins l dC dI cI cZ aM aMb aMe aMw aMc aMd aMs aMz aMA aMJ aMl aM2 aMp aMt nL mt ba bb u1 u2 pt fb fe fw fc fd fs fz k1 0 k2 0 bLb bLe bLc bLd bLs bCz (by omega) (by omega) (by omega) (by omega)) (cwV 4 hts gX6_join_X6_joins rfl rfl rfl (by decide +kernel) ⟨Nat.le_of_ble_eq_true rfl, Nat.le_of_ble_eq_true rfl⟩) (ln_preV (q0 := 0) (ci := 6) hPc hKK rfl rfl) rfl rfl hl.1 rfl (lv_room (Nat.le_of_ble_eq_true rfl)) dX6_join_61 ⟨Nat.le_of_ble_eq_true rfl, Nat.le_of_ble_eq_true rfl⟩) (fun r_9 w_10 => ?_)
              subst w_10
              exact W.iret (v := (nI (m_join fb fe fw fc fd fs fz (2 * k1 + 0) (2 * k2 + 0)))) hx hb hr (fun t ht hW => ⟨(nI (m_join fb fe fw fc fd fs fz (2 * k1 + 0) (2 * k2 + 0))), rfl, (by rw [cif_t ⟨⟨⟨k1, hk1, rfl⟩, ⟨k2, hk2, rfl⟩, fun q => c_7 ((nI_eq (by omega) (by omega)).mp q)⟩, Or.inl ⟨rfl, rfl⟩⟩, tn_nI (show k1 < 2 ^ 31 by omega), tn_nI (show k2 < 2 ^ 31 by omega)]), ht⟩) (fun _ h => by cases h) dX6_join_64
            · refine lv_iload_n hx hb dX6_join_28 rfl (lv_at hl 2 rfl) ?_
              refine ln_if_neF (tgt := 37) hx hb dX6_join_29 (by decide) (by decide) ?_
              refine lv_iload hx hb dX6_join_32 (lv_at hl 4 rfl) ?_
              refine ln_if_eqT (tgt := 39) hx hb dX6_join_34 (by decide) (by decide) ?_
              refine lv_aload_n hx hb dX6_join_39 rfl (lv_at hl 0 rfl) ?_
              refine lv_iload_n hx hb dX6_join_40 rfl (lv_at hl 1 rfl) ?_
              refine lv_iload_n hx hb dX6_join_41 rfl (lv_at hl 2 rfl) ?_
              refine ln_if_eqT (tgt := 49) hx hb dX6_join_42 (by decide) (by decide) ?_
              refine lv_iconst (v := nI 0) hx hb dX6_join_49 (by decide) ?_
              refine lv_iload_n hx hb dX6_join_50 rfl (lv_at hl 3 rfl) ?_
              refine lv_iload hx hb dX6_join_51 (lv_at hl 4 rfl) ?_
              refine ln_if_eqT (tgt := 60) hx hb dX6_join_53 (by decide) (by decide) ?_
              refine lv_iconst (v := nI 0) hx hb dX6_join_60 (by decide) ?_
              have hPc := hP.sub (ws' := [(aM, .inr (6, [.int (nI nL), .ref aMb, .ref aMe, .ref aMw, .ref aMc, .ref aMd, .ref aMs, .ref aMz, .int (nI mt), .ref aMA, .ref aMJ, .ref aMl, .ref aM2, .int ba, .int bb, .int (nI u1), .int (nI u2), .ref aMp, .ref aMt, .int (nI pt)])), (aMb, .inl (cI, 18, .inl (nF fb))), (aMe, .inl (cI, 18, .inl (nF fe))), (aMw, .inl (cI, 18, .inl fw)), (aMc, .inl (cI, 18, .inl (nF fc))), (aMd, .inl (cI, 18, .inl (nF fd))), (aMs, .inl (cI, 27, .inl (nF fs))), (aMz, .inl (cI, 6, .inl (nF fz)))]) [0, 1, 2, 3, 4, 5, 6, 7] rfl
              refine vp_callSi (W.runV (As := [.int (nI k1), .int (nI 0), .int (nI k2), .int (nI 0)]) (rest := []) ⟨hx, hb, hml, hown, hts⟩ (k_X6_joins l dC dI cI cZ aM aMb aMe aMw aMc aMd aMs aMz aMA aMJ aMl aM2 aMp aMt nL mt ba bb u1 u2 pt fb fe fw fc fd fs fz k1 0 k2 0 bLb bLe bLc bLd bLs bCz (by omega) (by omega) (by omega) (by omega)) (cwV 4 hts gX6_join_X6_joins rfl rfl rfl (by decide +kernel) ⟨Nat.le_of_ble_eq_true rfl, Nat.le_of_ble_eq_true rfl⟩) (ln_preV (q0 := 0) (ci := 6) hPc hKK rfl rfl) rfl rfl hl.1 rfl (lv_room (Nat.le_of_ble_eq_true rfl)) dX6_join_61 ⟨Nat.le_of_ble_eq_true rfl, Nat.le_of_ble_eq_true rfl⟩) (fun r_11 w_12 => ?_)
              subst w_12
              exact W.iret (v := (nI (m_join fb fe fw fc fd fs fz (2 * k1 + 0) (2 * k2 + 0)))) hx hb hr (fun t ht hW => ⟨(nI (m_join fb fe fw fc fd fs fz (2 * k1 + 0) (2 * k2 + 0))), rfl, (by rw [cif_t ⟨⟨⟨k1, hk1, rfl⟩, ⟨k2, hk2, rfl⟩, fun q => c_7 ((nI_eq (by omega) (by omega)).mp q)⟩, Or.inl ⟨rfl, rfl⟩⟩, tn_nI (show k1 < 2 ^ 31 by omega), tn_nI (show k2 < 2 ^ 31 by omega)]), ht⟩) (fun _ h => by cases h) dX6_join_64
        · refine ln_if_eqT (tgt := 37) hx hb dX6_join_13 (by decide) (by decide) ?_
          refine lv_iconst (v := (-1)) hx hb dX6_join_37 (by decide) ?_
          exact W.iret (v := (-1)) hx hb hr (fun t ht hW => ⟨(-1), rfl, (cif_f (fun q => c_6 q.1.2.1)).symm, ht⟩) (fun _ h => by cases h) dX6_join_38
      · refine ln_if_eqT (tgt := 37) hx hb dX6_join_5 (by decide) (by decide) ?_
        refine lv_iconst (v := (-1)) hx hb dX6_join_37 (by decide) ?_
        exact W.iret (v := (-1)) hx hb hr (fun t ht hW => ⟨(-1), rfl, (cif_f (fun q => c_3 q.1.1)).symm, ht⟩) (fun _ h => by cases h) dX6_join_38
    · refine lv_aload_n hx hb dX6_join_0 rfl (lv_at hl 0 rfl) ?_
      refine lv_iload_n hx hb dX6_join_1 rfl (lv_at hl 1 rfl) ?_
      have hPc := hP.sub (ws' := [(aM, .inr (6, [.int (nI nL), .ref aMb, .ref aMe, .ref aMw, .ref aMc, .ref aMd, .ref aMs, .ref aMz, .int (nI mt), .ref aMA, .ref aMJ, .ref aMl, .ref aM2, .int ba, .int bb, .int (nI u1), .int (nI u2), .ref aMp, .ref aMt, .int (nI pt)]))]) [0] rfl
      refine vp_callSi (W.runV (As := [.int x1]) (rest := []) ⟨hx, hb, hml, hown, hts⟩ (k_X6_isLeaf l dC dI cI cZ aM aMb aMe aMw aMc aMd aMs aMz aMA aMJ aMl aM2 aMp aMt nL mt ba bb u1 u2 pt x1 (by omega)) (cwV 1 hts gX6_join_X6_isLeaf rfl rfl rfl (by decide +kernel) ⟨Nat.le_of_ble_eq_true rfl, Nat.le_of_ble_eq_true rfl⟩) (ln_preV (q0 := 0) (ci := 6) hPc hKK rfl rfl) rfl rfl hl.1 rfl (lv_room (Nat.le_of_ble_eq_true rfl)) dX6_join_2 ⟨Nat.le_of_ble_eq_true rfl, Nat.le_of_ble_eq_true rfl⟩) (fun r_13 w_14 => ?_)
      rcases w_14 with ⟨rfl, c_15⟩ | ⟨rfl, c_15⟩
      · obtain ⟨k1, hk1, rfl⟩ := c_15
        refine ln_if_eqF (tgt := 37) hx hb dX6_join_5 (by decide) (by decide) ?_
        refine lv_aload_n hx hb dX6_join_8 rfl (lv_at hl 0 rfl) ?_
        refine lv_iload_n hx hb dX6_join_9 rfl (lv_at hl 3 rfl) ?_
        have hPc := hP.sub (ws' := [(aM, .inr (6, [.int (nI nL), .ref aMb, .ref aMe, .ref aMw, .ref aMc, .ref aMd, .ref aMs, .ref aMz, .int (nI mt), .ref aMA, .ref aMJ, .ref aMl, .ref aM2, .int ba, .int bb, .int (nI u1), .int (nI u2), .ref aMp, .ref aMt, .int (nI pt)]))]) [0] rfl
        refine vp_callSi (W.runV (As := [.int x3]) (rest := []) ⟨hx, hb, hml, hown, hts⟩ (k_X6_isLeaf l dC dI cI cZ aM aMb aMe aMw aMc aMd aMs aMz aMA aMJ aMl aM2 aMp aMt nL mt ba bb u1 u2 pt x3 (by omega)) (cwV 1 hts gX6_join_X6_isLeaf rfl rfl rfl (by decide +kernel) ⟨Nat.le_of_ble_eq_true rfl, Nat.le_of_ble_eq_true rfl⟩) (ln_preV (q0 := 0) (ci := 6) hPc hKK rfl rfl) rfl rfl hl.1 rfl (lv_room (Nat.le_of_ble_eq_true rfl)) dX6_join_10 ⟨Nat.le_of_ble_eq_true rfl, Nat.le_of_ble_eq_true rfl⟩) (fun r_16 w_17 => ?_)
        rcases w_17 with ⟨rfl, c_18⟩ | ⟨rfl, c_18⟩
        · obtain ⟨k2, hk2, rfl⟩ := c_18
          refine ln_if_eqF (tgt := 37) hx hb dX6_join_13 (by decide) (by decide) ?_
          refine lv_iload_n hx hb dX6_join_16 rfl (lv_at hl 1 rfl) ?_
          refine lv_iload_n hx hb dX6_join_17 rfl (lv_at hl 3 rfl) ?_
          refine ln_icmp_eq (tgt := 37) hx hb dX6_join_18 (by decide) (by omega) (by omega) (fun c_19 => ?_) (fun c_19 => ?_)
          · refine lv_iconst (v := (-1)) hx hb dX6_join_37 (by decide) ?_
            exact W.iret (v := (-1)) hx hb hr (fun t ht hW => ⟨(-1), rfl, (cif_f (fun q => q.1.2.2 (by rw [c_19]))).symm, ht⟩) (fun _ h => by cases h) dX6_join_38
          · refine lv_aload_n hx hb dX6_join_21 rfl (lv_at hl 0 rfl) ?_
            refine va_get (D := (dC, dI)) (ci := 6) (v := .int (nI mt)) (C := RX6) (T := TX6) (N := 20) hx hb hts mX6_join_inX6 hown hK hP 0 rfl rfl 8 (by decide) (hts (.fieldLink RX6 31 "LeafOrderModel" "mayTurn" "Z") mX6_join_0) (fun _ h9 => h9) rfl dX6_join_22 ?_
            refine ln_if_ne (tgt := 39) hx hb dX6_join_25 (by decide) (by omega) (fun c_20 => ?_) (fun c_20 => ?_)
            · refine lv_aload_n hx hb dX6_join_39 rfl (lv_at hl 0 rfl) ?_
              refine lv_iload_n hx hb dX6_join_40 rfl (lv_at hl 1 rfl) ?_
              refine lv_iload_n hx hb dX6_join_41 rfl (lv_at hl 2 rfl) ?_
              refine ln_if_eqT (tgt := 49) hx hb dX6_join_42 (by decide) (by decide) ?_
              refine lv_iconst (v := nI 0) hx hb dX6_join_49 (by decide) ?_
              refine lv_iload_n hx hb dX6_join_50 rfl (lv_at hl 3 rfl) ?_
              refine lv_iload hx hb dX6_join_51 (lv_at hl 4 rfl) ?_
              refine ln_if_eqF (tgt := 60) hx hb dX6_join_53 (by decide) (by decide) ?_
              refine lv_iconst (v := nI 1) hx hb dX6_join_56 (by decide) ?_
              refine lv_goto (tgt := 61) hx hb dX6_join_57 (by decide) ?_
              have hPc := hP.sub (ws' := [(aM, .inr (6, [.int (nI nL), .ref aMb, .ref aMe, .ref aMw, .ref aMc, .ref aMd, .ref aMs, .ref aMz, .int (nI mt), .ref aMA, .ref aMJ, .ref aMl, .ref aM2, .int ba, .int bb, .int (nI u1), .int (nI u2), .ref aMp, .ref aMt, .int (nI pt)])), (aMb, .inl (cI, 18, .inl (nF fb))), (aMe, .inl (cI, 18, .inl (nF fe))), (aMw, .inl (cI, 18, .inl fw)), (aMc, .inl (cI, 18, .inl (nF fc))), (aMd, .inl (cI, 18, .inl (nF fd))), (aMs, .inl (cI, 27, .inl (nF fs))), (aMz, .inl (cI, 6, .inl (nF fz)))]) [0, 1, 2, 3, 4, 5, 6, 7] rfl
              refine vp_callSi (W.runV (As := [.int (nI k1), .int (nI 0), .int (nI k2), .int (nI 1)]) (rest := []) ⟨hx, hb, hml, hown, hts⟩ (k_X6_joins l dC dI cI cZ aM aMb aMe aMw aMc aMd aMs aMz aMA aMJ aMl aM2 aMp aMt nL mt ba bb u1 u2 pt fb fe fw fc fd fs fz k1 0 k2 1 bLb bLe bLc bLd bLs bCz (by omega) (by omega) (by omega) (by omega)) (cwV 4 hts gX6_join_X6_joins rfl rfl rfl (by decide +kernel) ⟨Nat.le_of_ble_eq_true rfl, Nat.le_of_ble_eq_true rfl⟩) (ln_preV (q0 := 0) (ci := 6) hPc hKK rfl rfl) rfl rfl hl.1 rfl (lv_room (Nat.le_of_ble_eq_true rfl)) dX6_join_61 ⟨Nat.le_of_ble_eq_true rfl, Nat.le_of_ble_eq_true rfl⟩) (fun r_21 w_22 => ?_)
              subst w_22
              exact W.iret (v := (nI (m_join fb fe fw fc fd fs fz (2 * k1 + 0) (2 * k2 + 1)))) hx hb hr (fun t ht hW => ⟨(nI (m_join fb fe fw fc fd fs fz (2 * k1 + 0) (2 * k2 + 1))), rfl, (by rw [cif_t ⟨⟨⟨k1, hk1, rfl⟩, ⟨k2, hk2, rfl⟩, fun q => c_19 ((nI_eq (by omega) (by omega)).mp q)⟩, Or.inr c_20⟩, tn_nI (show k1 < 2 ^ 31 by omega), tn_nI (show k2 < 2 ^ 31 by omega)]), ht⟩) (fun _ h => by cases h) dX6_join_64
            · refine lv_iload_n hx hb dX6_join_28 rfl (lv_at hl 2 rfl) ?_
              refine ln_if_neF (tgt := 37) hx hb dX6_join_29 (by decide) (by decide) ?_
              refine lv_iload hx hb dX6_join_32 (lv_at hl 4 rfl) ?_
              refine ln_if_eqF (tgt := 39) hx hb dX6_join_34 (by decide) (by decide) ?_
              refine lv_iconst (v := (-1)) hx hb dX6_join_37 (by decide) ?_
              exact W.iret (v := (-1)) hx hb hr (fun t ht hW => ⟨(-1), rfl, (cif_f (fun q => q.2.elim (fun z => absurd z (by decide)) (fun z => z c_20))).symm, ht⟩) (fun _ h => by cases h) dX6_join_38
        · refine ln_if_eqT (tgt := 37) hx hb dX6_join_13 (by decide) (by decide) ?_
          refine lv_iconst (v := (-1)) hx hb dX6_join_37 (by decide) ?_
          exact W.iret (v := (-1)) hx hb hr (fun t ht hW => ⟨(-1), rfl, (cif_f (fun q => c_18 q.1.2.1)).symm, ht⟩) (fun _ h => by cases h) dX6_join_38
      · refine ln_if_eqT (tgt := 37) hx hb dX6_join_5 (by decide) (by decide) ?_
        refine lv_iconst (v := (-1)) hx hb dX6_join_37 (by decide) ?_
        exact W.iret (v := (-1)) hx hb hr (fun t ht hW => ⟨(-1), rfl, (cif_f (fun q => c_15 q.1.1)).symm, ht⟩) (fun _ h => by cases h) dX6_join_38
  · rcases (show q4 = 0 ∨ q4 = 1 by omega) with rfl | rfl
    · refine lv_aload_n hx hb dX6_join_0 rfl (lv_at hl 0 rfl) ?_
      refine lv_iload_n hx hb dX6_join_1 rfl (lv_at hl 1 rfl) ?_
      have hPc := hP.sub (ws' := [(aM, .inr (6, [.int (nI nL), .ref aMb, .ref aMe, .ref aMw, .ref aMc, .ref aMd, .ref aMs, .ref aMz, .int (nI mt), .ref aMA, .ref aMJ, .ref aMl, .ref aM2, .int ba, .int bb, .int (nI u1), .int (nI u2), .ref aMp, .ref aMt, .int (nI pt)]))]) [0] rfl
      refine vp_callSi (W.runV (As := [.int x1]) (rest := []) ⟨hx, hb, hml, hown, hts⟩ (k_X6_isLeaf l dC dI cI cZ aM aMb aMe aMw aMc aMd aMs aMz aMA aMJ aMl aM2 aMp aMt nL mt ba bb u1 u2 pt x1 (by omega)) (cwV 1 hts gX6_join_X6_isLeaf rfl rfl rfl (by decide +kernel) ⟨Nat.le_of_ble_eq_true rfl, Nat.le_of_ble_eq_true rfl⟩) (ln_preV (q0 := 0) (ci := 6) hPc hKK rfl rfl) rfl rfl hl.1 rfl (lv_room (Nat.le_of_ble_eq_true rfl)) dX6_join_2 ⟨Nat.le_of_ble_eq_true rfl, Nat.le_of_ble_eq_true rfl⟩) (fun r_23 w_24 => ?_)
      rcases w_24 with ⟨rfl, c_25⟩ | ⟨rfl, c_25⟩
      · obtain ⟨k1, hk1, rfl⟩ := c_25
        refine ln_if_eqF (tgt := 37) hx hb dX6_join_5 (by decide) (by decide) ?_
        refine lv_aload_n hx hb dX6_join_8 rfl (lv_at hl 0 rfl) ?_
        refine lv_iload_n hx hb dX6_join_9 rfl (lv_at hl 3 rfl) ?_
        have hPc := hP.sub (ws' := [(aM, .inr (6, [.int (nI nL), .ref aMb, .ref aMe, .ref aMw, .ref aMc, .ref aMd, .ref aMs, .ref aMz, .int (nI mt), .ref aMA, .ref aMJ, .ref aMl, .ref aM2, .int ba, .int bb, .int (nI u1), .int (nI u2), .ref aMp, .ref aMt, .int (nI pt)]))]) [0] rfl
        refine vp_callSi (W.runV (As := [.int x3]) (rest := []) ⟨hx, hb, hml, hown, hts⟩ (k_X6_isLeaf l dC dI cI cZ aM aMb aMe aMw aMc aMd aMs aMz aMA aMJ aMl aM2 aMp aMt nL mt ba bb u1 u2 pt x3 (by omega)) (cwV 1 hts gX6_join_X6_isLeaf rfl rfl rfl (by decide +kernel) ⟨Nat.le_of_ble_eq_true rfl, Nat.le_of_ble_eq_true rfl⟩) (ln_preV (q0 := 0) (ci := 6) hPc hKK rfl rfl) rfl rfl hl.1 rfl (lv_room (Nat.le_of_ble_eq_true rfl)) dX6_join_10 ⟨Nat.le_of_ble_eq_true rfl, Nat.le_of_ble_eq_true rfl⟩) (fun r_26 w_27 => ?_)
        rcases w_27 with ⟨rfl, c_28⟩ | ⟨rfl, c_28⟩
        · obtain ⟨k2, hk2, rfl⟩ := c_28
          refine ln_if_eqF (tgt := 37) hx hb dX6_join_13 (by decide) (by decide) ?_
          refine lv_iload_n hx hb dX6_join_16 rfl (lv_at hl 1 rfl) ?_
          refine lv_iload_n hx hb dX6_join_17 rfl (lv_at hl 3 rfl) ?_
          refine ln_icmp_eq (tgt := 37) hx hb dX6_join_18 (by decide) (by omega) (by omega) (fun c_29 => ?_) (fun c_29 => ?_)
          · refine lv_iconst (v := (-1)) hx hb dX6_join_37 (by decide) ?_
            exact W.iret (v := (-1)) hx hb hr (fun t ht hW => ⟨(-1), rfl, (cif_f (fun q => q.1.2.2 (by rw [c_29]))).symm, ht⟩) (fun _ h => by cases h) dX6_join_38
          · refine lv_aload_n hx hb dX6_join_21 rfl (lv_at hl 0 rfl) ?_
            refine va_get (D := (dC, dI)) (ci := 6) (v := .int (nI mt)) (C := RX6) (T := TX6) (N := 20) hx hb hts mX6_join_inX6 hown hK hP 0 rfl rfl 8 (by decide) (hts (.fieldLink RX6 31 "LeafOrderModel" "mayTurn" "Z") mX6_join_0) (fun _ h9 => h9) rfl dX6_join_22 ?_
            refine ln_if_ne (tgt := 39) hx hb dX6_join_25 (by decide) (by omega) (fun c_30 => ?_) (fun c_30 => ?_)
            · refine lv_aload_n hx hb dX6_join_39 rfl (lv_at hl 0 rfl) ?_
              refine lv_iload_n hx hb dX6_join_40 rfl (lv_at hl 1 rfl) ?_
              refine lv_iload_n hx hb dX6_join_41 rfl (lv_at hl 2 rfl) ?_
              refine ln_if_eqF (tgt := 49) hx hb dX6_join_42 (by decide) (by decide) ?_
              refine lv_iconst (v := nI 1) hx hb dX6_join_45 (by decide) ?_
              refine lv_goto (tgt := 50) hx hb dX6_join_46 (by decide) ?_
              refine lv_iload_n hx hb dX6_join_50 rfl (lv_at hl 3 rfl) ?_
              refine lv_iload hx hb dX6_join_51 (lv_at hl 4 rfl) ?_
              refine ln_if_eqT (tgt := 60) hx hb dX6_join_53 (by decide) (by decide) ?_
              refine lv_iconst (v := nI 0) hx hb dX6_join_60 (by decide) ?_
              have hPc := hP.sub (ws' := [(aM, .inr (6, [.int (nI nL), .ref aMb, .ref aMe, .ref aMw, .ref aMc, .ref aMd, .ref aMs, .ref aMz, .int (nI mt), .ref aMA, .ref aMJ, .ref aMl, .ref aM2, .int ba, .int bb, .int (nI u1), .int (nI u2), .ref aMp, .ref aMt, .int (nI pt)])), (aMb, .inl (cI, 18, .inl (nF fb))), (aMe, .inl (cI, 18, .inl (nF fe))), (aMw, .inl (cI, 18, .inl fw)), (aMc, .inl (cI, 18, .inl (nF fc))), (aMd, .inl (cI, 18, .inl (nF fd))), (aMs, .inl (cI, 27, .inl (nF fs))), (aMz, .inl (cI, 6, .inl (nF fz)))]) [0, 1, 2, 3, 4, 5, 6, 7] rfl
              refine vp_callSi (W.runV (As := [.int (nI k1), .int (nI 1), .int (nI k2), .int (nI 0)]) (rest := []) ⟨hx, hb, hml, hown, hts⟩ (k_X6_joins l dC dI cI cZ aM aMb aMe aMw aMc aMd aMs aMz aMA aMJ aMl aM2 aMp aMt nL mt ba bb u1 u2 pt fb fe fw fc fd fs fz k1 1 k2 0 bLb bLe bLc bLd bLs bCz (by omega) (by omega) (by omega) (by omega)) (cwV 4 hts gX6_join_X6_joins rfl rfl rfl (by decide +kernel) ⟨Nat.le_of_ble_eq_true rfl, Nat.le_of_ble_eq_true rfl⟩) (ln_preV (q0 := 0) (ci := 6) hPc hKK rfl rfl) rfl rfl hl.1 rfl (lv_room (Nat.le_of_ble_eq_true rfl)) dX6_join_61 ⟨Nat.le_of_ble_eq_true rfl, Nat.le_of_ble_eq_true rfl⟩) (fun r_31 w_32 => ?_)
              subst w_32
              exact W.iret (v := (nI (m_join fb fe fw fc fd fs fz (2 * k1 + 1) (2 * k2 + 0)))) hx hb hr (fun t ht hW => ⟨(nI (m_join fb fe fw fc fd fs fz (2 * k1 + 1) (2 * k2 + 0))), rfl, (by rw [cif_t ⟨⟨⟨k1, hk1, rfl⟩, ⟨k2, hk2, rfl⟩, fun q => c_29 ((nI_eq (by omega) (by omega)).mp q)⟩, Or.inr c_30⟩, tn_nI (show k1 < 2 ^ 31 by omega), tn_nI (show k2 < 2 ^ 31 by omega)]), ht⟩) (fun _ h => by cases h) dX6_join_64
            · refine lv_iload_n hx hb dX6_join_28 rfl (lv_at hl 2 rfl) ?_
              refine ln_if_neT (tgt := 37) hx hb dX6_join_29 (by decide) (by decide) ?_
              refine lv_iconst (v := (-1)) hx hb dX6_join_37 (by decide) ?_
              exact W.iret (v := (-1)) hx hb hr (fun t ht hW => ⟨(-1), rfl, (cif_f (fun q => q.2.elim (fun z => absurd z (by decide)) (fun z => z c_30))).symm, ht⟩) (fun _ h => by cases h) dX6_join_38
        · refine ln_if_eqT (tgt := 37) hx hb dX6_join_13 (by decide) (by decide) ?_
          refine lv_iconst (v := (-1)) hx hb dX6_join_37 (by decide) ?_
          exact W.iret (v := (-1)) hx hb hr (fun t ht hW => ⟨(-1), rfl, (cif_f (fun q => c_28 q.1.2.1)).symm, ht⟩) (fun _ h => by cases h) dX6_join_38
      · refine ln_if_eqT (tgt := 37) hx hb dX6_join_5 (by decide) (by decide) ?_
        refine lv_iconst (v := (-1)) hx hb dX6_join_37 (by decide) ?_
        exact W.iret (v := (-1)) hx hb hr (fun t ht hW => ⟨(-1), rfl, (cif_f (fun q => c_25 q.1.1)).symm, ht⟩) (fun _ h => by cases h) dX6_join_38
    · refine lv_aload_n hx hb dX6_join_0 rfl (lv_at hl 0 rfl) ?_
      refine lv_iload_n hx hb dX6_join_1 rfl (lv_at hl 1 rfl) ?_
      have hPc := hP.sub (ws' := [(aM, .inr (6, [.int (nI nL), .ref aMb, .ref aMe, .ref aMw, .ref aMc, .ref aMd, .ref aMs, .ref aMz, .int (nI mt), .ref aMA, .ref aMJ, .ref aMl, .ref aM2, .int ba, .int bb, .int (nI u1), .int (nI u2), .ref aMp, .ref aMt, .int (nI pt)]))]) [0] rfl
      refine vp_callSi (W.runV (As := [.int x1]) (rest := []) ⟨hx, hb, hml, hown, hts⟩ (k_X6_isLeaf l dC dI cI cZ aM aMb aMe aMw aMc aMd aMs aMz aMA aMJ aMl aM2 aMp aMt nL mt ba bb u1 u2 pt x1 (by omega)) (cwV 1 hts gX6_join_X6_isLeaf rfl rfl rfl (by decide +kernel) ⟨Nat.le_of_ble_eq_true rfl, Nat.le_of_ble_eq_true rfl⟩) (ln_preV (q0 := 0) (ci := 6) hPc hKK rfl rfl) rfl rfl hl.1 rfl (lv_room (Nat.le_of_ble_eq_true rfl)) dX6_join_2 ⟨Nat.le_of_ble_eq_true rfl, Nat.le_of_ble_eq_true rfl⟩) (fun r_33 w_34 => ?_)
      rcases w_34 with ⟨rfl, c_35⟩ | ⟨rfl, c_35⟩
      · obtain ⟨k1, hk1, rfl⟩ := c_35
        refine ln_if_eqF (tgt := 37) hx hb dX6_join_5 (by decide) (by decide) ?_
        refine lv_aload_n hx hb dX6_join_8 rfl (lv_at hl 0 rfl) ?_
        refine lv_iload_n hx hb dX6_join_9 rfl (lv_at hl 3 rfl) ?_
        have hPc := hP.sub (ws' := [(aM, .inr (6, [.int (nI nL), .ref aMb, .ref aMe, .ref aMw, .ref aMc, .ref aMd, .ref aMs, .ref aMz, .int (nI mt), .ref aMA, .ref aMJ, .ref aMl, .ref aM2, .int ba, .int bb, .int (nI u1), .int (nI u2), .ref aMp, .ref aMt, .int (nI pt)]))]) [0] rfl
        refine vp_callSi (W.runV (As := [.int x3]) (rest := []) ⟨hx, hb, hml, hown, hts⟩ (k_X6_isLeaf l dC dI cI cZ aM aMb aMe aMw aMc aMd aMs aMz aMA aMJ aMl aM2 aMp aMt nL mt ba bb u1 u2 pt x3 (by omega)) (cwV 1 hts gX6_join_X6_isLeaf rfl rfl rfl (by decide +kernel) ⟨Nat.le_of_ble_eq_true rfl, Nat.le_of_ble_eq_true rfl⟩) (ln_preV (q0 := 0) (ci := 6) hPc hKK rfl rfl) rfl rfl hl.1 rfl (lv_room (Nat.le_of_ble_eq_true rfl)) dX6_join_10 ⟨Nat.le_of_ble_eq_true rfl, Nat.le_of_ble_eq_true rfl⟩) (fun r_36 w_37 => ?_)
        rcases w_37 with ⟨rfl, c_38⟩ | ⟨rfl, c_38⟩
        · obtain ⟨k2, hk2, rfl⟩ := c_38
          refine ln_if_eqF (tgt := 37) hx hb dX6_join_13 (by decide) (by decide) ?_
          refine lv_iload_n hx hb dX6_join_16 rfl (lv_at hl 1 rfl) ?_
          refine lv_iload_n hx hb dX6_join_17 rfl (lv_at hl 3 rfl) ?_
          refine ln_icmp_eq (tgt := 37) hx hb dX6_join_18 (by decide) (by omega) (by omega) (fun c_39 => ?_) (fun c_39 => ?_)
          · refine lv_iconst (v := (-1)) hx hb dX6_join_37 (by decide) ?_
            exact W.iret (v := (-1)) hx hb hr (fun t ht hW => ⟨(-1), rfl, (cif_f (fun q => q.1.2.2 (by rw [c_39]))).symm, ht⟩) (fun _ h => by cases h) dX6_join_38
          · refine lv_aload_n hx hb dX6_join_21 rfl (lv_at hl 0 rfl) ?_
            refine va_get (D := (dC, dI)) (ci := 6) (v := .int (nI mt)) (C := RX6) (T := TX6) (N := 20) hx hb hts mX6_join_inX6 hown hK hP 0 rfl rfl 8 (by decide) (hts (.fieldLink RX6 31 "LeafOrderModel" "mayTurn" "Z") mX6_join_0) (fun _ h9 => h9) rfl dX6_join_22 ?_
            refine ln_if_ne (tgt := 39) hx hb dX6_join_25 (by decide) (by omega) (fun c_40 => ?_) (fun c_40 => ?_)
            · refine lv_aload_n hx hb dX6_join_39 rfl (lv_at hl 0 rfl) ?_
              refine lv_iload_n hx hb dX6_join_40 rfl (lv_at hl 1 rfl) ?_
              refine lv_iload_n hx hb dX6_join_41 rfl (lv_at hl 2 rfl) ?_
              refine ln_if_eqF (tgt := 49) hx hb dX6_join_42 (by decide) (by decide) ?_
              refine lv_iconst (v := nI 1) hx hb dX6_join_45 (by decide) ?_
              refine lv_goto (tgt := 50) hx hb dX6_join_46 (by decide) ?_
              refine lv_iload_n hx hb dX6_join_50 rfl (lv_at hl 3 rfl) ?_
              refine lv_iload hx hb dX6_join_51 (lv_at hl 4 rfl) ?_
              refine ln_if_eqF (tgt := 60) hx hb dX6_join_53 (by decide) (by decide) ?_
              refine lv_iconst (v := nI 1) hx hb dX6_join_56 (by decide) ?_
              refine lv_goto (tgt := 61) hx hb dX6_join_57 (by decide) ?_
              have hPc := hP.sub (ws' := [(aM, .inr (6, [.int (nI nL), .ref aMb, .ref aMe, .ref aMw, .ref aMc, .ref aMd, .ref aMs, .ref aMz, .int (nI mt), .ref aMA, .ref aMJ, .ref aMl, .ref aM2, .int ba, .int bb, .int (nI u1), .int (nI u2), .ref aMp, .ref aMt, .int (nI pt)])), (aMb, .inl (cI, 18, .inl (nF fb))), (aMe, .inl (cI, 18, .inl (nF fe))), (aMw, .inl (cI, 18, .inl fw)), (aMc, .inl (cI, 18, .inl (nF fc))), (aMd, .inl (cI, 18, .inl (nF fd))), (aMs, .inl (cI, 27, .inl (nF fs))), (aMz, .inl (cI, 6, .inl (nF fz)))]) [0, 1, 2, 3, 4, 5, 6, 7] rfl
              refine vp_callSi (W.runV (As := [.int (nI k1), .int (nI 1), .int (nI k2), .int (nI 1)]) (rest := []) ⟨hx, hb, hml, hown, hts⟩ (k_X6_joins l dC dI cI cZ aM aMb aMe aMw aMc aMd aMs aMz aMA aMJ aMl aM2 aMp aMt nL mt ba bb u1 u2 pt fb fe fw fc fd fs fz k1 1 k2 1 bLb bLe bLc bLd bLs bCz (by omega) (by omega) (by omega) (by omega)) (cwV 4 hts gX6_join_X6_joins rfl rfl rfl (by decide +kernel) ⟨Nat.le_of_ble_eq_true rfl, Nat.le_of_ble_eq_true rfl⟩) (ln_preV (q0 := 0) (ci := 6) hPc hKK rfl rfl) rfl rfl hl.1 rfl (lv_room (Nat.le_of_ble_eq_true rfl)) dX6_join_61 ⟨Nat.le_of_ble_eq_true rfl, Nat.le_of_ble_eq_true rfl⟩) (fun r_41 w_42 => ?_)
              subst w_42
              exact W.iret (v := (nI (m_join fb fe fw fc fd fs fz (2 * k1 + 1) (2 * k2 + 1)))) hx hb hr (fun t ht hW => ⟨(nI (m_join fb fe fw fc fd fs fz (2 * k1 + 1) (2 * k2 + 1))), rfl, (by rw [cif_t ⟨⟨⟨k1, hk1, rfl⟩, ⟨k2, hk2, rfl⟩, fun q => c_39 ((nI_eq (by omega) (by omega)).mp q)⟩, Or.inr c_40⟩, tn_nI (show k1 < 2 ^ 31 by omega), tn_nI (show k2 < 2 ^ 31 by omega)]), ht⟩) (fun _ h => by cases h) dX6_join_64
            · refine lv_iload_n hx hb dX6_join_28 rfl (lv_at hl 2 rfl) ?_
              refine ln_if_neT (tgt := 37) hx hb dX6_join_29 (by decide) (by decide) ?_
              refine lv_iconst (v := (-1)) hx hb dX6_join_37 (by decide) ?_
              exact W.iret (v := (-1)) hx hb hr (fun t ht hW => ⟨(-1), rfl, (cif_f (fun q => q.2.elim (fun z => absurd z (by decide)) (fun z => z c_40))).symm, ht⟩) (fun _ h => by cases h) dX6_join_38
        · refine ln_if_eqT (tgt := 37) hx hb dX6_join_13 (by decide) (by decide) ?_
          refine lv_iconst (v := (-1)) hx hb dX6_join_37 (by decide) ?_
          exact W.iret (v := (-1)) hx hb hr (fun t ht hW => ⟨(-1), rfl, (cif_f (fun q => c_38 q.1.2.1)).symm, ht⟩) (fun _ h => by cases h) dX6_join_38
      · refine ln_if_eqT (tgt := 37) hx hb dX6_join_5 (by decide) (by decide) ?_
        refine lv_iconst (v := (-1)) hx hb dX6_join_37 (by decide) ?_
        exact W.iret (v := (-1)) hx hb hr (fun t ht hW => ⟨(-1), rfl, (cif_f (fun q => c_35 q.1.1)).symm, ht⟩) (fun _ h => by cases h) dX6_join_38
theorem mX6_about_0 : Cond.fieldLink RX6 28 "LeafOrderModel" "weight" "[I" ∈ wsX6_about := by decide +kernel
theorem mX6_about_inX6 : ∀ w ∈ wsX60, w ∈ wsX6_about := by decide +kernel
theorem mX6_about_2 : Cond.fieldLink RX6 31 "LeafOrderModel" "mayTurn" "Z" ∈ wsX6_about := by decide +kernel
theorem mX6_about_3 : Cond.fieldLink RX6 61 "LeafOrderModel" "leaves" "I" ∈ wsX6_about := by decide +kernel
set_option maxHeartbeats 4000000 in
set_option maxRecDepth 100000 in
theorem k_X6_about (l : Launch) (dC : Nat → ClassId) (dI : Nat → Nat → Nat) (cI cZ : ClassId) (aM aMb aMe aMw aMc aMd aMs aMz aMA aMJ aMl aM2 aMp aMt : Nat) (nL : Nat) (mt : Nat) (ba : Int32) (bb : Int32) (u1 : Nat) (u2 : Nat) (pt : Nat) (fz : Nat → Nat) (x1 : Int32) (bCz : ∀ k, fz k ≤ 999) (hmt : mt < 2) : Met l yX6_about wsX6_about { frames := 1, cells := 0, slots := 0, locals := 22 } (va_Pc [.ref aM, .int x1] (fun U => va_P (dC, dI) vwCl [(aM, .inr (6, [.int (nI nL), .ref aMb, .ref aMe, .ref aMw, .ref aMc, .ref aMd, .ref aMs, .ref aMz, .int (nI mt), .ref aMA, .ref aMJ, .ref aMl, .ref aM2, .int ba, .int bb, .int (nI u1), .int (nI u2), .ref aMp, .ref aMt, .int (nI pt)])), (aMz, .inl (cI, 6, .inl (nF fz)))] U.heap ∧ lK dC dI cI cZ U)) (vp_Si (fun r => r = (pw_about nL fz mt x1))) 0 0 (fun _ => False) := by
  refine Met.ofW (cc := cX6_about) (maxL := 2) (ret := (some .int)) (by decide) rfl ?_
  intro p e s m args below meth c s₁ B hml hv
  obtain ⟨rfl, hP, hKK⟩ := hv
  have hK := hKK.1
  have hx := B.exec
  have hb := B.bytes
  have hr := B.returns
  have hts := atoms_spec (ws := wsX6_about) B.pre
  have hown : s.vm.findClass RX6 = some m.cls := findClass_of_methodNamed B.named
  have hlocks := B.notSynchronized
  have hl := lv_entry ([.ref aM, .int x1]) (n := 2) (Nat.le_of_ble_eq_true rfl)
  rw [lg_entry_eq]
  generalize (lg_sl ([.ref aM, .int x1]) ++ List.replicate (2 - (lg_sl ([.ref aM, .int x1])).length) Slot.unset).toArray = ls at hl ⊢
  have hl : lv_has ls 2 [(0, .ref aM), (1, .int x1)] := hl
  refine lv_iload_n hx hb dX6_about_0 rfl (lv_at hl 1 rfl) ?_
  refine lv_if_ne (tgt := 11) hx hb dX6_about_1 (by decide) (fun c_1 => ?_) (fun c_1 => ?_)
  · refine lv_iload_n hx hb dX6_about_11 rfl (lv_at hl 1 rfl) ?_
    refine lv_iconst (v := nI 1) hx hb dX6_about_12 (by decide) ?_
    refine lv_bipush (v := nI 6) hx hb dX6_about_13 (by decide) ?_
    refine vp_callSi (W.runS (As := [.int x1, .int (nI 1), .int (nI 6)]) (rest := []) ⟨hx, hb, hml, hown, hts⟩ (k_X6_in l dC dI cI cZ x1 (nI 1) (nI 6)) (va_cwS 3 hts gX6_about_X6_in rfl rfl rfl (by decide +kernel) ⟨Nat.le_of_ble_eq_true rfl, Nat.le_of_ble_eq_true rfl⟩) ln_preS0 rfl rfl hl.1 rfl (lv_room (Nat.le_of_ble_eq_true rfl)) dX6_about_15 ⟨Nat.le_of_ble_eq_true rfl, Nat.le_of_ble_eq_true rfl⟩) (fun r_2 w_3 => ?_)
    rcases w_3 with ⟨rfl, c_4⟩ | ⟨rfl, c_4⟩
    · refine ln_if_eqF (tgt := 32) hx hb dX6_about_18 (by decide) (by decide) ?_
      obtain ⟨k1, hk1, hk2, rfl⟩ := ab_num c_4.1 c_4.2
      refine lv_aload_n hx hb dX6_about_21 rfl (lv_at hl 0 rfl) ?_
      refine va_get (D := (dC, dI)) (ci := 6) (v := .ref aMz) (C := RX6) (T := TX6) (N := 20) hx hb hts mX6_about_inX6 hown hK hP 0 rfl rfl 7 (by decide) (hts (.fieldLink RX6 28 "LeafOrderModel" "weight" "[I") mX6_about_0) (fun _ h9 => h9) rfl dX6_about_22 ?_
      refine lv_iload_n hx hb dX6_about_25 rfl (lv_at hl 1 rfl) ?_
      refine lv_iconst (v := nI 1) hx hb dX6_about_26 (by decide) ?_
      refine ln_isub hx hb dX6_about_27 (by omega) ?_
      refine ln_iald (i := k1 - 1) hx hb hK hP 1 0 rfl rfl (by omega) (by decide) dX6_about_28 ?_
      have b_5 := bCz (k1 - 1)
      refine lv_goto (tgt := 54) hx hb dX6_about_29 (by decide) ?_
      exact W.iret (v := (nI (fz (k1 - 1)))) hx hb hr (fun t ht hW => ⟨(nI (fz (k1 - 1))), rfl, (by unfold pw_about; rw [if_neg c_1, cif_t (ab_in hk1 hk2), tn_nI (show k1 < 2 ^ 31 by omega)]), ht⟩) (fun _ h => by cases h) dX6_about_54
    · refine ln_if_eqT (tgt := 32) hx hb dX6_about_18 (by decide) (by decide) ?_
      refine lv_iload_n hx hb dX6_about_32 rfl (lv_at hl 1 rfl) ?_
      refine lv_bipush (v := nI 7) hx hb dX6_about_33 (by decide) ?_
      refine lv_icmp_ne (tgt := 53) hx hb dX6_about_35 (by decide) (fun c_6 => ?_) (fun c_6 => ?_)
      · refine lv_iconst (v := (-1)) hx hb dX6_about_53 (by decide) ?_
        exact W.iret (v := (-1)) hx hb hr (fun t ht hW => ⟨(-1), rfl, (by unfold pw_about; rw [if_neg c_1, cif_f (fun q => c_4 ⟨fun z => ab_no1 q.1 z, fun z => ab_no2 q.2 z⟩), if_neg c_6]), ht⟩) (fun _ h => by cases h) dX6_about_54
      · refine lv_aload_n hx hb dX6_about_38 rfl (lv_at hl 0 rfl) ?_
        refine va_get (D := (dC, dI)) (ci := 6) (v := .int (nI mt)) (C := RX6) (T := TX6) (N := 20) hx hb hts mX6_about_inX6 hown hK hP 0 rfl rfl 8 (by decide) (hts (.fieldLink RX6 31 "LeafOrderModel" "mayTurn" "Z") mX6_about_2) (fun _ h9 => h9) rfl dX6_about_39 ?_
        refine ln_if_eq (tgt := 49) hx hb dX6_about_42 (by decide) (by omega) (fun c_7 => ?_) (fun c_7 => ?_)
        · refine lv_iconst (v := nI 0) hx hb dX6_about_49 (by decide) ?_
          refine lv_goto (tgt := 54) hx hb dX6_about_50 (by decide) ?_
          exact W.iret (v := (nI 0)) hx hb hr (fun t ht hW => ⟨(nI 0), rfl, (by unfold pw_about; rw [if_neg c_1, cif_f (fun q => c_4 ⟨fun z => ab_no1 q.1 z, fun z => ab_no2 q.2 z⟩), if_pos c_6, show mt = 0 by omega]), ht⟩) (fun _ h => by cases h) dX6_about_54
        · refine lv_iconst (v := nI 1) hx hb dX6_about_45 (by decide) ?_
          refine lv_goto (tgt := 54) hx hb dX6_about_46 (by decide) ?_
          exact W.iret (v := (nI 1)) hx hb hr (fun t ht hW => ⟨(nI 1), rfl, (by unfold pw_about; rw [if_neg c_1, cif_f (fun q => c_4 ⟨fun z => ab_no1 q.1 z, fun z => ab_no2 q.2 z⟩), if_pos c_6, show mt = 1 by omega]), ht⟩) (fun _ h => by cases h) dX6_about_54
  · refine lv_aload_n hx hb dX6_about_4 rfl (lv_at hl 0 rfl) ?_
    refine va_get (D := (dC, dI)) (ci := 6) (v := .int (nI nL)) (C := RX6) (T := TX6) (N := 20) hx hb hts mX6_about_inX6 hown hK hP 0 rfl rfl 0 (by decide) (hts (.fieldLink RX6 61 "LeafOrderModel" "leaves" "I") mX6_about_3) (fun _ h9 => h9) rfl dX6_about_5 ?_
    refine lv_goto (tgt := 54) hx hb dX6_about_8 (by decide) ?_
    exact W.iret (v := (nI nL)) hx hb hr (fun t ht hW => ⟨(nI nL), rfl, (by unfold pw_about; rw [if_pos c_1]), ht⟩) (fun _ h => by cases h) dX6_about_54
theorem mX6_told_0 : Cond.constant RX6 87 (1000000000) ∈ wsX6_told := by decide +kernel
set_option maxHeartbeats 4000000 in
set_option maxRecDepth 100000 in
theorem k_X6_told (l : Launch) (dC : Nat → ClassId) (dI : Nat → Nat → Nat) (cI cZ : ClassId) (aM aMb aMe aMw aMc aMd aMs aMz aMA aMJ aMl aM2 aMp aMt : Nat) (nL : Nat) (mt : Nat) (ba : Int32) (bb : Int32) (u1 : Nat) (u2 : Nat) (pt : Nat) (q1 : Nat) (h1 : q1 ≤ 1000000000) : Met l yX6_told wsX6_told { frames := 0, cells := 0, slots := 0, locals := 0 } (va_Pc [.ref aM, .int (nI q1)] (fun U => va_P (dC, dI) vwCl [(aM, .inr (6, [.int (nI nL), .ref aMb, .ref aMe, .ref aMw, .ref aMc, .ref aMd, .ref aMs, .ref aMz, .int (nI mt), .ref aMA, .ref aMJ, .ref aMl, .ref aM2, .int ba, .int bb, .int (nI u1), .int (nI u2), .ref aMp, .ref aMt, .int (nI pt)]))] U.heap ∧ lK dC dI cI cZ U)) (vp_Si (fun r => r = (m_told q1))) 0 0 (fun _ => False) := by
  refine Met.ofW (cc := cX6_told) (maxL := 2) (ret := (some .int)) (by decide) rfl ?_
  intro p e s m args below meth c s₁ B hml hv
  obtain ⟨rfl, hP, hKK⟩ := hv
  have hK := hKK.1
  have hx := B.exec
  have hb := B.bytes
  have hr := B.returns
  have hts := atoms_spec (ws := wsX6_told) B.pre
  have hown : s.vm.findClass RX6 = some m.cls := findClass_of_methodNamed B.named
  have hlocks := B.notSynchronized
  have hl := lv_entry ([.ref aM, .int (nI q1)]) (n := 2) (Nat.le_of_ble_eq_true rfl)
  rw [lg_entry_eq]
  generalize (lg_sl ([.ref aM, .int (nI q1)]) ++ List.replicate (2 - (lg_sl ([.ref aM, .int (nI q1)])).length) Slot.unset).toArray = ls at hl ⊢
  have hl : lv_has ls 2 [(0, .ref aM), (1, .int (nI q1))] := hl
  refine lv_iload_n hx hb dX6_told_0 rfl (lv_at hl 1 rfl) ?_
  refine lv_ldc (v := nI 1000000000) hx hb hown (hts (.constant RX6 87 (1000000000)) mX6_told_0) dX6_told_1 ?_
  refine ln_icmp_ne (tgt := 10) hx hb dX6_told_3 (by decide) (by omega) (by decide) (fun c_1 => ?_) (fun c_1 => ?_)
  · refine lv_iload_n hx hb dX6_told_10 rfl (lv_at hl 1 rfl) ?_
    exact W.iret (v := (nI q1)) hx hb hr (fun t ht hW => ⟨(nI q1), rfl, (by unfold m_told; rw [if_neg c_1]), ht⟩) (fun _ h => by cases h) dX6_told_11
  · refine lv_iconst (v := (-1)) hx hb dX6_told_6 (by decide) ?_
    refine lv_goto (tgt := 11) hx hb dX6_told_7 (by decide) ?_
    exact W.iret (v := (-1)) hx hb hr (fun t ht hW => ⟨(-1), rfl, (by unfold m_told; rw [if_pos c_1]), ht⟩) (fun _ h => by cases h) dX6_told_11
theorem mX6_all_0 : Cond.fieldLink RX6 61 "LeafOrderModel" "leaves" "I" ∈ wsX6_all := by decide +kernel
theorem mX6_all_inX6 : ∀ w ∈ wsX60, w ∈ wsX6_all := by decide +kernel
set_option maxHeartbeats 4000000 in
set_option maxRecDepth 100000 in
theorem k_X6_all (l : Launch) (dC : Nat → ClassId) (dI : Nat → Nat → Nat) (cI cZ : ClassId) (aM aMb aMe aMw aMc aMd aMs aMz aMA aMJ aMl aM2 aMp aMt : Nat) (nL : Nat) (mt : Nat) (ba : Int32) (bb : Int32) (u1 : Nat) (u2 : Nat) (pt : Nat) (hn : nL ≤ 9) : Met l yX6_all wsX6_all { frames := 0, cells := 0, slots := 0, locals := 0 } (va_Pc [.ref aM] (fun U => va_P (dC, dI) vwCl [(aM, .inr (6, [.int (nI nL), .ref aMb, .ref aMe, .ref aMw, .ref aMc, .ref aMd, .ref aMs, .ref aMz, .int (nI mt), .ref aMA, .ref aMJ, .ref aMl, .ref aM2, .int ba, .int bb, .int (nI u1), .int (nI u2), .ref aMp, .ref aMt, .int (nI pt)]))] U.heap ∧ lK dC dI cI cZ U)) (vp_Si (fun r => r = (nI (2 ^ nL - 1)))) 0 0 (fun _ => False) := by
  refine Met.ofW (cc := cX6_all) (maxL := 1) (ret := (some .int)) (by decide) rfl ?_
  intro p e s m args below meth c s₁ B hml hv
  obtain ⟨rfl, hP, hKK⟩ := hv
  have hK := hKK.1
  have hx := B.exec
  have hb := B.bytes
  have hr := B.returns
  have hts := atoms_spec (ws := wsX6_all) B.pre
  have hown : s.vm.findClass RX6 = some m.cls := findClass_of_methodNamed B.named
  have hlocks := B.notSynchronized
  have hl := lv_entry ([.ref aM]) (n := 1) (Nat.le_of_ble_eq_true rfl)
  rw [lg_entry_eq]
  generalize (lg_sl ([.ref aM]) ++ List.replicate (1 - (lg_sl ([.ref aM])).length) Slot.unset).toArray = ls at hl ⊢
  have hl : lv_has ls 1 [(0, .ref aM)] := hl
  refine lv_iconst (v := nI 1) hx hb dX6_all_0 (by decide) ?_
  refine lv_aload_n hx hb dX6_all_1 rfl (lv_at hl 0 rfl) ?_
  refine va_get (D := (dC, dI)) (ci := 6) (v := .int (nI nL)) (C := RX6) (T := TX6) (N := 20) hx hb hts mX6_all_inX6 hown hK hP 0 rfl rfl 0 (by decide) (hts (.fieldLink RX6 61 "LeafOrderModel" "leaves" "I") mX6_all_0) (fun _ h9 => h9) rfl dX6_all_2 ?_
  refine ln_ishl1 hx hb dX6_all_5 (by omega) ?_
  refine lv_iconst (v := nI 1) hx hb dX6_all_6 (by decide) ?_
  refine ln_isub hx hb dX6_all_7 (ln_one_two_pow _) ?_
  exact W.iret (v := (nI ((2 ^ nL) - 1))) hx hb hr (fun t ht hW => ⟨(nI ((2 ^ nL) - 1)), rfl, rfl, ht⟩) (fun _ h => by cases h) dX6_all_8
set_option maxHeartbeats 4000000 in
set_option maxRecDepth 100000 in
theorem k_X6_stands (l : Launch) (dC : Nat → ClassId) (dI : Nat → Nat → Nat) (cI cZ : ClassId) (aM aMb aMe aMw aMc aMd aMs aMz aMA aMJ aMl aM2 aMp aMt : Nat) (nL : Nat) (mt : Nat) (ba : Int32) (bb : Int32) (u1 : Nat) (u2 : Nat) (pt : Nat) (q1 : Nat) (q2 : Nat) (q3 : Nat) : Met l yX6_stands wsX6_stands { frames := 0, cells := 0, slots := 0, locals := 0 } (va_Pc [.ref aM, .int (nI q1), .int (nI q2), .int (nI q3)] (fun U => va_P (dC, dI) vwCl [(aM, .inr (6, [.int (nI nL), .ref aMb, .ref aMe, .ref aMw, .ref aMc, .ref aMd, .ref aMs, .ref aMz, .int (nI mt), .ref aMA, .ref aMJ, .ref aMl, .ref aM2, .int ba, .int bb, .int (nI u1), .int (nI u2), .ref aMp, .ref aMt, .int (nI pt)]))] U.heap ∧ lK dC dI cI cZ U)) (vp_Si (fun r => r = (nI (18 * q1 + 2 * q2 + q3)))) 0 0 (fun _ => False) := by
  refine Met.ofW (cc := cX6_stands) (maxL := 4) (ret := (some .int)) (by decide) rfl ?_
  intro p e s m args below meth c s₁ B hml hv
  obtain ⟨rfl, hP, hKK⟩ := hv
  have hK := hKK.1
  have hx := B.exec
  have hb := B.bytes
  have hr := B.returns
  have hts := atoms_spec (ws := wsX6_stands) B.pre
  have hown : s.vm.findClass RX6 = some m.cls := findClass_of_methodNamed B.named
  have hlocks := B.notSynchronized
  have hl := lv_entry ([.ref aM, .int (nI q1), .int (nI q2), .int (nI q3)]) (n := 4) (Nat.le_of_ble_eq_true rfl)
  rw [lg_entry_eq]
  generalize (lg_sl ([.ref aM, .int (nI q1), .int (nI q2), .int (nI q3)]) ++ List.replicate (4 - (lg_sl ([.ref aM, .int (nI q1), .int (nI q2), .int (nI q3)])).length) Slot.unset).toArray = ls at hl ⊢
  have hl : lv_has ls 4 [(0, .ref aM), (1, .int (nI q1)), (2, .int (nI q2)), (3, .int (nI q3))] := hl
  refine lv_bipush (v := nI 18) hx hb dX6_stands_0 (by decide) ?_
  refine lv_iload_n hx hb dX6_stands_2 rfl (lv_at hl 1 rfl) ?_
  refine ln_imul hx hb dX6_stands_3 ?_
  refine lv_iconst (v := nI 2) hx hb dX6_stands_4 (by decide) ?_
  refine lv_iload_n hx hb dX6_stands_5 rfl (lv_at hl 2 rfl) ?_
  refine ln_imul hx hb dX6_stands_6 ?_
  refine ln_iadd hx hb dX6_stands_7 ?_
  refine lv_iload_n hx hb dX6_stands_8 rfl (lv_at hl 3 rfl) ?_
  refine ln_iadd hx hb dX6_stands_9 ?_
  exact W.iret (v := (nI (((18 * q1) + (2 * q2)) + q3))) hx hb hr (fun t ht hW => ⟨(nI (((18 * q1) + (2 * q2)) + q3)), rfl, rfl, ht⟩) (fun _ h => by cases h) dX6_stands_10
