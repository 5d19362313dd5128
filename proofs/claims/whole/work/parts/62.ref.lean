theorem mX6_reads_0 : Cond.fieldLink RX6 61 "LeafOrderModel" "leaves" "I" ∈ wsX6_reads := by decide +kernel
theorem mX6_reads_inX6 : ∀ w ∈ wsX60, w ∈ wsX6_reads := by decide +kernel
theorem mX6_reads_2 : Cond.fieldLink RX6 55 "LeafOrderModel" "place" "[I" ∈ wsX6_reads := by decide +kernel
theorem mX6_reads_3 : Cond.fieldLink RX6 58 "LeafOrderModel" "turned" "[I" ∈ wsX6_reads := by decide +kernel
theorem mX6_reads_4 : Cond.fieldLink RX6 42 "LeafOrderModel" "least" "[I" ∈ wsX6_reads := by decide +kernel
theorem mX6_reads_5 : Cond.constant RX6 87 (1000000000) ∈ wsX6_reads := by decide +kernel
theorem mX6_reads_6 : Cond.fieldLink RX6 28 "LeafOrderModel" "weight" "[I" ∈ wsX6_reads := by decide +kernel
set_option maxHeartbeats 4000000 in
set_option maxRecDepth 100000 in
theorem k_X6_reads (l : Launch) (dC : Nat → ClassId) (dI : Nat → Nat → Nat) (cI cZ : ClassId) (aM aMb aMe aMw aMc aMd aMs aMz aMA aMJ aMl aM2 aMp aMt : Nat) (nL : Nat) (mt : Nat) (ba : Int32) (bb : Int32) (u1 : Nat) (u2 : Nat) (pt : Nat) (fb : Nat → Nat) (fe : Nat → Nat) (fw : Nat → Int32) (fc : Nat → Nat) (fd : Nat → Nat) (fs : Nat → Nat) (fz : Nat → Nat) (gA : Nat → Nat) (gJ : Nat → Nat) (ml : Nat → Nat) (m2 : Nat → Nat) (mp : Nat → Nat) (mq : Nat → Nat) (so : Nat → Nat) (sz : Nat) (bLb : ∀ k, fb k ≤ 99) (bLe : ∀ k, fe k ≤ 99) (bLc : ∀ k, fc k ≤ 99) (bLd : ∀ k, fd k ≤ 99) (bLs : ∀ k, fs k ≤ 99) (bCz : ∀ k, fz k ≤ 999) (bMA : ∀ k, gA k ≤ 1) (bMJ : ∀ k, gJ k ≤ 1) (bMl : ∀ k, ml k ≤ 1000000000) (bM2 : ∀ k, m2 k ≤ 1000000000) (bMp : ∀ k, mp k ≤ 8) (bMt : ∀ k, mq k ≤ 1) (hn : nL ≤ 9) (hz : fz 0 ≤ 9 ∧ fz 1 ≤ 9) (hmt : mt < 2) (hba : ba = (-1)) (hpath : ∀ mlq m2q, (mlq, m2q) = m_ord (m_join fb fe fw fc fd fs fz) gA gJ (fun a b => nI a = ba ∧ nI b = bb) nL (fz 4) (if mt = 0 then 1 else 2) ml m2 → (m_look mlq m2q (2 ^ nL - 1)).1 < 1000000000 → pathP (m_join fb fe fw fc fd fs fz) (fz 4) nL gA gJ mlq (m_look mlq m2q (2 ^ nL - 1)).1 so) : Met l yX6_reads wsX6_reads { frames := 7, cells := 0, slots := 0, locals := 173 } (va_Pc [.ref aM] (fun U => U.heap.size = sz ∧ va_P (dC, dI) vwCl [(aM, .inr (6, [.int (nI nL), .ref aMb, .ref aMe, .ref aMw, .ref aMc, .ref aMd, .ref aMs, .ref aMz, .int (nI mt), .ref aMA, .ref aMJ, .ref aMl, .ref aM2, .int ba, .int bb, .int (nI u1), .int (nI u2), .ref aMp, .ref aMt, .int (nI pt)])), (aMb, .inl (cI, 18, .inl (nF fb))), (aMe, .inl (cI, 18, .inl (nF fe))), (aMw, .inl (cI, 18, .inl fw)), (aMc, .inl (cI, 18, .inl (nF fc))), (aMd, .inl (cI, 18, .inl (nF fd))), (aMs, .inl (cI, 27, .inl (nF fs))), (aMz, .inl (cI, 6, .inl (nF fz))), (aMA, .inl (cZ, 81, .inl (nF gA))), (aMJ, .inl (cZ, 81, .inl (nF gJ))), (aMl, .inl (cI, 9216, .inl (nF ml))), (aM2, .inl (cI, 9216, .inl (nF m2))), (aMp, .inl (cI, 9, .inl (nF mp))), (aMt, .inl (cI, 9, .inl (nF mq)))] U.heap ∧ lK dC dI cI cZ U ∧ va_D (fun _ => True) [(aM, .inr (6, [.int (nI nL), .ref aMb, .ref aMe, .ref aMw, .ref aMc, .ref aMd, .ref aMs, .ref aMz, .int (nI mt), .ref aMA, .ref aMJ, .ref aMl, .ref aM2, .int ba, .int bb, .int (nI u1), .int (nI u2), .ref aMp, .ref aMt, .int (nI pt)])), (aMb, .inl (cI, 18, .inl (nF fb))), (aMe, .inl (cI, 18, .inl (nF fe))), (aMw, .inl (cI, 18, .inl fw)), (aMc, .inl (cI, 18, .inl (nF fc))), (aMd, .inl (cI, 18, .inl (nF fd))), (aMs, .inl (cI, 27, .inl (nF fs))), (aMz, .inl (cI, 6, .inl (nF fz))), (aMA, .inl (cZ, 81, .inl (nF gA))), (aMJ, .inl (cZ, 81, .inl (nF gJ))), (aMl, .inl (cI, 9216, .inl (nF ml))), (aM2, .inl (cI, 9216, .inl (nF m2))), (aMp, .inl (cI, 9, .inl (nF mp))), (aMt, .inl (cI, 9, .inl (nF mq)))])) (va_Qi (fun (r : Int32) (u : (Nat → Nat) × (Nat → Nat) × (Nat) × (Nat) × (Nat → Nat) × (Nat → Nat)) => match u with | (mlz, m2z, u1z, u2z, mpz, mqz) => (mlz, m2z) = m_ord (m_join fb fe fw fc fd fs fz) gA gJ (fun a b => nI a = ba ∧ nI b = bb) nL (fz 4) (if mt = 0 then 1 else 2) ml m2 ∧ (u1z, u2z) = m_look mlz m2z (2 ^ nL - 1) ∧ ((r = nI 1 ∧ u1z < 1000000000 ∧ ∀ p, p < nL → mpz p = so p / 2 ∧ mqz p = so p % 2) ∨ (r = nI 0 ∧ u1z = 1000000000)) ∧ (∀ k, mlz k ≤ 1000000000) ∧ (∀ k, m2z k ≤ 1000000000) ∧ u1z ≤ 1000000000 ∧ u2z ≤ 1000000000 ∧ (∀ k, mpz k ≤ 8) ∧ (∀ k, mqz k ≤ 1)) (fun (u : (Nat → Nat) × (Nat → Nat) × (Nat) × (Nat) × (Nat → Nat) × (Nat → Nat)) (t : State) => match u with | (mlz, m2z, u1z, u2z, mpz, mqz) => va_P (dC, dI) vwCl [(aM, .inr (6, [.int (nI nL), .ref aMb, .ref aMe, .ref aMw, .ref aMc, .ref aMd, .ref aMs, .ref aMz, .int (nI mt), .ref aMA, .ref aMJ, .ref aMl, .ref aM2, .int ba, .int bb, .int (nI u1z), .int (nI u2z), .ref aMp, .ref aMt, .int (nI pt)])), (aMb, .inl (cI, 18, .inl (nF fb))), (aMe, .inl (cI, 18, .inl (nF fe))), (aMw, .inl (cI, 18, .inl fw)), (aMc, .inl (cI, 18, .inl (nF fc))), (aMd, .inl (cI, 18, .inl (nF fd))), (aMs, .inl (cI, 27, .inl (nF fs))), (aMz, .inl (cI, 6, .inl (nF fz))), (aMA, .inl (cZ, 81, .inl (nF gA))), (aMJ, .inl (cZ, 81, .inl (nF gJ))), (aMl, .inl (cI, 9216, .inl (nF mlz))), (aM2, .inl (cI, 9216, .inl (nF m2z))), (aMp, .inl (cI, 9, .inl (nF mpz))), (aMt, .inl (cI, 9, .inl (nF mqz)))] t.heap ∧ va_D (va_A [(aM, .inr (6, [.int (nI nL), .ref aMb, .ref aMe, .ref aMw, .ref aMc, .ref aMd, .ref aMs, .ref aMz, .int (nI mt), .ref aMA, .ref aMJ, .ref aMl, .ref aM2, .int ba, .int bb, .int (nI u1), .int (nI u2), .ref aMp, .ref aMt, .int (nI pt)])), (aMb, .inl (cI, 18, .inl (nF fb))), (aMe, .inl (cI, 18, .inl (nF fe))), (aMw, .inl (cI, 18, .inl fw)), (aMc, .inl (cI, 18, .inl (nF fc))), (aMd, .inl (cI, 18, .inl (nF fd))), (aMs, .inl (cI, 27, .inl (nF fs))), (aMz, .inl (cI, 6, .inl (nF fz))), (aMA, .inl (cZ, 81, .inl (nF gA))), (aMJ, .inl (cZ, 81, .inl (nF gJ))), (aMl, .inl (cI, 9216, .inl (nF ml))), (aM2, .inl (cI, 9216, .inl (nF m2))), (aMp, .inl (cI, 9, .inl (nF mp))), (aMt, .inl (cI, 9, .inl (nF mq)))] sz) [(aM, .inr (6, [.int (nI nL), .ref aMb, .ref aMe, .ref aMw, .ref aMc, .ref aMd, .ref aMs, .ref aMz, .int (nI mt), .ref aMA, .ref aMJ, .ref aMl, .ref aM2, .int ba, .int bb, .int (nI u1z), .int (nI u2z), .ref aMp, .ref aMt, .int (nI pt)])), (aMb, .inl (cI, 18, .inl (nF fb))), (aMe, .inl (cI, 18, .inl (nF fe))), (aMw, .inl (cI, 18, .inl fw)), (aMc, .inl (cI, 18, .inl (nF fc))), (aMd, .inl (cI, 18, .inl (nF fd))), (aMs, .inl (cI, 27, .inl (nF fs))), (aMz, .inl (cI, 6, .inl (nF fz))), (aMA, .inl (cZ, 81, .inl (nF gA))), (aMJ, .inl (cZ, 81, .inl (nF gJ))), (aMl, .inl (cI, 9216, .inl (nF mlz))), (aM2, .inl (cI, 9216, .inl (nF m2z))), (aMp, .inl (cI, 9, .inl (nF mpz))), (aMt, .inl (cI, 9, .inl (nF mqz)))]) (va_A [(aM, .inr (6, [.int (nI nL), .ref aMb, .ref aMe, .ref aMw, .ref aMc, .ref aMd, .ref aMs, .ref aMz, .int (nI mt), .ref aMA, .ref aMJ, .ref aMl, .ref aM2, .int ba, .int bb, .int (nI u1), .int (nI u2), .ref aMp, .ref aMt, .int (nI pt)])), (aMb, .inl (cI, 18, .inl (nF fb))), (aMe, .inl (cI, 18, .inl (nF fe))), (aMw, .inl (cI, 18, .inl fw)), (aMc, .inl (cI, 18, .inl (nF fc))), (aMd, .inl (cI, 18, .inl (nF fd))), (aMs, .inl (cI, 27, .inl (nF fs))), (aMz, .inl (cI, 6, .inl (nF fz))), (aMA, .inl (cZ, 81, .inl (nF gA))), (aMJ, .inl (cZ, 81, .inl (nF gJ))), (aMl, .inl (cI, 9216, .inl (nF ml))), (aM2, .inl (cI, 9216, .inl (nF m2))), (aMp, .inl (cI, 9, .inl (nF mp))), (aMt, .inl (cI, 9, .inl (nF mq)))] sz)) 0 0 (va_A [(aM, .inr (6, [.int (nI nL), .ref aMb, .ref aMe, .ref aMw, .ref aMc, .ref aMd, .ref aMs, .ref aMz, .int (nI mt), .ref aMA, .ref aMJ, .ref aMl, .ref aM2, .int ba, .int bb, .int (nI u1), .int (nI u2), .ref aMp, .ref aMt, .int (nI pt)])), (aMb, .inl (cI, 18, .inl (nF fb))), (aMe, .inl (cI, 18, .inl (nF fe))), (aMw, .inl (cI, 18, .inl fw)), (aMc, .inl (cI, 18, .inl (nF fc))), (aMd, .inl (cI, 18, .inl (nF fd))), (aMs, .inl (cI, 27, .inl (nF fs))), (aMz, .inl (cI, 6, .inl (nF fz))), (aMA, .inl (cZ, 81, .inl (nF gA))), (aMJ, .inl (cZ, 81, .inl (nF gJ))), (aMl, .inl (cI, 9216, .inl (nF ml))), (aM2, .inl (cI, 9216, .inl (nF m2))), (aMp, .inl (cI, 9, .inl (nF mp))), (aMt, .inl (cI, 9, .inl (nF mq)))] sz) := by
  refine Met.ofW (cc := cX6_reads) (maxL := 9) (ret := (some .boolean)) (by decide) rfl ?_
  intro p e s m args below meth c s₁ B hml hv
  obtain ⟨rfl, hsz, hP, hKK, hD0⟩ := hv
  have hK := hKK.1
  have hx := B.exec
  have hb := B.bytes
  have hr := B.returns
  have hts := atoms_spec (ws := wsX6_reads) B.pre
  have hown : s.vm.findClass RX6 = some m.cls := findClass_of_methodNamed B.named
  have hlocks := B.notSynchronized
  subst hsz
  have hD := hD0.self (sz := s.heap.size)
  generalize hAe : va_A [(aM, .inr (6, [.int (nI nL), .ref aMb, .ref aMe, .ref aMw, .ref aMc, .ref aMd, .ref aMs, .ref aMz, .int (nI mt), .ref aMA, .ref aMJ, .ref aMl, .ref aM2, .int ba, .int bb, .int (nI u1), .int (nI u2), .ref aMp, .ref aMt, .int (nI pt)])), (aMb, .inl (cI, 18, .inl (nF fb))), (aMe, .inl (cI, 18, .inl (nF fe))), (aMw, .inl (cI, 18, .inl fw)), (aMc, .inl (cI, 18, .inl (nF fc))), (aMd, .inl (cI, 18, .inl (nF fd))), (aMs, .inl (cI, 27, .inl (nF fs))), (aMz, .inl (cI, 6, .inl (nF fz))), (aMA, .inl (cZ, 81, .inl (nF gA))), (aMJ, .inl (cZ, 81, .inl (nF gJ))), (aMl, .inl (cI, 9216, .inl (nF ml))), (aM2, .inl (cI, 9216, .inl (nF m2))), (aMp, .inl (cI, 9, .inl (nF mp))), (aMt, .inl (cI, 9, .inl (nF mq)))] s.heap.size = A at hD ⊢
  have hA : ∀ q : Nat, s.heap.size ≤ q → A q := fun q h => by rw [← hAe]; exact Or.inr h
  have hS : va_S A s.heap s.heap [] := va_S.rf
  have hl := lv_entry ([.ref aM]) (n := 9) (Nat.le_of_ble_eq_true rfl)
  rw [lg_entry_eq]
  generalize (lg_sl ([.ref aM]) ++ List.replicate (9 - (lg_sl ([.ref aM])).length) Slot.unset).toArray = ls at hl ⊢
  have hl : lv_has ls 9 [(0, .ref aM)] := hl
  have hp9 := ln_p9 hn
  have hp1 := ln_one_two_pow nL
  refine lv_aload_n hx hb dX6_reads_0 rfl (lv_at hl 0 rfl) ?_
  have hPc := hP.sub (ws' := [(aM, .inr (6, [.int (nI nL), .ref aMb, .ref aMe, .ref aMw, .ref aMc, .ref aMd, .ref aMs, .ref aMz, .int (nI mt), .ref aMA, .ref aMJ, .ref aMl, .ref aM2, .int ba, .int bb, .int (nI u1), .int (nI u2), .ref aMp, .ref aMt, .int (nI pt)])), (aMb, .inl (cI, 18, .inl (nF fb))), (aMe, .inl (cI, 18, .inl (nF fe))), (aMw, .inl (cI, 18, .inl fw)), (aMc, .inl (cI, 18, .inl (nF fc))), (aMd, .inl (cI, 18, .inl (nF fd))), (aMs, .inl (cI, 27, .inl (nF fs))), (aMz, .inl (cI, 6, .inl (nF fz))), (aMA, .inl (cZ, 81, .inl (nF gA))), (aMJ, .inl (cZ, 81, .inl (nF gJ))), (aMl, .inl (cI, 9216, .inl (nF ml))), (aM2, .inl (cI, 9216, .inl (nF m2)))]) [0, 1, 2, 3, 4, 5, 6, 7, 8, 9, 10, 11] rfl
  have hDc := hD.sub (ws' := [(aM, .inr (6, [.int (nI nL), .ref aMb, .ref aMe, .ref aMw, .ref aMc, .ref aMd, .ref aMs, .ref aMz, .int (nI mt), .ref aMA, .ref aMJ, .ref aMl, .ref aM2, .int ba, .int bb, .int (nI u1), .int (nI u2), .ref aMp, .ref aMt, .int (nI pt)])), (aMb, .inl (cI, 18, .inl (nF fb))), (aMe, .inl (cI, 18, .inl (nF fe))), (aMw, .inl (cI, 18, .inl fw)), (aMc, .inl (cI, 18, .inl (nF fc))), (aMd, .inl (cI, 18, .inl (nF fd))), (aMs, .inl (cI, 27, .inl (nF fs))), (aMz, .inl (cI, 6, .inl (nF fz))), (aMA, .inl (cZ, 81, .inl (nF gA))), (aMJ, .inl (cZ, 81, .inl (nF gJ))), (aMl, .inl (cI, 9216, .inl (nF ml))), (aM2, .inl (cI, 9216, .inl (nF m2)))]) [0, 1, 2, 3, 4, 5, 6, 7, 8, 9, 10, 11] (by decide) rfl
  have hFc := va_free (wc := [(aM, .inr (6, [.int (nI nL), .ref aMb, .ref aMe, .ref aMw, .ref aMc, .ref aMd, .ref aMs, .ref aMz, .int (nI mt), .ref aMA, .ref aMJ, .ref aMl, .ref aM2, .int ba, .int bb, .int (nI u1), .int (nI u2), .ref aMp, .ref aMt, .int (nI pt)])), (aMb, .inl (cI, 18, .inl (nF fb))), (aMe, .inl (cI, 18, .inl (nF fe))), (aMw, .inl (cI, 18, .inl fw)), (aMc, .inl (cI, 18, .inl (nF fc))), (aMd, .inl (cI, 18, .inl (nF fd))), (aMs, .inl (cI, 27, .inl (nF fs))), (aMz, .inl (cI, 6, .inl (nF fz))), (aMA, .inl (cZ, 81, .inl (nF gA))), (aMJ, .inl (cZ, 81, .inl (nF gJ))), (aMl, .inl (cI, 9216, .inl (nF ml))), (aM2, .inl (cI, 9216, .inl (nF m2)))]) hD hS hA [0, 1, 2, 3, 4, 5, 6, 7, 8, 9, 10, 11] rfl
  refine va_calli (va_runV (As := []) (rest := []) ⟨hx, hb, hml, hown, hts⟩ (k_X6_best l dC dI cI cZ aM aMb aMe aMw aMc aMd aMs aMz aMA aMJ aMl aM2 aMp aMt nL mt ba bb u1 u2 pt fb fe fw fc fd fs fz gA gJ ml m2 s.heap.size bLb bLe bLc bLd bLs bCz bMA bMJ bMl bM2 hn hz hmt) (cwV 0 hts gX6_reads_X6_best rfl rfl rfl (by decide +kernel) ⟨Nat.le_of_ble_eq_true rfl, Nat.le_of_ble_eq_true rfl⟩) (ln_preVM (q0 := 0) (ci := 6) hPc hKK hDc rfl rfl) rfl rfl hl.1 rfl (lv_room (Nat.le_of_ble_eq_true rfl)) dX6_reads_1 ⟨Nat.le_of_ble_eq_true rfl, Nat.le_of_ble_eq_true rfl⟩) hS (fun q _ h => hFc q h) hFc (fun r_1 uN tN H1 locs htN hvm w_2 hB hzH hkH hS => ?_)
  obtain ⟨mlz_3, m2z_4, u1z_5, u2z_6⟩ := uN
  obtain ⟨hP1, hD1⟩ := hB
  rw [htN] at hP1
  try dsimp only at w_2
  obtain ⟨hP, hD⟩ := va_join (wr := [(aMp, .inl (cI, 9, .inl (nF mp))), (aMt, .inl (cI, 9, .inl (nF mq)))]) (w1 := [(aM, .inr (6, [.int (nI nL), .ref aMb, .ref aMe, .ref aMw, .ref aMc, .ref aMd, .ref aMs, .ref aMz, .int (nI mt), .ref aMA, .ref aMJ, .ref aMl, .ref aM2, .int ba, .int bb, .int (nI u1z_5), .int (nI u2z_6), .ref aMp, .ref aMt, .int (nI pt)])), (aMb, .inl (cI, 18, .inl (nF fb))), (aMe, .inl (cI, 18, .inl (nF fe))), (aMw, .inl (cI, 18, .inl fw)), (aMc, .inl (cI, 18, .inl (nF fc))), (aMd, .inl (cI, 18, .inl (nF fd))), (aMs, .inl (cI, 27, .inl (nF fs))), (aMz, .inl (cI, 6, .inl (nF fz))), (aMA, .inl (cZ, 81, .inl (nF gA))), (aMJ, .inl (cZ, 81, .inl (nF gJ))), (aMl, .inl (cI, 9216, .inl (nF mlz_3))), (aM2, .inl (cI, 9216, .inl (nF m2z_4)))]) hP hD [0, 1, 2, 3, 4, 5, 6, 7, 8, 9, 10, 11] [12, 13] rfl rfl (by decide) (by decide) hkH hFc hP1 hD1
  generalize H1 = H at hP hS ⊢
  have hP := hP.sub (ws' := [(aM, .inr (6, [.int (nI nL), .ref aMb, .ref aMe, .ref aMw, .ref aMc, .ref aMd, .ref aMs, .ref aMz, .int (nI mt), .ref aMA, .ref aMJ, .ref aMl, .ref aM2, .int ba, .int bb, .int (nI u1z_5), .int (nI u2z_6), .ref aMp, .ref aMt, .int (nI pt)])), (aMb, .inl (cI, 18, .inl (nF fb))), (aMe, .inl (cI, 18, .inl (nF fe))), (aMw, .inl (cI, 18, .inl fw)), (aMc, .inl (cI, 18, .inl (nF fc))), (aMd, .inl (cI, 18, .inl (nF fd))), (aMs, .inl (cI, 27, .inl (nF fs))), (aMz, .inl (cI, 6, .inl (nF fz))), (aMA, .inl (cZ, 81, .inl (nF gA))), (aMJ, .inl (cZ, 81, .inl (nF gJ))), (aMl, .inl (cI, 9216, .inl (nF mlz_3))), (aM2, .inl (cI, 9216, .inl (nF m2z_4))), (aMp, .inl (cI, 9, .inl (nF mp))), (aMt, .inl (cI, 9, .inl (nF mq)))]) [2, 3, 4, 5, 6, 7, 8, 9, 10, 11, 12, 13, 0, 1] rfl
  have hD := hD.sub (ws' := [(aM, .inr (6, [.int (nI nL), .ref aMb, .ref aMe, .ref aMw, .ref aMc, .ref aMd, .ref aMs, .ref aMz, .int (nI mt), .ref aMA, .ref aMJ, .ref aMl, .ref aM2, .int ba, .int bb, .int (nI u1z_5), .int (nI u2z_6), .ref aMp, .ref aMt, .int (nI pt)])), (aMb, .inl (cI, 18, .inl (nF fb))), (aMe, .inl (cI, 18, .inl (nF fe))), (aMw, .inl (cI, 18, .inl fw)), (aMc, .inl (cI, 18, .inl (nF fc))), (aMd, .inl (cI, 18, .inl (nF fd))), (aMs, .inl (cI, 27, .inl (nF fs))), (aMz, .inl (cI, 6, .inl (nF fz))), (aMA, .inl (cZ, 81, .inl (nF gA))), (aMJ, .inl (cZ, 81, .inl (nF gJ))), (aMl, .inl (cI, 9216, .inl (nF mlz_3))), (aM2, .inl (cI, 9216, .inl (nF m2z_4))), (aMp, .inl (cI, 9, .inl (nF mp))), (aMt, .inl (cI, 9, .inl (nF mq)))]) [2, 3, 4, 5, 6, 7, 8, 9, 10, 11, 12, 13, 0, 1] (by decide) rfl
  obtain ⟨hr, ho, hk, hl1, hl2, hu1, hu2⟩ := w_2
  have ek : (m_look mlz_3 m2z_4 (2 ^ nL - 1)).1 = u1z_5 := by rw [← hk]
  by_cases hnv : u1z_5 = 1000000000
  · rw [show m_told u1z_5 = (-1) from by unfold m_told; rw [if_pos hnv]] at hr
    subst hr
    refine lv_istore_n (lv' := [(1, .int (-1)), (0, .ref aM)]) hx hb dX6_reads_4 rfl hl (by decide) rfl (fun ls hl => ?_)
    refine lv_aload_n hx hb dX6_reads_5 rfl (lv_at hl 1 rfl) ?_
    have hPc := hP.sub (ws' := [(aM, .inr (6, [.int (nI nL), .ref aMb, .ref aMe, .ref aMw, .ref aMc, .ref aMd, .ref aMs, .ref aMz, .int (nI mt), .ref aMA, .ref aMJ, .ref aMl, .ref aM2, .int ba, .int bb, .int (nI u1z_5), .int (nI u2z_6), .ref aMp, .ref aMt, .int (nI pt)]))]) [0] rfl
    refine vp_callSi (W.runV (As := []) (rest := []) ⟨hx, hb, hml, hown, hts⟩ (k_X6_all l dC dI cI cZ aM aMb aMe aMw aMc aMd aMs aMz aMA aMJ aMl aM2 aMp aMt nL mt ba bb u1z_5 u2z_6 pt (by omega)) (cwV 0 hts gX6_reads_X6_all rfl rfl rfl (by decide +kernel) ⟨Nat.le_of_ble_eq_true rfl, Nat.le_of_ble_eq_true rfl⟩) (ln_preV (q0 := 0) (ci := 6) hPc hKK rfl rfl) rfl rfl hl.1 rfl (lv_room (Nat.le_of_ble_eq_true rfl)) dX6_reads_6 ⟨Nat.le_of_ble_eq_true rfl, Nat.le_of_ble_eq_true rfl⟩) (fun r_7 w_8 => ?_)
    subst w_8
    refine lv_istore_n (lv' := [(2, .int (nI (2 ^ nL - 1))), (1, .int (-1)), (0, .ref aM)]) hx hb dX6_reads_9 rfl hl (by decide) rfl (fun ls hl => ?_)
    refine lv_iconst (v := (-1)) hx hb dX6_reads_10 (by decide) ?_
    refine lv_istore_n (lv' := [(3, .int (-1)), (2, .int (nI (2 ^ nL - 1))), (1, .int (-1)), (0, .ref aM)]) hx hb dX6_reads_11 rfl hl (by decide) rfl (fun ls hl => ?_)
    refine lv_aload_n hx hb dX6_reads_12 rfl (lv_at hl 3 rfl) ?_
    refine va_get (D := (dC, dI)) (ci := 6) (v := .int (nI nL)) (C := RX6) (T := TX6) (N := 20) hx hb hts mX6_reads_inX6 hown hK hP 0 rfl rfl 0 (by decide) (hts (.fieldLink RX6 61 "LeafOrderModel" "leaves" "I") mX6_reads_0) (fun _ h9 => h9) rfl dX6_reads_13 ?_
    refine lv_iconst (v := nI 1) hx hb dX6_reads_16 (by decide) ?_
    refine lv_isub hx hb dX6_reads_17 ?_
    refine lv_istore (lv' := [(4, .int (nI nL - nI 1)), (3, .int (-1)), (2, .int (nI (2 ^ nL - 1))), (1, .int (-1)), (0, .ref aM)]) hx hb dX6_reads_18 hl (by decide) rfl (fun ls hl => ?_)
    refine lv_iload hx hb dX6_reads_20 (lv_at hl 0 rfl) ?_
    refine lv_if_lt (tgt := 235) hx hb dX6_reads_22 (by decide) (fun c_9 => ?_) (fun c_9 => ?_)
    · refine lv_iload_n hx hb dX6_reads_235 rfl (lv_at hl 3 rfl) ?_
      refine ln_if_ltT (tgt := 243) hx hb dX6_reads_236 (by decide) (by decide) ?_
      refine lv_iconst (v := nI 0) hx hb dX6_reads_243 (by decide) ?_
      exact W.zret (v := (nI 0)) hx hb hr (by decide) (fun tN htN hWN => ⟨⟨(nI 0), (mlz_3, m2z_4, u1z_5, u2z_6, mp, mq), rfl, ⟨ho, hk, Or.inr ⟨rfl, hnv⟩, hl1, hl2, hu1, hu2, bMp, bMt⟩, by rw [htN]; exact hP, hD⟩, hS.F htN⟩) hS.2.2 dX6_reads_244
    · refine lv_iload_n hx hb dX6_reads_25 rfl (lv_at hl 3 rfl) ?_
      refine ln_if_ltT (tgt := 235) hx hb dX6_reads_26 (by decide) (by decide) ?_
      refine lv_iload_n hx hb dX6_reads_235 rfl (lv_at hl 3 rfl) ?_
      refine ln_if_ltT (tgt := 243) hx hb dX6_reads_236 (by decide) (by decide) ?_
      refine lv_iconst (v := nI 0) hx hb dX6_reads_243 (by decide) ?_
      exact W.zret (v := (nI 0)) hx hb hr (by decide) (fun tN htN hWN => ⟨⟨(nI 0), (mlz_3, m2z_4, u1z_5, u2z_6, mp, mq), rfl, ⟨ho, hk, Or.inr ⟨rfl, hnv⟩, hl1, hl2, hu1, hu2, bMp, bMt⟩, by rw [htN]; exact hP, hD⟩, hS.F htN⟩) hS.2.2 dX6_reads_244
  · rw [show m_told u1z_5 = nI u1z_5 from by unfold m_told; rw [if_neg hnv]] at hr
    subst hr
    obtain ⟨Sp, hS0, hSp⟩ := hpath _ _ ho (by rw [ek]; omega)
    rw [ek] at hSp
    refine lv_istore_n (lv' := [(1, .int (nI u1z_5)), (0, .ref aM)]) hx hb dX6_reads_4 rfl hl (by decide) rfl (fun ls hl => ?_)
    refine lv_aload_n hx hb dX6_reads_5 rfl (lv_at hl 1 rfl) ?_
    have hPc := hP.sub (ws' := [(aM, .inr (6, [.int (nI nL), .ref aMb, .ref aMe, .ref aMw, .ref aMc, .ref aMd, .ref aMs, .ref aMz, .int (nI mt), .ref aMA, .ref aMJ, .ref aMl, .ref aM2, .int ba, .int bb, .int (nI u1z_5), .int (nI u2z_6), .ref aMp, .ref aMt, .int (nI pt)]))]) [0] rfl
    refine vp_callSi (W.runV (As := []) (rest := []) ⟨hx, hb, hml, hown, hts⟩ (k_X6_all l dC dI cI cZ aM aMb aMe aMw aMc aMd aMs aMz aMA aMJ aMl aM2 aMp aMt nL mt ba bb u1z_5 u2z_6 pt (by omega)) (cwV 0 hts gX6_reads_X6_all rfl rfl rfl (by decide +kernel) ⟨Nat.le_of_ble_eq_true rfl, Nat.le_of_ble_eq_true rfl⟩) (ln_preV (q0 := 0) (ci := 6) hPc hKK rfl rfl) rfl rfl hl.1 rfl (lv_room (Nat.le_of_ble_eq_true rfl)) dX6_reads_6 ⟨Nat.le_of_ble_eq_true rfl, Nat.le_of_ble_eq_true rfl⟩) (fun r_10 w_11 => ?_)
    subst w_11
    refine lv_istore_n (lv' := [(2, .int (nI (2 ^ nL - 1))), (1, .int (nI u1z_5)), (0, .ref aM)]) hx hb dX6_reads_9 rfl hl (by decide) rfl (fun ls hl => ?_)
    refine lv_iconst (v := (-1)) hx hb dX6_reads_10 (by decide) ?_
    refine lv_istore_n (lv' := [(3, .int (-1)), (2, .int (nI (2 ^ nL - 1))), (1, .int (nI u1z_5)), (0, .ref aM)]) hx hb dX6_reads_11 rfl hl (by decide) rfl (fun ls hl => ?_)
    refine lv_aload_n hx hb dX6_reads_12 rfl (lv_at hl 3 rfl) ?_
    refine va_get (D := (dC, dI)) (ci := 6) (v := .int (nI nL)) (C := RX6) (T := TX6) (N := 20) hx hb hts mX6_reads_inX6 hown hK hP 0 rfl rfl 0 (by decide) (hts (.fieldLink RX6 61 "LeafOrderModel" "leaves" "I") mX6_reads_0) (fun _ h9 => h9) rfl dX6_reads_13 ?_
    refine lv_iconst (v := nI 1) hx hb dX6_reads_16 (by decide) ?_
    refine lv_isub hx hb dX6_reads_17 ?_
    refine lv_istore (lv' := [(4, .int (nI nL - nI 1)), (3, .int (-1)), (2, .int (nI (2 ^ nL - 1))), (1, .int (nI u1z_5)), (0, .ref aM)]) hx hb dX6_reads_18 hl (by decide) rfl (fun ls hl => ?_)
    have hl : lv_has ls 9 [(4, .int (nI nL - nI 1)), (3, .int (bhN 18)), (2, .int (nI (2 ^ nL - 1))), (1, .int (nI u1z_5)), (0, .ref aM)] := hl
    have LP20 : ∀ (n20 : Nat) (p' : Nat) (lf : Nat) (set : Nat) (bh : Nat) (mpv : Nat → Nat) (mqv : Nat → Nat), p' < n20 → (∀ z_, mpv z_ ≤ 8) → (∀ z_, mqv z_ ≤ 1) → (p' ≤ nL) → (1 ≤ p' → set = Sp (p' - 1)) → (set < 512) → ((p' = nL ∧ bh = 18) ∨ (p' < nL ∧ bh = so p' / 2)) → ((p' = nL → lf = u1z_5) ∧ (p' < nL → lf = mlz_3 (18 * Sp p' + so p'))) → (lf ≤ 1000000000) → (∀ p, p' ≤ p → p < nL → mpv p = so p / 2 ∧ mqv p = so p % 2) → ∀ (H : Heap) (locs : List Loc), va_P (dC, dI) vwCl [(aM, .inr (6, [.int (nI nL), .ref aMb, .ref aMe, .ref aMw, .ref aMc, .ref aMd, .ref aMs, .ref aMz, .int (nI mt), .ref aMA, .ref aMJ, .ref aMl, .ref aM2, .int ba, .int bb, .int (nI u1z_5), .int (nI u2z_6), .ref aMp, .ref aMt, .int (nI pt)])), (aMb, .inl (cI, 18, .inl (nF fb))), (aMe, .inl (cI, 18, .inl (nF fe))), (aMw, .inl (cI, 18, .inl fw)), (aMc, .inl (cI, 18, .inl (nF fc))), (aMd, .inl (cI, 18, .inl (nF fd))), (aMs, .inl (cI, 27, .inl (nF fs))), (aMz, .inl (cI, 6, .inl (nF fz))), (aMA, .inl (cZ, 81, .inl (nF gA))), (aMJ, .inl (cZ, 81, .inl (nF gJ))), (aMl, .inl (cI, 9216, .inl (nF mlz_3))), (aM2, .inl (cI, 9216, .inl (nF m2z_4))), (aMp, .inl (cI, 9, .inl (nF mpv))), (aMt, .inl (cI, 9, .inl (nF mqv)))] H → va_D A [(aM, .inr (6, [.int (nI nL), .ref aMb, .ref aMe, .ref aMw, .ref aMc, .ref aMd, .ref aMs, .ref aMz, .int (nI mt), .ref aMA, .ref aMJ, .ref aMl, .ref aM2, .int ba, .int bb, .int (nI u1z_5), .int (nI u2z_6), .ref aMp, .ref aMt, .int (nI pt)])), (aMb, .inl (cI, 18, .inl (nF fb))), (aMe, .inl (cI, 18, .inl (nF fe))), (aMw, .inl (cI, 18, .inl fw)), (aMc, .inl (cI, 18, .inl (nF fc))), (aMd, .inl (cI, 18, .inl (nF fd))), (aMs, .inl (cI, 27, .inl (nF fs))), (aMz, .inl (cI, 6, .inl (nF fz))), (aMA, .inl (cZ, 81, .inl (nF gA))), (aMJ, .inl (cZ, 81, .inl (nF gJ))), (aMl, .inl (cI, 9216, .inl (nF mlz_3))), (aM2, .inl (cI, 9216, .inl (nF m2z_4))), (aMp, .inl (cI, 9, .inl (nF mpv))), (aMt, .inl (cI, 9, .inl (nF mqv)))] → va_S A s.heap H locs → ∀ (ls : Array Slot), lv_has ls 9 [(0, .ref aM), (1, .int (nI lf)), (2, .int (nI set)), (3, .int (bhN bh)), (4, .int (nI p' - nI 1))] → W p l e { frames := 7, cells := 0, slots := 0, locals := 173 } s m [.ref aM].toArray below meth c H locs 0 0 (MQ below (va_Qi (fun (r : Int32) (u : (Nat → Nat) × (Nat → Nat) × (Nat) × (Nat) × (Nat → Nat) × (Nat → Nat)) => match u with | (mlz, m2z, u1z, u2z, mpz, mqz) => (mlz, m2z) = m_ord (m_join fb fe fw fc fd fs fz) gA gJ (fun a b => nI a = ba ∧ nI b = bb) nL (fz 4) (if mt = 0 then 1 else 2) ml m2 ∧ (u1z, u2z) = m_look mlz m2z (2 ^ nL - 1) ∧ ((r = nI 1 ∧ u1z < 1000000000 ∧ ∀ p, p < nL → mpz p = so p / 2 ∧ mqz p = so p % 2) ∨ (r = nI 0 ∧ u1z = 1000000000)) ∧ (∀ k, mlz k ≤ 1000000000) ∧ (∀ k, m2z k ≤ 1000000000) ∧ u1z ≤ 1000000000 ∧ u2z ≤ 1000000000 ∧ (∀ k, mpz k ≤ 8) ∧ (∀ k, mqz k ≤ 1)) (fun (u : (Nat → Nat) × (Nat → Nat) × (Nat) × (Nat) × (Nat → Nat) × (Nat → Nat)) (t : State) => match u with | (mlz, m2z, u1z, u2z, mpz, mqz) => va_P (dC, dI) vwCl [(aM, .inr (6, [.int (nI nL), .ref aMb, .ref aMe, .ref aMw, .ref aMc, .ref aMd, .ref aMs, .ref aMz, .int (nI mt), .ref aMA, .ref aMJ, .ref aMl, .ref aM2, .int ba, .int bb, .int (nI u1z), .int (nI u2z), .ref aMp, .ref aMt, .int (nI pt)])), (aMb, .inl (cI, 18, .inl (nF fb))), (aMe, .inl (cI, 18, .inl (nF fe))), (aMw, .inl (cI, 18, .inl fw)), (aMc, .inl (cI, 18, .inl (nF fc))), (aMd, .inl (cI, 18, .inl (nF fd))), (aMs, .inl (cI, 27, .inl (nF fs))), (aMz, .inl (cI, 6, .inl (nF fz))), (aMA, .inl (cZ, 81, .inl (nF gA))), (aMJ, .inl (cZ, 81, .inl (nF gJ))), (aMl, .inl (cI, 9216, .inl (nF mlz))), (aM2, .inl (cI, 9216, .inl (nF m2z))), (aMp, .inl (cI, 9, .inl (nF mpz))), (aMt, .inl (cI, 9, .inl (nF mqz)))] t.heap ∧ va_D A [(aM, .inr (6, [.int (nI nL), .ref aMb, .ref aMe, .ref aMw, .ref aMc, .ref aMd, .ref aMs, .ref aMz, .int (nI mt), .ref aMA, .ref aMJ, .ref aMl, .ref aM2, .int ba, .int bb, .int (nI u1z), .int (nI u2z), .ref aMp, .ref aMt, .int (nI pt)])), (aMb, .inl (cI, 18, .inl (nF fb))), (aMe, .inl (cI, 18, .inl (nF fe))), (aMw, .inl (cI, 18, .inl fw)), (aMc, .inl (cI, 18, .inl (nF fc))), (aMd, .inl (cI, 18, .inl (nF fd))), (aMs, .inl (cI, 27, .inl (nF fs))), (aMz, .inl (cI, 6, .inl (nF fz))), (aMA, .inl (cZ, 81, .inl (nF gA))), (aMJ, .inl (cZ, 81, .inl (nF gJ))), (aMl, .inl (cI, 9216, .inl (nF mlz))), (aM2, .inl (cI, 9216, .inl (nF m2z))), (aMp, .inl (cI, 9, .inl (nF mpz))), (aMt, .inl (cI, 9, .inl (nF mqz)))]) A) [.ref aM].toArray s 0 0 A) (F0 m 20 ls []) := by
      intro n20
      induction n20 with
      | zero =>
        intro p' lf set bh mpv mqv hm
        exact absurd hm (Nat.not_lt_zero _)
      | succ n20 ih20 =>
        intro p' lf set bh mpv mqv hm20 bMpv bMqv hp hset hset9 hbh hlf hlf9 hpm H locs hP hD hS ls hl
        refine lv_iload hx hb dX6_reads_20 (lv_at hl 4 rfl) ?_
        refine lv_if_lt (tgt := 235) hx hb dX6_reads_22 (by decide) (fun c_12 => ?_) (fun c_12 => ?_)
        · have hp0 : p' = 0 := pl_neg (by omega) c_12
          refine lv_iload_n hx hb dX6_reads_235 rfl (lv_at hl 1 rfl) ?_
          refine ln_if_lt (tgt := 243) hx hb dX6_reads_236 (by decide) (by omega) ?_
          refine lv_iconst (v := nI 1) hx hb dX6_reads_239 (by decide) ?_
          refine lv_goto (tgt := 244) hx hb dX6_reads_240 (by decide) ?_
          exact W.zret (v := (nI 1)) hx hb hr (by decide) (fun tN htN hWN => ⟨⟨(nI 1), (mlz_3, m2z_4, u1z_5, u2z_6, mpv, mqv), rfl, ⟨ho, hk, Or.inl ⟨rfl, (by omega), (fun p hp => hpm p (by omega) hp)⟩, hl1, hl2, hu1, hu2, bMpv, bMqv⟩, by rw [htN]; exact hP, hD⟩, hS.F htN⟩) hS.2.2 dX6_reads_244
        · have hp2 : 1 ≤ p' := pl_pos c_12
          obtain ⟨pp, rfl⟩ : ∃ pp, p' = pp + 1 := ⟨p' - 1, by omega⟩
          have hl : lv_has ls 9 [(0, .ref aM), (1, .int (nI lf)), (2, .int (nI set)), (3, .int (bhN bh)), (4, .int (nI pp))] := by rw [show nI (pp + 1) - nI 1 = nI pp from by rw [pk_sub (by omega)]; rfl] at hl; exact hl
          have eset : set = Sp pp := hset (by omega)
          obtain ⟨g1, g2, g3, g4, g5, g6⟩ := hSp pp (by omega)
          refine lv_iload_n hx hb dX6_reads_25 rfl (lv_at hl 1 rfl) ?_
          refine ln_if_lt (tgt := 235) hx hb dX6_reads_26 (by decide) (by omega) ?_
          refine lv_iconst (v := (-1)) hx hb dX6_reads_29 (by decide) ?_
          refine lv_istore (lv' := [(5, .int (-1)), (0, .ref aM), (1, .int (nI lf)), (2, .int (nI set)), (3, .int (bhN bh)), (4, .int (nI pp))]) hx hb dX6_reads_30 hl (by decide) rfl (fun ls hl => ?_)
          refine lv_iconst (v := nI 0) hx hb dX6_reads_32 (by decide) ?_
          refine lv_istore (lv' := [(6, .int (nI 0)), (5, .int (-1)), (0, .ref aM), (1, .int (nI lf)), (2, .int (nI set)), (3, .int (bhN bh)), (4, .int (nI pp))]) hx hb dX6_reads_33 hl (by decide) rfl (fun ls hl => ?_)
          have hl : lv_has ls 9 [(6, .int (nI 0)), (5, .int (fdN (so pp) 0)), (0, .ref aM), (1, .int (nI lf)), (2, .int (nI set)), (3, .int (bhN bh)), (4, .int (nI pp))] := by rw [fdN_le (Nat.zero_le _)]; exact hl
          have LP35 : ∀ (n35 : Nat) (kc : Nat), 18 - kc < n35 → (kc ≤ 18) → (kc ≤ so pp + 1) → ∀ (H : Heap) (locs : List Loc), va_P (dC, dI) vwCl [(aM, .inr (6, [.int (nI nL), .ref aMb, .ref aMe, .ref aMw, .ref aMc, .ref aMd, .ref aMs, .ref aMz, .int (nI mt), .ref aMA, .ref aMJ, .ref aMl, .ref aM2, .int ba, .int bb, .int (nI u1z_5), .int (nI u2z_6), .ref aMp, .ref aMt, .int (nI pt)])), (aMb, .inl (cI, 18, .inl (nF fb))), (aMe, .inl (cI, 18, .inl (nF fe))), (aMw, .inl (cI, 18, .inl fw)), (aMc, .inl (cI, 18, .inl (nF fc))), (aMd, .inl (cI, 18, .inl (nF fd))), (aMs, .inl (cI, 27, .inl (nF fs))), (aMz, .inl (cI, 6, .inl (nF fz))), (aMA, .inl (cZ, 81, .inl (nF gA))), (aMJ, .inl (cZ, 81, .inl (nF gJ))), (aMl, .inl (cI, 9216, .inl (nF mlz_3))), (aM2, .inl (cI, 9216, .inl (nF m2z_4))), (aMp, .inl (cI, 9, .inl (nF mpv))), (aMt, .inl (cI, 9, .inl (nF mqv)))] H → va_D A [(aM, .inr (6, [.int (nI nL), .ref aMb, .ref aMe, .ref aMw, .ref aMc, .ref aMd, .ref aMs, .ref aMz, .int (nI mt), .ref aMA, .ref aMJ, .ref aMl, .ref aM2, .int ba, .int bb, .int (nI u1z_5), .int (nI u2z_6), .ref aMp, .ref aMt, .int (nI pt)])), (aMb, .inl (cI, 18, .inl (nF fb))), (aMe, .inl (cI, 18, .inl (nF fe))), (aMw, .inl (cI, 18, .inl fw)), (aMc, .inl (cI, 18, .inl (nF fc))), (aMd, .inl (cI, 18, .inl (nF fd))), (aMs, .inl (cI, 27, .inl (nF fs))), (aMz, .inl (cI, 6, .inl (nF fz))), (aMA, .inl (cZ, 81, .inl (nF gA))), (aMJ, .inl (cZ, 81, .inl (nF gJ))), (aMl, .inl (cI, 9216, .inl (nF mlz_3))), (aM2, .inl (cI, 9216, .inl (nF m2z_4))), (aMp, .inl (cI, 9, .inl (nF mpv))), (aMt, .inl (cI, 9, .inl (nF mqv)))] → va_S A s.heap H locs → ∀ (ls : Array Slot), lv_has ls 9 [(0, .ref aM), (1, .int (nI lf)), (2, .int (nI set)), (3, .int (bhN bh)), (4, .int (nI pp)), (5, .int (fdN (so pp) kc)), (6, .int (nI kc))] → W p l e { frames := 7, cells := 0, slots := 0, locals := 173 } s m [.ref aM].toArray below meth c H locs 0 0 (MQ below (va_Qi (fun (r : Int32) (u : (Nat → Nat) × (Nat → Nat) × (Nat) × (Nat) × (Nat → Nat) × (Nat → Nat)) => match u with | (mlz, m2z, u1z, u2z, mpz, mqz) => (mlz, m2z) = m_ord (m_join fb fe fw fc fd fs fz) gA gJ (fun a b => nI a = ba ∧ nI b = bb) nL (fz 4) (if mt = 0 then 1 else 2) ml m2 ∧ (u1z, u2z) = m_look mlz m2z (2 ^ nL - 1) ∧ ((r = nI 1 ∧ u1z < 1000000000 ∧ ∀ p, p < nL → mpz p = so p / 2 ∧ mqz p = so p % 2) ∨ (r = nI 0 ∧ u1z = 1000000000)) ∧ (∀ k, mlz k ≤ 1000000000) ∧ (∀ k, m2z k ≤ 1000000000) ∧ u1z ≤ 1000000000 ∧ u2z ≤ 1000000000 ∧ (∀ k, mpz k ≤ 8) ∧ (∀ k, mqz k ≤ 1)) (fun (u : (Nat → Nat) × (Nat → Nat) × (Nat) × (Nat) × (Nat → Nat) × (Nat → Nat)) (t : State) => match u with | (mlz, m2z, u1z, u2z, mpz, mqz) => va_P (dC, dI) vwCl [(aM, .inr (6, [.int (nI nL), .ref aMb, .ref aMe, .ref aMw, .ref aMc, .ref aMd, .ref aMs, .ref aMz, .int (nI mt), .ref aMA, .ref aMJ, .ref aMl, .ref aM2, .int ba, .int bb, .int (nI u1z), .int (nI u2z), .ref aMp, .ref aMt, .int (nI pt)])), (aMb, .inl (cI, 18, .inl (nF fb))), (aMe, .inl (cI, 18, .inl (nF fe))), (aMw, .inl (cI, 18, .inl fw)), (aMc, .inl (cI, 18, .inl (nF fc))), (aMd, .inl (cI, 18, .inl (nF fd))), (aMs, .inl (cI, 27, .inl (nF fs))), (aMz, .inl (cI, 6, .inl (nF fz))), (aMA, .inl (cZ, 81, .inl (nF gA))), (aMJ, .inl (cZ, 81, .inl (nF gJ))), (aMl, .inl (cI, 9216, .inl (nF mlz))), (aM2, .inl (cI, 9216, .inl (nF m2z))), (aMp, .inl (cI, 9, .inl (nF mpz))), (aMt, .inl (cI, 9, .inl (nF mqz)))] t.heap ∧ va_D A [(aM, .inr (6, [.int (nI nL), .ref aMb, .ref aMe, .ref aMw, .ref aMc, .ref aMd, .ref aMs, .ref aMz, .int (nI mt), .ref aMA, .ref aMJ, .ref aMl, .ref aM2, .int ba, .int bb, .int (nI u1z), .int (nI u2z), .ref aMp, .ref aMt, .int (nI pt)])), (aMb, .inl (cI, 18, .inl (nF fb))), (aMe, .inl (cI, 18, .inl (nF fe))), (aMw, .inl (cI, 18, .inl fw)), (aMc, .inl (cI, 18, .inl (nF fc))), (aMd, .inl (cI, 18, .inl (nF fd))), (aMs, .inl (cI, 27, .inl (nF fs))), (aMz, .inl (cI, 6, .inl (nF fz))), (aMA, .inl (cZ, 81, .inl (nF gA))), (aMJ, .inl (cZ, 81, .inl (nF gJ))), (aMl, .inl (cI, 9216, .inl (nF mlz))), (aM2, .inl (cI, 9216, .inl (nF m2z))), (aMp, .inl (cI, 9, .inl (nF mpz))), (aMt, .inl (cI, 9, .inl (nF mqz)))]) A) [.ref aM].toArray s 0 0 A) (F0 m 35 ls []) := by
            intro n35
            induction n35 with
            | zero =>
              intro kc hm
              exact absurd hm (Nat.not_lt_zero _)
            | succ n35 ih35 =>
              intro kc hm35  hkc hkz H locs hP hD hS ls hl
              refine lv_iload hx hb dX6_reads_35 (lv_at hl 6 rfl) ?_
              refine lv_bipush (v := nI 18) hx hb dX6_reads_37 (by decide) ?_
              refine ln_icmp_ge (tgt := 168) hx hb dX6_reads_39 (by decide) (by omega) (by decide) (fun c_13 => ?_) (fun c_13 => ?_)
              · have hf : so pp < kc := by omega
                have hl : lv_has ls 9 [(0, .ref aM), (1, .int (nI lf)), (2, .int (nI set)), (3, .int (bhN bh)), (4, .int (nI pp)), (5, .int (nI (so pp))), (6, .int (nI kc))] := by rw [fdN_gt hf] at hl; exact hl
                rcases hbh with ⟨e1, e2⟩ | ⟨e1, e2⟩
                · have efirst : pp + 1 = nL := e1
                  have hl : lv_has ls 9 [(0, .ref aM), (1, .int (nI lf)), (2, .int (nI set)), (3, .int (-1)), (4, .int (nI pp)), (5, .int (nI (so pp))), (6, .int (nI kc))] := by rw [e2, bhN_18] at hl; exact hl
                  refine lv_iload_n hx hb dX6_reads_168 rfl (lv_at hl 1 rfl) ?_
                  refine lv_iload_n hx hb dX6_reads_169 rfl (lv_at hl 3 rfl) ?_
                  refine ln_if_geF (tgt := 177) hx hb dX6_reads_170 (by decide) (by decide) ?_
                  refine lv_iconst (v := nI 0) hx hb dX6_reads_173 (by decide) ?_
                  refine lv_goto (tgt := 191) hx hb dX6_reads_174 (by decide) ?_
                  refine ln_isub hx hb dX6_reads_191 (by omega) ?_
                  refine lv_istore_n (lv' := [(1, .int (nI (lf - 0))), (0, .ref aM), (2, .int (nI set)), (3, .int (-1)), (4, .int (nI pp)), (5, .int (nI (so pp))), (6, .int (nI kc))]) hx hb dX6_reads_192 rfl hl (by decide) rfl (fun ls hl => ?_)
                  have elf : lf - 0 = mlz_3 (18 * Sp pp + so pp) := by have c3 := g5.2.2; rw [if_pos efirst, if_pos efirst] at c3; have := hlf.1 efirst; omega
                  refine lv_aload_n hx hb dX6_reads_193 rfl (lv_at hl 1 rfl) ?_
                  refine va_get (D := (dC, dI)) (ci := 6) (v := .ref aMp) (C := RX6) (T := TX6) (N := 20) hx hb hts mX6_reads_inX6 hown hK hP 0 rfl rfl 17 (by decide) (hts (.fieldLink RX6 55 "LeafOrderModel" "place" "[I") mX6_reads_2) (fun _ h9 => h9) rfl dX6_reads_194 ?_
                  refine lv_iload hx hb dX6_reads_197 (lv_at hl 4 rfl) ?_
                  refine lv_iload hx hb dX6_reads_199 (lv_at hl 5 rfl) ?_
                  refine lv_iconst (v := nI 2) hx hb dX6_reads_201 (by decide) ?_
                  refine ln_idiv hx hb dX6_reads_202 (by omega) (by decide) (by decide) ?_
                  refine ln_iast (i := pp) hx hb hK hP hD hS 12 0 rfl rfl (by omega) (by decide) dX6_reads_203 (fun H locs hP hD hS => ?_)
                  have b_14 : ∀ z_, (upN mpv pp ((so pp) / 2)) z_ ≤ 8 := upN_le bMpv (by omega)
                  have hP : va_P (dC, dI) vwCl [(aM, .inr (6, [.int (nI nL), .ref aMb, .ref aMe, .ref aMw, .ref aMc, .ref aMd, .ref aMs, .ref aMz, .int (nI mt), .ref aMA, .ref aMJ, .ref aMl, .ref aM2, .int ba, .int bb, .int (nI u1z_5), .int (nI u2z_6), .ref aMp, .ref aMt, .int (nI pt)])), (aMb, .inl (cI, 18, .inl (nF fb))), (aMe, .inl (cI, 18, .inl (nF fe))), (aMw, .inl (cI, 18, .inl fw)), (aMc, .inl (cI, 18, .inl (nF fc))), (aMd, .inl (cI, 18, .inl (nF fd))), (aMs, .inl (cI, 27, .inl (nF fs))), (aMz, .inl (cI, 6, .inl (nF fz))), (aMA, .inl (cZ, 81, .inl (nF gA))), (aMJ, .inl (cZ, 81, .inl (nF gJ))), (aMl, .inl (cI, 9216, .inl (nF mlz_3))), (aM2, .inl (cI, 9216, .inl (nF m2z_4))), (aMp, .inl (cI, 9, .inl (nF (upN mpv pp ((so pp) / 2))))), (aMt, .inl (cI, 9, .inl (nF mqv)))] H := hP
                  have hD : va_D A [(aM, .inr (6, [.int (nI nL), .ref aMb, .ref aMe, .ref aMw, .ref aMc, .ref aMd, .ref aMs, .ref aMz, .int (nI mt), .ref aMA, .ref aMJ, .ref aMl, .ref aM2, .int ba, .int bb, .int (nI u1z_5), .int (nI u2z_6), .ref aMp, .ref aMt, .int (nI pt)])), (aMb, .inl (cI, 18, .inl (nF fb))), (aMe, .inl (cI, 18, .inl (nF fe))), (aMw, .inl (cI, 18, .inl fw)), (aMc, .inl (cI, 18, .inl (nF fc))), (aMd, .inl (cI, 18, .inl (nF fd))), (aMs, .inl (cI, 27, .inl (nF fs))), (aMz, .inl (cI, 6, .inl (nF fz))), (aMA, .inl (cZ, 81, .inl (nF gA))), (aMJ, .inl (cZ, 81, .inl (nF gJ))), (aMl, .inl (cI, 9216, .inl (nF mlz_3))), (aM2, .inl (cI, 9216, .inl (nF m2z_4))), (aMp, .inl (cI, 9, .inl (nF (upN mpv pp ((so pp) / 2))))), (aMt, .inl (cI, 9, .inl (nF mqv)))] := hD
                  refine lv_aload_n hx hb dX6_reads_204 rfl (lv_at hl 1 rfl) ?_
                  refine va_get (D := (dC, dI)) (ci := 6) (v := .ref aMt) (C := RX6) (T := TX6) (N := 20) hx hb hts mX6_reads_inX6 hown hK hP 0 rfl rfl 18 (by decide) (hts (.fieldLink RX6 58 "LeafOrderModel" "turned" "[I") mX6_reads_3) (fun _ h9 => h9) rfl dX6_reads_205 ?_
                  refine lv_iload hx hb dX6_reads_208 (lv_at hl 4 rfl) ?_
                  refine lv_iload hx hb dX6_reads_210 (lv_at hl 5 rfl) ?_
                  refine lv_iconst (v := nI 2) hx hb dX6_reads_212 (by decide) ?_
                  refine ln_irem hx hb dX6_reads_213 (by omega) (by decide) (by decide) ?_
                  refine ln_iast (i := pp) hx hb hK hP hD hS 13 0 rfl rfl (by omega) (by decide) dX6_reads_214 (fun H locs hP hD hS => ?_)
                  have b_15 : ∀ z_, (upN mqv pp ((so pp) % 2)) z_ ≤ 1 := upN_le bMqv (by omega)
                  have hP : va_P (dC, dI) vwCl [(aM, .inr (6, [.int (nI nL), .ref aMb, .ref aMe, .ref aMw, .ref aMc, .ref aMd, .ref aMs, .ref aMz, .int (nI mt), .ref aMA, .ref aMJ, .ref aMl, .ref aM2, .int ba, .int bb, .int (nI u1z_5), .int (nI u2z_6), .ref aMp, .ref aMt, .int (nI pt)])), (aMb, .inl (cI, 18, .inl (nF fb))), (aMe, .inl (cI, 18, .inl (nF fe))), (aMw, .inl (cI, 18, .inl fw)), (aMc, .inl (cI, 18, .inl (nF fc))), (aMd, .inl (cI, 18, .inl (nF fd))), (aMs, .inl (cI, 27, .inl (nF fs))), (aMz, .inl (cI, 6, .inl (nF fz))), (aMA, .inl (cZ, 81, .inl (nF gA))), (aMJ, .inl (cZ, 81, .inl (nF gJ))), (aMl, .inl (cI, 9216, .inl (nF mlz_3))), (aM2, .inl (cI, 9216, .inl (nF m2z_4))), (aMp, .inl (cI, 9, .inl (nF (upN mpv pp ((so pp) / 2))))), (aMt, .inl (cI, 9, .inl (nF (upN mqv pp ((so pp) % 2)))))] H := hP
                  have hD : va_D A [(aM, .inr (6, [.int (nI nL), .ref aMb, .ref aMe, .ref aMw, .ref aMc, .ref aMd, .ref aMs, .ref aMz, .int (nI mt), .ref aMA, .ref aMJ, .ref aMl, .ref aM2, .int ba, .int bb, .int (nI u1z_5), .int (nI u2z_6), .ref aMp, .ref aMt, .int (nI pt)])), (aMb, .inl (cI, 18, .inl (nF fb))), (aMe, .inl (cI, 18, .inl (nF fe))), (aMw, .inl (cI, 18, .inl fw)), (aMc, .inl (cI, 18, .inl (nF fc))), (aMd, .inl (cI, 18, .inl (nF fd))), (aMs, .inl (cI, 27, .inl (nF fs))), (aMz, .inl (cI, 6, .inl (nF fz))), (aMA, .inl (cZ, 81, .inl (nF gA))), (aMJ, .inl (cZ, 81, .inl (nF gJ))), (aMl, .inl (cI, 9216, .inl (nF mlz_3))), (aM2, .inl (cI, 9216, .inl (nF m2z_4))), (aMp, .inl (cI, 9, .inl (nF (upN mpv pp ((so pp) / 2))))), (aMt, .inl (cI, 9, .inl (nF (upN mqv pp ((so pp) % 2)))))] := hD
                  refine lv_aload_n hx hb dX6_reads_215 rfl (lv_at hl 1 rfl) ?_
                  refine va_get (D := (dC, dI)) (ci := 6) (v := .ref aMp) (C := RX6) (T := TX6) (N := 20) hx hb hts mX6_reads_inX6 hown hK hP 0 rfl rfl 17 (by decide) (hts (.fieldLink RX6 55 "LeafOrderModel" "place" "[I") mX6_reads_2) (fun _ h9 => h9) rfl dX6_reads_216 ?_
                  refine lv_iload hx hb dX6_reads_219 (lv_at hl 4 rfl) ?_
                  refine ln_iald (i := pp) hx hb hK hP 12 0 rfl rfl (by omega) (by decide) dX6_reads_221 ?_
                  have b_16 := b_14 pp
                  refine W.eq (g2 := F0 m 222 ls [.int (nI (so pp / 2))]) (by rw [upN_s]) ?_
                  refine lv_istore_n (lv' := [(3, .int (nI (so pp / 2))), (1, .int (nI (lf - 0))), (0, .ref aM), (2, .int (nI set)), (4, .int (nI pp)), (5, .int (nI (so pp))), (6, .int (nI kc))]) hx hb dX6_reads_222 rfl hl (by decide) rfl (fun ls hl => ?_)
                  have hb2 : 2 ^ (so pp / 2) ≤ set := by rw [eset]; exact bit_le g3
                  refine lv_iload_n hx hb dX6_reads_223 rfl (lv_at hl 3 rfl) ?_
                  refine lv_iconst (v := nI 1) hx hb dX6_reads_224 (by decide) ?_
                  refine lv_iload_n hx hb dX6_reads_225 rfl (lv_at hl 0 rfl) ?_
                  refine ln_ishl1 hx hb dX6_reads_226 (by omega) ?_
                  refine ln_isub hx hb dX6_reads_227 hb2 ?_
                  refine lv_istore_n (lv' := [(2, .int (nI (set - (2 ^ (so pp / 2))))), (3, .int (nI (so pp / 2))), (1, .int (nI (lf - 0))), (0, .ref aM), (4, .int (nI pp)), (5, .int (nI (so pp))), (6, .int (nI kc))]) hx hb dX6_reads_228 rfl hl (by decide) rfl (fun ls hl => ?_)
                  have hl : lv_has ls 9 [(2, .int (nI (set - (2 ^ (so pp / 2))))), (3, .int (bhN (so pp / 2))), (1, .int (nI (mlz_3 (18 * Sp pp + so pp)))), (0, .ref aM), (4, .int (nI pp)), (5, .int (nI (so pp))), (6, .int (nI kc))] := by rw [bhN_lt (show so pp / 2 < 18 by omega), ← elf]; exact hl
                  refine lv_iinc (v := (nI pp - nI 1)) (lv' := [(4, .int (nI pp - nI 1)), (2, .int (nI (set - (2 ^ (so pp / 2))))), (3, .int (bhN (so pp / 2))), (1, .int (nI (mlz_3 (18 * Sp pp + so pp)))), (0, .ref aM), (5, .int (nI (so pp))), (6, .int (nI kc))]) hx hb dX6_reads_229 hl (k := 4) rfl (pl_dec _) (by decide) rfl (fun ls hl => ?_)
                  refine lv_goto (tgt := 20) hx hb dX6_reads_232 (by decide) ?_
                  exact ih20 pp (mlz_3 (18 * Sp pp + so pp)) (set - (2 ^ (so pp / 2))) (so pp / 2) (upN mpv pp ((so pp) / 2)) (upN mqv pp ((so pp) % 2)) (by omega) b_14 b_15 (by omega) (fun q => by rw [← nclr_sub hset9 (by omega) (by rw [eset]; exact g3), eset]; exact (g4 q).symm) (Nat.lt_of_le_of_lt (Nat.sub_le _ _) hset9) (Or.inr ⟨by omega, rfl⟩) ⟨fun q => absurd q (by omega), fun _ => rfl⟩ (hl1 _) (rd_put hpm) _ _ hP hD hS ls (lv_sub hl [4, 3, 1, 2, 0] rfl)
                · have efirst : ¬ pp + 1 = nL := by omega
                  have hbh9 : bh < 9 := by have := (hSp (pp + 1) (by omega)).2.1; omega
                  have hl : lv_has ls 9 [(0, .ref aM), (1, .int (nI lf)), (2, .int (nI set)), (3, .int (nI bh)), (4, .int (nI pp)), (5, .int (nI (so pp))), (6, .int (nI kc))] := by rw [bhN_lt (by omega)] at hl; exact hl
                  refine lv_iload_n hx hb dX6_reads_168 rfl (lv_at hl 1 rfl) ?_
                  refine lv_iload_n hx hb dX6_reads_169 rfl (lv_at hl 3 rfl) ?_
                  refine ln_if_ge (tgt := 177) hx hb dX6_reads_170 (by decide) (by omega) ?_
                  refine lv_iload_n hx hb dX6_reads_177 rfl (lv_at hl 1 rfl) ?_
                  refine lv_aload_n hx hb dX6_reads_178 rfl (lv_at hl 0 rfl) ?_
                  refine va_get (D := (dC, dI)) (ci := 6) (v := .ref aMl) (C := RX6) (T := TX6) (N := 20) hx hb hts mX6_reads_inX6 hown hK hP 0 rfl rfl 11 (by decide) (hts (.fieldLink RX6 42 "LeafOrderModel" "least" "[I") mX6_reads_4) (fun _ h9 => h9) rfl dX6_reads_179 ?_
                  refine lv_bipush (v := nI 18) hx hb dX6_reads_182 (by decide) ?_
                  refine lv_iload_n hx hb dX6_reads_184 rfl (lv_at hl 2 rfl) ?_
                  refine ln_imul hx hb dX6_reads_185 ?_
                  refine lv_iload hx hb dX6_reads_186 (lv_at hl 5 rfl) ?_
                  refine ln_iadd hx hb dX6_reads_188 ?_
                  refine ln_iald (i := (18 * set) + (so pp)) hx hb hK hP 10 0 rfl rfl (by omega) (by decide) dX6_reads_189 ?_
                  have b_17 := hl1 ((18 * set) + (so pp))
                  refine ln_isub hx hb dX6_reads_190 (by rw [eset]; have c3 := g5.2.2; rw [if_neg efirst, if_neg efirst] at c3; have := hlf.2 (by omega); omega) ?_
                  refine ln_isub hx hb dX6_reads_191 (by omega) ?_
                  refine lv_istore_n (lv' := [(1, .int (nI (lf - (lf - (mlz_3 ((18 * set) + (so pp))))))), (0, .ref aM), (2, .int (nI set)), (3, .int (nI bh)), (4, .int (nI pp)), (5, .int (nI (so pp))), (6, .int (nI kc))]) hx hb dX6_reads_192 rfl hl (by decide) rfl (fun ls hl => ?_)
                  have elf : lf - (lf - (mlz_3 ((18 * set) + (so pp)))) = mlz_3 (18 * Sp pp + so pp) := by rw [eset]; have c3 := g5.2.2; rw [if_neg efirst, if_neg efirst] at c3; have := hlf.2 (by omega); omega
                  refine lv_aload_n hx hb dX6_reads_193 rfl (lv_at hl 1 rfl) ?_
                  refine va_get (D := (dC, dI)) (ci := 6) (v := .ref aMp) (C := RX6) (T := TX6) (N := 20) hx hb hts mX6_reads_inX6 hown hK hP 0 rfl rfl 17 (by decide) (hts (.fieldLink RX6 55 "LeafOrderModel" "place" "[I") mX6_reads_2) (fun _ h9 => h9) rfl dX6_reads_194 ?_
                  refine lv_iload hx hb dX6_reads_197 (lv_at hl 4 rfl) ?_
                  refine lv_iload hx hb dX6_reads_199 (lv_at hl 5 rfl) ?_
                  refine lv_iconst (v := nI 2) hx hb dX6_reads_201 (by decide) ?_
                  refine ln_idiv hx hb dX6_reads_202 (by omega) (by decide) (by decide) ?_
                  refine ln_iast (i := pp) hx hb hK hP hD hS 12 0 rfl rfl (by omega) (by decide) dX6_reads_203 (fun H locs hP hD hS => ?_)
                  have b_18 : ∀ z_, (upN mpv pp ((so pp) / 2)) z_ ≤ 8 := upN_le bMpv (by omega)
                  have hP : va_P (dC, dI) vwCl [(aM, .inr (6, [.int (nI nL), .ref aMb, .ref aMe, .ref aMw, .ref aMc, .ref aMd, .ref aMs, .ref aMz, .int (nI mt), .ref aMA, .ref aMJ, .ref aMl, .ref aM2, .int ba, .int bb, .int (nI u1z_5), .int (nI u2z_6), .ref aMp, .ref aMt, .int (nI pt)])), (aMb, .inl (cI, 18, .inl (nF fb))), (aMe, .inl (cI, 18, .inl (nF fe))), (aMw, .inl (cI, 18, .inl fw)), (aMc, .inl (cI, 18, .inl (nF fc))), (aMd, .inl (cI, 18, .inl (nF fd))), (aMs, .inl (cI, 27, .inl (nF fs))), (aMz, .inl (cI, 6, .inl (nF fz))), (aMA, .inl (cZ, 81, .inl (nF gA))), (aMJ, .inl (cZ, 81, .inl (nF gJ))), (aMl, .inl (cI, 9216, .inl (nF mlz_3))), (aM2, .inl (cI, 9216, .inl (nF m2z_4))), (aMp, .inl (cI, 9, .inl (nF (upN mpv pp ((so pp) / 2))))), (aMt, .inl (cI, 9, .inl (nF mqv)))] H := hP
                  have hD : va_D A [(aM, .inr (6, [.int (nI nL), .ref aMb, .ref aMe, .ref aMw, .ref aMc, .ref aMd, .ref aMs, .ref aMz, .int (nI mt), .ref aMA, .ref aMJ, .ref aMl, .ref aM2, .int ba, .int bb, .int (nI u1z_5), .int (nI u2z_6), .ref aMp, .ref aMt, .int (nI pt)])), (aMb, .inl (cI, 18, .inl (nF fb))), (aMe, .inl (cI, 18, .inl (nF fe))), (aMw, .inl (cI, 18, .inl fw)), (aMc, .inl (cI, 18, .inl (nF fc))), (aMd, .inl (cI, 18, .inl (nF fd))), (aMs, .inl (cI, 27, .inl (nF fs))), (aMz, .inl (cI, 6, .inl (nF fz))), (aMA, .inl (cZ, 81, .inl (nF gA))), (aMJ, .inl (cZ, 81, .inl (nF gJ))), (aMl, .inl (cI, 9216, .inl (nF mlz_3))), (aM2, .inl (cI, 9216, .inl (nF m2z_4))), (aMp, .inl (cI, 9, .inl (nF (upN mpv pp ((so pp) / 2))))), (aMt, .inl (cI, 9, .inl (nF mqv)))] := hD
                  refine lv_aload_n hx hb dX6_reads_204 rfl (lv_at hl 1 rfl) ?_
                  refine va_get (D := (dC, dI)) (ci := 6) (v := .ref aMt) (C := RX6) (T := TX6) (N := 20) hx hb hts mX6_reads_inX6 hown hK hP 0 rfl rfl 18 (by decide) (hts (.fieldLink RX6 58 "LeafOrderModel" "turned" "[I") mX6_reads_3) (fun _ h9 => h9) rfl dX6_reads_205 ?_
                  refine lv_iload hx hb dX6_reads_208 (lv_at hl 4 rfl) ?_
                  refine lv_iload hx hb dX6_reads_210 (lv_at hl 5 rfl) ?_
                  refine lv_iconst (v := nI 2) hx hb dX6_reads_212 (by decide) ?_
                  refine ln_irem hx hb dX6_reads_213 (by omega) (by decide) (by decide) ?_
                  refine ln_iast (i := pp) hx hb hK hP hD hS 13 0 rfl rfl (by omega) (by decide) dX6_reads_214 (fun H locs hP hD hS => ?_)
                  have b_19 : ∀ z_, (upN mqv pp ((so pp) % 2)) z_ ≤ 1 := upN_le bMqv (by omega)
                  have hP : va_P (dC, dI) vwCl [(aM, .inr (6, [.int (nI nL), .ref aMb, .ref aMe, .ref aMw, .ref aMc, .ref aMd, .ref aMs, .ref aMz, .int (nI mt), .ref aMA, .ref aMJ, .ref aMl, .ref aM2, .int ba, .int bb, .int (nI u1z_5), .int (nI u2z_6), .ref aMp, .ref aMt, .int (nI pt)])), (aMb, .inl (cI, 18, .inl (nF fb))), (aMe, .inl (cI, 18, .inl (nF fe))), (aMw, .inl (cI, 18, .inl fw)), (aMc, .inl (cI, 18, .inl (nF fc))), (aMd, .inl (cI, 18, .inl (nF fd))), (aMs, .inl (cI, 27, .inl (nF fs))), (aMz, .inl (cI, 6, .inl (nF fz))), (aMA, .inl (cZ, 81, .inl (nF gA))), (aMJ, .inl (cZ, 81, .inl (nF gJ))), (aMl, .inl (cI, 9216, .inl (nF mlz_3))), (aM2, .inl (cI, 9216, .inl (nF m2z_4))), (aMp, .inl (cI, 9, .inl (nF (upN mpv pp ((so pp) / 2))))), (aMt, .inl (cI, 9, .inl (nF (upN mqv pp ((so pp) % 2)))))] H := hP
                  have hD : va_D A [(aM, .inr (6, [.int (nI nL), .ref aMb, .ref aMe, .ref aMw, .ref aMc, .ref aMd, .ref aMs, .ref aMz, .int (nI mt), .ref aMA, .ref aMJ, .ref aMl, .ref aM2, .int ba, .int bb, .int (nI u1z_5), .int (nI u2z_6), .ref aMp, .ref aMt, .int (nI pt)])), (aMb, .inl (cI, 18, .inl (nF fb))), (aMe, .inl (cI, 18, .inl (nF fe))), (aMw, .inl (cI, 18, .inl fw)), (aMc, .inl (cI, 18, .inl (nF fc))), (aMd, .inl (cI, 18, .inl (nF fd))), (aMs, .inl (cI, 27, .inl (nF fs))), (aMz, .inl (cI, 6, .inl (nF fz))), (aMA, .inl (cZ, 81, .inl (nF gA))), (aMJ, .inl (cZ, 81, .inl (nF gJ))), (aMl, .inl (cI, 9216, .inl (nF mlz_3))), (aM2, .inl (cI, 9216, .inl (nF m2z_4))), (aMp, .inl (cI, 9, .inl (nF (upN mpv pp ((so pp) / 2))))), (aMt, .inl (cI, 9, .inl (nF (upN mqv pp ((so pp) % 2)))))] := hD
                  refine lv_aload_n hx hb dX6_reads_215 rfl (lv_at hl 1 rfl) ?_
                  refine va_get (D := (dC, dI)) (ci := 6) (v := .ref aMp) (C := RX6) (T := TX6) (N := 20) hx hb hts mX6_reads_inX6 hown hK hP 0 rfl rfl 17 (by decide) (hts (.fieldLink RX6 55 "LeafOrderModel" "place" "[I") mX6_reads_2) (fun _ h9 => h9) rfl dX6_reads_216 ?_
                  refine lv_iload hx hb dX6_reads_219 (lv_at hl 4 rfl) ?_
                  refine ln_iald (i := pp) hx hb hK hP 12 0 rfl rfl (by omega) (by decide) dX6_reads_221 ?_
                  have b_20 := b_18 pp
                  refine W.eq (g2 := F0 m 222 ls [.int (nI (so pp / 2))]) (by rw [upN_s]) ?_
                  refine lv_istore_n (lv' := [(3, .int (nI (so pp / 2))), (1, .int (nI (lf - (lf - (mlz_3 ((18 * set) + (so pp))))))), (0, .ref aM), (2, .int (nI set)), (4, .int (nI pp)), (5, .int (nI (so pp))), (6, .int (nI kc))]) hx hb dX6_reads_222 rfl hl (by decide) rfl (fun ls hl => ?_)
                  have hb2 : 2 ^ (so pp / 2) ≤ set := by rw [eset]; exact bit_le g3
                  refine lv_iload_n hx hb dX6_reads_223 rfl (lv_at hl 3 rfl) ?_
                  refine lv_iconst (v := nI 1) hx hb dX6_reads_224 (by decide) ?_
                  refine lv_iload_n hx hb dX6_reads_225 rfl (lv_at hl 0 rfl) ?_
                  refine ln_ishl1 hx hb dX6_reads_226 (by omega) ?_
                  refine ln_isub hx hb dX6_reads_227 hb2 ?_
                  refine lv_istore_n (lv' := [(2, .int (nI (set - (2 ^ (so pp / 2))))), (3, .int (nI (so pp / 2))), (1, .int (nI (lf - (lf - (mlz_3 ((18 * set) + (so pp))))))), (0, .ref aM), (4, .int (nI pp)), (5, .int (nI (so pp))), (6, .int (nI kc))]) hx hb dX6_reads_228 rfl hl (by decide) rfl (fun ls hl => ?_)
                  have hl : lv_has ls 9 [(2, .int (nI (set - (2 ^ (so pp / 2))))), (3, .int (bhN (so pp / 2))), (1, .int (nI (mlz_3 (18 * Sp pp + so pp)))), (0, .ref aM), (4, .int (nI pp)), (5, .int (nI (so pp))), (6, .int (nI kc))] := by rw [bhN_lt (show so pp / 2 < 18 by omega), ← elf]; exact hl
                  refine lv_iinc (v := (nI pp - nI 1)) (lv' := [(4, .int (nI pp - nI 1)), (2, .int (nI (set - (2 ^ (so pp / 2))))), (3, .int (bhN (so pp / 2))), (1, .int (nI (mlz_3 (18 * Sp pp + so pp)))), (0, .ref aM), (5, .int (nI (so pp))), (6, .int (nI kc))]) hx hb dX6_reads_229 hl (k := 4) rfl (pl_dec _) (by decide) rfl (fun ls hl => ?_)
                  refine lv_goto (tgt := 20) hx hb dX6_reads_232 (by decide) ?_
                  exact ih20 pp (mlz_3 (18 * Sp pp + so pp)) (set - (2 ^ (so pp / 2))) (so pp / 2) (upN mpv pp ((so pp) / 2)) (upN mqv pp ((so pp) % 2)) (by omega) b_18 b_19 (by omega) (fun q => by rw [← nclr_sub hset9 (by omega) (by rw [eset]; exact g3), eset]; exact (g4 q).symm) (Nat.lt_of_le_of_lt (Nat.sub_le _ _) hset9) (Or.inr ⟨by omega, rfl⟩) ⟨fun q => absurd q (by omega), fun _ => rfl⟩ (hl1 _) (rd_put hpm) _ _ hP hD hS ls (lv_sub hl [4, 3, 1, 2, 0] rfl)
              · rcases Nat.lt_or_ge (so pp) kc with hf | hf
                · have hl : lv_has ls 9 [(0, .ref aM), (1, .int (nI lf)), (2, .int (nI set)), (3, .int (bhN bh)), (4, .int (nI pp)), (5, .int (nI (so pp))), (6, .int (nI kc))] := by rw [fdN_gt hf] at hl; exact hl
                  refine lv_iload hx hb dX6_reads_42 (lv_at hl 5 rfl) ?_
                  refine ln_if_ge (tgt := 168) hx hb dX6_reads_44 (by decide) (by omega) ?_
                  rcases hbh with ⟨e1, e2⟩ | ⟨e1, e2⟩
                  · have efirst : pp + 1 = nL := e1
                    have hl : lv_has ls 9 [(0, .ref aM), (1, .int (nI lf)), (2, .int (nI set)), (3, .int (-1)), (4, .int (nI pp)), (5, .int (nI (so pp))), (6, .int (nI kc))] := by rw [e2, bhN_18] at hl; exact hl
                    refine lv_iload_n hx hb dX6_reads_168 rfl (lv_at hl 1 rfl) ?_
                    refine lv_iload_n hx hb dX6_reads_169 rfl (lv_at hl 3 rfl) ?_
                    refine ln_if_geF (tgt := 177) hx hb dX6_reads_170 (by decide) (by decide) ?_
                    refine lv_iconst (v := nI 0) hx hb dX6_reads_173 (by decide) ?_
                    refine lv_goto (tgt := 191) hx hb dX6_reads_174 (by decide) ?_
                    refine ln_isub hx hb dX6_reads_191 (by omega) ?_
                    refine lv_istore_n (lv' := [(1, .int (nI (lf - 0))), (0, .ref aM), (2, .int (nI set)), (3, .int (-1)), (4, .int (nI pp)), (5, .int (nI (so pp))), (6, .int (nI kc))]) hx hb dX6_reads_192 rfl hl (by decide) rfl (fun ls hl => ?_)
                    have elf : lf - 0 = mlz_3 (18 * Sp pp + so pp) := by have c3 := g5.2.2; rw [if_pos efirst, if_pos efirst] at c3; have := hlf.1 efirst; omega
                    refine lv_aload_n hx hb dX6_reads_193 rfl (lv_at hl 1 rfl) ?_
                    refine va_get (D := (dC, dI)) (ci := 6) (v := .ref aMp) (C := RX6) (T := TX6) (N := 20) hx hb hts mX6_reads_inX6 hown hK hP 0 rfl rfl 17 (by decide) (hts (.fieldLink RX6 55 "LeafOrderModel" "place" "[I") mX6_reads_2) (fun _ h9 => h9) rfl dX6_reads_194 ?_
                    refine lv_iload hx hb dX6_reads_197 (lv_at hl 4 rfl) ?_
                    refine lv_iload hx hb dX6_reads_199 (lv_at hl 5 rfl) ?_
                    refine lv_iconst (v := nI 2) hx hb dX6_reads_201 (by decide) ?_
                    refine ln_idiv hx hb dX6_reads_202 (by omega) (by decide) (by decide) ?_
                    refine ln_iast (i := pp) hx hb hK hP hD hS 12 0 rfl rfl (by omega) (by decide) dX6_reads_203 (fun H locs hP hD hS => ?_)
                    have b_21 : ∀ z_, (upN mpv pp ((so pp) / 2)) z_ ≤ 8 := upN_le bMpv (by omega)
                    have hP : va_P (dC, dI) vwCl [(aM, .inr (6, [.int (nI nL), .ref aMb, .ref aMe, .ref aMw, .ref aMc, .ref aMd, .ref aMs, .ref aMz, .int (nI mt), .ref aMA, .ref aMJ, .ref aMl, .ref aM2, .int ba, .int bb, .int (nI u1z_5), .int (nI u2z_6), .ref aMp, .ref aMt, .int (nI pt)])), (aMb, .inl (cI, 18, .inl (nF fb))), (aMe, .inl (cI, 18, .inl (nF fe))), (aMw, .inl (cI, 18, .inl fw)), (aMc, .inl (cI, 18, .inl (nF fc))), (aMd, .inl (cI, 18, .inl (nF fd))), (aMs, .inl (cI, 27, .inl (nF fs))), (aMz, .inl (cI, 6, .inl (nF fz))), (aMA, .inl (cZ, 81, .inl (nF gA))), (aMJ, .inl (cZ, 81, .inl (nF gJ))), (aMl, .inl (cI, 9216, .inl (nF mlz_3))), (aM2, .inl (cI, 9216, .inl (nF m2z_4))), (aMp, .inl (cI, 9, .inl (nF (upN mpv pp ((so pp) / 2))))), (aMt, .inl (cI, 9, .inl (nF mqv)))] H := hP
                    have hD : va_D A [(aM, .inr (6, [.int (nI nL), .ref aMb, .ref aMe, .ref aMw, .ref aMc, .ref aMd, .ref aMs, .ref aMz, .int (nI mt), .ref aMA, .ref aMJ, .ref aMl, .ref aM2, .int ba, .int bb, .int (nI u1z_5), .int (nI u2z_6), .ref aMp, .ref aMt, .int (nI pt)])), (aMb, .inl (cI, 18, .inl (nF fb))), (aMe, .inl (cI, 18, .inl (nF fe))), (aMw, .inl (cI, 18, .inl fw)), (aMc, .inl (cI, 18, .inl (nF fc))), (aMd, .inl (cI, 18, .inl (nF fd))), (aMs, .inl (cI, 27, .inl (nF fs))), (aMz, .inl (cI, 6, .inl (nF fz))), (aMA, .inl (cZ, 81, .inl (nF gA))), (aMJ, .inl (cZ, 81, .inl (nF gJ))), (aMl, .inl (cI, 9216, .inl (nF mlz_3))), (aM2, .inl (cI, 9216, .inl (nF m2z_4))), (aMp, .inl (cI, 9, .inl (nF (upN mpv pp ((so pp) / 2))))), (aMt, .inl (cI, 9, .inl (nF mqv)))] := hD
                    refine lv_aload_n hx hb dX6_reads_204 rfl (lv_at hl 1 rfl) ?_
                    refine va_get (D := (dC, dI)) (ci := 6) (v := .ref aMt) (C := RX6) (T := TX6) (N := 20) hx hb hts mX6_reads_inX6 hown hK hP 0 rfl rfl 18 (by decide) (hts (.fieldLink RX6 58 "LeafOrderModel" "turned" "[I") mX6_reads_3) (fun _ h9 => h9) rfl dX6_reads_205 ?_
                    refine lv_iload hx hb dX6_reads_208 (lv_at hl 4 rfl) ?_
                    refine lv_iload hx hb dX6_reads_210 (lv_at hl 5 rfl) ?_
                    refine lv_iconst (v := nI 2) hx hb dX6_reads_212 (by decide) ?_
                    refine ln_irem hx hb dX6_reads_213 (by omega) (by decide) (by decide) ?_
                    refine ln_iast (i := pp) hx hb hK hP hD hS 13 0 rfl rfl (by omega) (by decide) dX6_reads_214 (fun H locs hP hD hS => ?_)
                    have b_22 : ∀ z_, (upN mqv pp ((so pp) % 2)) z_ ≤ 1 := upN_le bMqv (by omega)
                    have hP : va_P (dC, dI) vwCl [(aM, .inr (6, [.int (nI nL), .ref aMb, .ref aMe, .ref aMw, .ref aMc, .ref aMd, .ref aMs, .ref aMz, .int (nI mt), .ref aMA, .ref aMJ, .ref aMl, .ref aM2, .int ba, .int bb, .int (nI u1z_5), .int (nI u2z_6), .ref aMp, .ref aMt, .int (nI pt)])), (aMb, .inl (cI, 18, .inl (nF fb))), (aMe, .inl (cI, 18, .inl (nF fe))), (aMw, .inl (cI, 18, .inl fw)), (aMc, .inl (cI, 18, .inl (nF fc))), (aMd, .inl (cI, 18, .inl (nF fd))), (aMs, .inl (cI, 27, .inl (nF fs))), (aMz, .inl (cI, 6, .inl (nF fz))), (aMA, .inl (cZ, 81, .inl (nF gA))), (aMJ, .inl (cZ, 81, .inl (nF gJ))), (aMl, .inl (cI, 9216, .inl (nF mlz_3))), (aM2, .inl (cI, 9216, .inl (nF m2z_4))), (aMp, .inl (cI, 9, .inl (nF (upN mpv pp ((so pp) / 2))))), (aMt, .inl (cI, 9, .inl (nF (upN mqv pp ((so pp) % 2)))))] H := hP
                    have hD : va_D A [(aM, .inr (6, [.int (nI nL), .ref aMb, .ref aMe, .ref aMw, .ref aMc, .ref aMd, .ref aMs, .ref aMz, .int (nI mt), .ref aMA, .ref aMJ, .ref aMl, .ref aM2, .int ba, .int bb, .int (nI u1z_5), .int (nI u2z_6), .ref aMp, .ref aMt, .int (nI pt)])), (aMb, .inl (cI, 18, .inl (nF fb))), (aMe, .inl (cI, 18, .inl (nF fe))), (aMw, .inl (cI, 18, .inl fw)), (aMc, .inl (cI, 18, .inl (nF fc))), (aMd, .inl (cI, 18, .inl (nF fd))), (aMs, .inl (cI, 27, .inl (nF fs))), (aMz, .inl (cI, 6, .inl (nF fz))), (aMA, .inl (cZ, 81, .inl (nF gA))), (aMJ, .inl (cZ, 81, .inl (nF gJ))), (aMl, .inl (cI, 9216, .inl (nF mlz_3))), (aM2, .inl (cI, 9216, .inl (nF m2z_4))), (aMp, .inl (cI, 9, .inl (nF (upN mpv pp ((so pp) / 2))))), (aMt, .inl (cI, 9, .inl (nF (upN mqv pp ((so pp) % 2)))))] := hD
                    refine lv_aload_n hx hb dX6_reads_215 rfl (lv_at hl 1 rfl) ?_
                    refine va_get (D := (dC, dI)) (ci := 6) (v := .ref aMp) (C := RX6) (T := TX6) (N := 20) hx hb hts mX6_reads_inX6 hown hK hP 0 rfl rfl 17 (by decide) (hts (.fieldLink RX6 55 "LeafOrderModel" "place" "[I") mX6_reads_2) (fun _ h9 => h9) rfl dX6_reads_216 ?_
                    refine lv_iload hx hb dX6_reads_219 (lv_at hl 4 rfl) ?_
                    refine ln_iald (i := pp) hx hb hK hP 12 0 rfl rfl (by omega) (by decide) dX6_reads_221 ?_
                    have b_23 := b_21 pp
                    refine W.eq (g2 := F0 m 222 ls [.int (nI (so pp / 2))]) (by rw [upN_s]) ?_
                    refine lv_istore_n (lv' := [(3, .int (nI (so pp / 2))), (1, .int (nI (lf - 0))), (0, .ref aM), (2, .int (nI set)), (4, .int (nI pp)), (5, .int (nI (so pp))), (6, .int (nI kc))]) hx hb dX6_reads_222 rfl hl (by decide) rfl (fun ls hl => ?_)
                    have hb2 : 2 ^ (so pp / 2) ≤ set := by rw [eset]; exact bit_le g3
                    refine lv_iload_n hx hb dX6_reads_223 rfl (lv_at hl 3 rfl) ?_
                    refine lv_iconst (v := nI 1) hx hb dX6_reads_224 (by decide) ?_
                    refine lv_iload_n hx hb dX6_reads_225 rfl (lv_at hl 0 rfl) ?_
                    refine ln_ishl1 hx hb dX6_reads_226 (by omega) ?_
                    refine ln_isub hx hb dX6_reads_227 hb2 ?_
                    refine lv_istore_n (lv' := [(2, .int (nI (set - (2 ^ (so pp / 2))))), (3, .int (nI (so pp / 2))), (1, .int (nI (lf - 0))), (0, .ref aM), (4, .int (nI pp)), (5, .int (nI (so pp))), (6, .int (nI kc))]) hx hb dX6_reads_228 rfl hl (by decide) rfl (fun ls hl => ?_)
                    have hl : lv_has ls 9 [(2, .int (nI (set - (2 ^ (so pp / 2))))), (3, .int (bhN (so pp / 2))), (1, .int (nI (mlz_3 (18 * Sp pp + so pp)))), (0, .ref aM), (4, .int (nI pp)), (5, .int (nI (so pp))), (6, .int (nI kc))] := by rw [bhN_lt (show so pp / 2 < 18 by omega), ← elf]; exact hl
                    refine lv_iinc (v := (nI pp - nI 1)) (lv' := [(4, .int (nI pp - nI 1)), (2, .int (nI (set - (2 ^ (so pp / 2))))), (3, .int (bhN (so pp / 2))), (1, .int (nI (mlz_3 (18 * Sp pp + so pp)))), (0, .ref aM), (5, .int (nI (so pp))), (6, .int (nI kc))]) hx hb dX6_reads_229 hl (k := 4) rfl (pl_dec _) (by decide) rfl (fun ls hl => ?_)
                    refine lv_goto (tgt := 20) hx hb dX6_reads_232 (by decide) ?_
                    exact ih20 pp (mlz_3 (18 * Sp pp + so pp)) (set - (2 ^ (so pp / 2))) (so pp / 2) (upN mpv pp ((so pp) / 2)) (upN mqv pp ((so pp) % 2)) (by omega) b_21 b_22 (by omega) (fun q => by rw [← nclr_sub hset9 (by omega) (by rw [eset]; exact g3), eset]; exact (g4 q).symm) (Nat.lt_of_le_of_lt (Nat.sub_le _ _) hset9) (Or.inr ⟨by omega, rfl⟩) ⟨fun q => absurd q (by omega), fun _ => rfl⟩ (hl1 _) (rd_put hpm) _ _ hP hD hS ls (lv_sub hl [4, 3, 1, 2, 0] rfl)
                  · have efirst : ¬ pp + 1 = nL := by omega
                    have hbh9 : bh < 9 := by have := (hSp (pp + 1) (by omega)).2.1; omega
                    have hl : lv_has ls 9 [(0, .ref aM), (1, .int (nI lf)), (2, .int (nI set)), (3, .int (nI bh)), (4, .int (nI pp)), (5, .int (nI (so pp))), (6, .int (nI kc))] := by rw [bhN_lt (by omega)] at hl; exact hl
                    refine lv_iload_n hx hb dX6_reads_168 rfl (lv_at hl 1 rfl) ?_
                    refine lv_iload_n hx hb dX6_reads_169 rfl (lv_at hl 3 rfl) ?_
                    refine ln_if_ge (tgt := 177) hx hb dX6_reads_170 (by decide) (by omega) ?_
                    refine lv_iload_n hx hb dX6_reads_177 rfl (lv_at hl 1 rfl) ?_
                    refine lv_aload_n hx hb dX6_reads_178 rfl (lv_at hl 0 rfl) ?_
                    refine va_get (D := (dC, dI)) (ci := 6) (v := .ref aMl) (C := RX6) (T := TX6) (N := 20) hx hb hts mX6_reads_inX6 hown hK hP 0 rfl rfl 11 (by decide) (hts (.fieldLink RX6 42 "LeafOrderModel" "least" "[I") mX6_reads_4) (fun _ h9 => h9) rfl dX6_reads_179 ?_
                    refine lv_bipush (v := nI 18) hx hb dX6_reads_182 (by decide) ?_
                    refine lv_iload_n hx hb dX6_reads_184 rfl (lv_at hl 2 rfl) ?_
                    refine ln_imul hx hb dX6_reads_185 ?_
                    refine lv_iload hx hb dX6_reads_186 (lv_at hl 5 rfl) ?_
                    refine ln_iadd hx hb dX6_reads_188 ?_
                    refine ln_iald (i := (18 * set) + (so pp)) hx hb hK hP 10 0 rfl rfl (by omega) (by decide) dX6_reads_189 ?_
                    have b_24 := hl1 ((18 * set) + (so pp))
                    refine ln_isub hx hb dX6_reads_190 (by rw [eset]; have c3 := g5.2.2; rw [if_neg efirst, if_neg efirst] at c3; have := hlf.2 (by omega); omega) ?_
                    refine ln_isub hx hb dX6_reads_191 (by omega) ?_
                    refine lv_istore_n (lv' := [(1, .int (nI (lf - (lf - (mlz_3 ((18 * set) + (so pp))))))), (0, .ref aM), (2, .int (nI set)), (3, .int (nI bh)), (4, .int (nI pp)), (5, .int (nI (so pp))), (6, .int (nI kc))]) hx hb dX6_reads_192 rfl hl (by decide) rfl (fun ls hl => ?_)
                    have elf : lf - (lf - (mlz_3 ((18 * set) + (so pp)))) = mlz_3 (18 * Sp pp + so pp) := by rw [eset]; have c3 := g5.2.2; rw [if_neg efirst, if_neg efirst] at c3; have := hlf.2 (by omega); omega
                    refine lv_aload_n hx hb dX6_reads_193 rfl (lv_at hl 1 rfl) ?_
                    refine va_get (D := (dC, dI)) (ci := 6) (v := .ref aMp) (C := RX6) (T := TX6) (N := 20) hx hb hts mX6_reads_inX6 hown hK hP 0 rfl rfl 17 (by decide) (hts (.fieldLink RX6 55 "LeafOrderModel" "place" "[I") mX6_reads_2) (fun _ h9 => h9) rfl dX6_reads_194 ?_
                    refine lv_iload hx hb dX6_reads_197 (lv_at hl 4 rfl) ?_
                    refine lv_iload hx hb dX6_reads_199 (lv_at hl 5 rfl) ?_
                    refine lv_iconst (v := nI 2) hx hb dX6_reads_201 (by decide) ?_
                    refine ln_idiv hx hb dX6_reads_202 (by omega) (by decide) (by decide) ?_
                    refine ln_iast (i := pp) hx hb hK hP hD hS 12 0 rfl rfl (by omega) (by decide) dX6_reads_203 (fun H locs hP hD hS => ?_)
                    have b_25 : ∀ z_, (upN mpv pp ((so pp) / 2)) z_ ≤ 8 := upN_le bMpv (by omega)
                    have hP : va_P (dC, dI) vwCl [(aM, .inr (6, [.int (nI nL), .ref aMb, .ref aMe, .ref aMw, .ref aMc, .ref aMd, .ref aMs, .ref aMz, .int (nI mt), .ref aMA, .ref aMJ, .ref aMl, .ref aM2, .int ba, .int bb, .int (nI u1z_5), .int (nI u2z_6), .ref aMp, .ref aMt, .int (nI pt)])), (aMb, .inl (cI, 18, .inl (nF fb))), (aMe, .inl (cI, 18, .inl (nF fe))), (aMw, .inl (cI, 18, .inl fw)), (aMc, .inl (cI, 18, .inl (nF fc))), (aMd, .inl (cI, 18, .inl (nF fd))), (aMs, .inl (cI, 27, .inl (nF fs))), (aMz, .inl (cI, 6, .inl (nF fz))), (aMA, .inl (cZ, 81, .inl (nF gA))), (aMJ, .inl (cZ, 81, .inl (nF gJ))), (aMl, .inl (cI, 9216, .inl (nF mlz_3))), (aM2, .inl (cI, 9216, .inl (nF m2z_4))), (aMp, .inl (cI, 9, .inl (nF (upN mpv pp ((so pp) / 2))))), (aMt, .inl (cI, 9, .inl (nF mqv)))] H := hP
                    have hD : va_D A [(aM, .inr (6, [.int (nI nL), .ref aMb, .ref aMe, .ref aMw, .ref aMc, .ref aMd, .ref aMs, .ref aMz, .int (nI mt), .ref aMA, .ref aMJ, .ref aMl, .ref aM2, .int ba, .int bb, .int (nI u1z_5), .int (nI u2z_6), .ref aMp, .ref aMt, .int (nI pt)])), (aMb, .inl (cI, 18, .inl (nF fb))), (aMe, .inl (cI, 18, .inl (nF fe))), (aMw, .inl (cI, 18, .inl fw)), (aMc, .inl (cI, 18, .inl (nF fc))), (aMd, .inl (cI, 18, .inl (nF fd))), (aMs, .inl (cI, 27, .inl (nF fs))), (aMz, .inl (cI, 6, .inl (nF fz))), (aMA, .inl (cZ, 81, .inl (nF gA))), (aMJ, .inl (cZ, 81, .inl (nF gJ))), (aMl, .inl (cI, 9216, .inl (nF mlz_3))), (aM2, .inl (cI, 9216, .inl (nF m2z_4))), (aMp, .inl (cI, 9, .inl (nF (upN mpv pp ((so pp) / 2))))), (aMt, .inl (cI, 9, .inl (nF mqv)))] := hD
                    refine lv_aload_n hx hb dX6_reads_204 rfl (lv_at hl 1 rfl) ?_
                    refine va_get (D := (dC, dI)) (ci := 6) (v := .ref aMt) (C := RX6) (T := TX6) (N := 20) hx hb hts mX6_reads_inX6 hown hK hP 0 rfl rfl 18 (by decide) (hts (.fieldLink RX6 58 "LeafOrderModel" "turned" "[I") mX6_reads_3) (fun _ h9 => h9) rfl dX6_reads_205 ?_
                    refine lv_iload hx hb dX6_reads_208 (lv_at hl 4 rfl) ?_
                    refine lv_iload hx hb dX6_reads_210 (lv_at hl 5 rfl) ?_
                    refine lv_iconst (v := nI 2) hx hb dX6_reads_212 (by decide) ?_
                    refine ln_irem hx hb dX6_reads_213 (by omega) (by decide) (by decide) ?_
                    refine ln_iast (i := pp) hx hb hK hP hD hS 13 0 rfl rfl (by omega) (by decide) dX6_reads_214 (fun H locs hP hD hS => ?_)
                    have b_26 : ∀ z_, (upN mqv pp ((so pp) % 2)) z_ ≤ 1 := upN_le bMqv (by omega)
                    have hP : va_P (dC, dI) vwCl [(aM, .inr (6, [.int (nI nL), .ref aMb, .ref aMe, .ref aMw, .ref aMc, .ref aMd, .ref aMs, .ref aMz, .int (nI mt), .ref aMA, .ref aMJ, .ref aMl, .ref aM2, .int ba, .int bb, .int (nI u1z_5), .int (nI u2z_6), .ref aMp, .ref aMt, .int (nI pt)])), (aMb, .inl (cI, 18, .inl (nF fb))), (aMe, .inl (cI, 18, .inl (nF fe))), (aMw, .inl (cI, 18, .inl fw)), (aMc, .inl (cI, 18, .inl (nF fc))), (aMd, .inl (cI, 18, .inl (nF fd))), (aMs, .inl (cI, 27, .inl (nF fs))), (aMz, .inl (cI, 6, .inl (nF fz))), (aMA, .inl (cZ, 81, .inl (nF gA))), (aMJ, .inl (cZ, 81, .inl (nF gJ))), (aMl, .inl (cI, 9216, .inl (nF mlz_3))), (aM2, .inl (cI, 9216, .inl (nF m2z_4))), (aMp, .inl (cI, 9, .inl (nF (upN mpv pp ((so pp) / 2))))), (aMt, .inl (cI, 9, .inl (nF (upN mqv pp ((so pp) % 2)))))] H := hP
                    have hD : va_D A [(aM, .inr (6, [.int (nI nL), .ref aMb, .ref aMe, .ref aMw, .ref aMc, .ref aMd, .ref aMs, .ref aMz, .int (nI mt), .ref aMA, .ref aMJ, .ref aMl, .ref aM2, .int ba, .int bb, .int (nI u1z_5), .int (nI u2z_6), .ref aMp, .ref aMt, .int (nI pt)])), (aMb, .inl (cI, 18, .inl (nF fb))), (aMe, .inl (cI, 18, .inl (nF fe))), (aMw, .inl (cI, 18, .inl fw)), (aMc, .inl (cI, 18, .inl (nF fc))), (aMd, .inl (cI, 18, .inl (nF fd))), (aMs, .inl (cI, 27, .inl (nF fs))), (aMz, .inl (cI, 6, .inl (nF fz))), (aMA, .inl (cZ, 81, .inl (nF gA))), (aMJ, .inl (cZ, 81, .inl (nF gJ))), (aMl, .inl (cI, 9216, .inl (nF mlz_3))), (aM2, .inl (cI, 9216, .inl (nF m2z_4))), (aMp, .inl (cI, 9, .inl (nF (upN mpv pp ((so pp) / 2))))), (aMt, .inl (cI, 9, .inl (nF (upN mqv pp ((so pp) % 2)))))] := hD
                    refine lv_aload_n hx hb dX6_reads_215 rfl (lv_at hl 1 rfl) ?_
                    refine va_get (D := (dC, dI)) (ci := 6) (v := .ref aMp) (C := RX6) (T := TX6) (N := 20) hx hb hts mX6_reads_inX6 hown hK hP 0 rfl rfl 17 (by decide) (hts (.fieldLink RX6 55 "LeafOrderModel" "place" "[I") mX6_reads_2) (fun _ h9 => h9) rfl dX6_reads_216 ?_
                    refine lv_iload hx hb dX6_reads_219 (lv_at hl 4 rfl) ?_
                    refine ln_iald (i := pp) hx hb hK hP 12 0 rfl rfl (by omega) (by decide) dX6_reads_221 ?_
                    have b_27 := b_25 pp
                    refine W.eq (g2 := F0 m 222 ls [.int (nI (so pp / 2))]) (by rw [upN_s]) ?_
                    refine lv_istore_n (lv' := [(3, .int (nI (so pp / 2))), (1, .int (nI (lf - (lf - (mlz_3 ((18 * set) + (so pp))))))), (0, .ref aM), (2, .int (nI set)), (4, .int (nI pp)), (5, .int (nI (so pp))), (6, .int (nI kc))]) hx hb dX6_reads_222 rfl hl (by decide) rfl (fun ls hl => ?_)
                    have hb2 : 2 ^ (so pp / 2) ≤ set := by rw [eset]; exact bit_le g3
                    refine lv_iload_n hx hb dX6_reads_223 rfl (lv_at hl 3 rfl) ?_
                    refine lv_iconst (v := nI 1) hx hb dX6_reads_224 (by decide) ?_
                    refine lv_iload_n hx hb dX6_reads_225 rfl (lv_at hl 0 rfl) ?_
                    refine ln_ishl1 hx hb dX6_reads_226 (by omega) ?_
                    refine ln_isub hx hb dX6_reads_227 hb2 ?_
                    refine lv_istore_n (lv' := [(2, .int (nI (set - (2 ^ (so pp / 2))))), (3, .int (nI (so pp / 2))), (1, .int (nI (lf - (lf - (mlz_3 ((18 * set) + (so pp))))))), (0, .ref aM), (4, .int (nI pp)), (5, .int (nI (so pp))), (6, .int (nI kc))]) hx hb dX6_reads_228 rfl hl (by decide) rfl (fun ls hl => ?_)
                    have hl : lv_has ls 9 [(2, .int (nI (set - (2 ^ (so pp / 2))))), (3, .int (bhN (so pp / 2))), (1, .int (nI (mlz_3 (18 * Sp pp + so pp)))), (0, .ref aM), (4, .int (nI pp)), (5, .int (nI (so pp))), (6, .int (nI kc))] := by rw [bhN_lt (show so pp / 2 < 18 by omega), ← elf]; exact hl
                    refine lv_iinc (v := (nI pp - nI 1)) (lv' := [(4, .int (nI pp - nI 1)), (2, .int (nI (set - (2 ^ (so pp / 2))))), (3, .int (bhN (so pp / 2))), (1, .int (nI (mlz_3 (18 * Sp pp + so pp)))), (0, .ref aM), (5, .int (nI (so pp))), (6, .int (nI kc))]) hx hb dX6_reads_229 hl (k := 4) rfl (pl_dec _) (by decide) rfl (fun ls hl => ?_)
                    refine lv_goto (tgt := 20) hx hb dX6_reads_232 (by decide) ?_
                    exact ih20 pp (mlz_3 (18 * Sp pp + so pp)) (set - (2 ^ (so pp / 2))) (so pp / 2) (upN mpv pp ((so pp) / 2)) (upN mqv pp ((so pp) % 2)) (by omega) b_25 b_26 (by omega) (fun q => by rw [← nclr_sub hset9 (by omega) (by rw [eset]; exact g3), eset]; exact (g4 q).symm) (Nat.lt_of_le_of_lt (Nat.sub_le _ _) hset9) (Or.inr ⟨by omega, rfl⟩) ⟨fun q => absurd q (by omega), fun _ => rfl⟩ (hl1 _) (rd_put hpm) _ _ hP hD hS ls (lv_sub hl [4, 3, 1, 2, 0] rfl)
                · have hl : lv_has ls 9 [(0, .ref aM), (1, .int (nI lf)), (2, .int (nI set)), (3, .int (bhN bh)), (4, .int (nI pp)), (5, .int (-1)), (6, .int (nI kc))] := by rw [fdN_le hf] at hl; exact hl
                  refine lv_iload hx hb dX6_reads_42 (lv_at hl 5 rfl) ?_
                  refine ln_if_geF (tgt := 168) hx hb dX6_reads_44 (by decide) (by decide) ?_
                  refine lv_iload hx hb dX6_reads_47 (lv_at hl 6 rfl) ?_
                  refine lv_iconst (v := nI 2) hx hb dX6_reads_49 (by decide) ?_
                  refine ln_idiv hx hb dX6_reads_50 (by omega) (by decide) (by decide) ?_
                  refine lv_istore (lv' := [(7, .int (nI (kc / 2))), (0, .ref aM), (1, .int (nI lf)), (2, .int (nI set)), (3, .int (bhN bh)), (4, .int (nI pp)), (5, .int (-1)), (6, .int (nI kc))]) hx hb dX6_reads_51 hl (by decide) rfl (fun ls hl => ?_)
                  refine lv_aload_n hx hb dX6_reads_53 rfl (lv_at hl 1 rfl) ?_
                  refine va_get (D := (dC, dI)) (ci := 6) (v := .ref aMl) (C := RX6) (T := TX6) (N := 20) hx hb hts mX6_reads_inX6 hown hK hP 0 rfl rfl 11 (by decide) (hts (.fieldLink RX6 42 "LeafOrderModel" "least" "[I") mX6_reads_4) (fun _ h9 => h9) rfl dX6_reads_54 ?_
                  refine lv_bipush (v := nI 18) hx hb dX6_reads_57 (by decide) ?_
                  refine lv_iload_n hx hb dX6_reads_59 rfl (lv_at hl 3 rfl) ?_
                  refine ln_imul hx hb dX6_reads_60 ?_
                  refine lv_iload hx hb dX6_reads_61 (lv_at hl 7 rfl) ?_
                  refine ln_iadd hx hb dX6_reads_63 ?_
                  refine ln_iald (i := (18 * set) + kc) hx hb hK hP 10 0 rfl rfl (by omega) (by decide) dX6_reads_64 ?_
                  have b_28 := hl1 ((18 * set) + kc)
                  refine lv_ldc (v := nI 1000000000) hx hb hown (hts (.constant RX6 87 (1000000000)) mX6_reads_5) dX6_reads_65 ?_
                  refine ln_icmp_eq (tgt := 162) hx hb dX6_reads_67 (by decide) (by omega) (by decide) (fun c_29 => ?_) (fun c_29 => ?_)
                  · refine lv_iinc (v := (nI (kc + 1))) (lv' := [(6, .int (nI (kc + 1))), (7, .int (nI (kc / 2))), (0, .ref aM), (1, .int (nI lf)), (2, .int (nI set)), (3, .int (bhN bh)), (4, .int (nI pp)), (5, .int (-1))]) hx hb dX6_reads_162 hl (k := 7) rfl (by first | exact nI_1 _ | rfl) (by decide) rfl (fun ls hl => ?_)
                    refine lv_goto (tgt := 35) hx hb dX6_reads_165 (by decide) ?_
                    have hne : ¬ kc = so pp := fun q => g5.1 (by rw [← eset, ← q]; exact c_29)
                    have hl : lv_has ls 9 [(6, .int (nI (kc + 1))), (7, .int (nI (kc / 2))), (0, .ref aM), (1, .int (nI lf)), (2, .int (nI set)), (3, .int (bhN bh)), (4, .int (nI pp)), (5, .int (fdN (so pp) (kc + 1)))] := by rw [fdN_le (show kc + 1 ≤ so pp by omega)]; exact hl
                    exact ih35 (kc + 1) (by omega)  (by omega) (by omega) _ _ hP hD hS ls (lv_sub hl [2, 3, 4, 5, 6, 7, 0] rfl)
                  · rcases hbh with ⟨e1, e2⟩ | ⟨e1, e2⟩
                    · have efirst : pp + 1 = nL := e1
                      have hl : lv_has ls 9 [(7, .int (nI (kc / 2))), (0, .ref aM), (1, .int (nI lf)), (2, .int (nI set)), (3, .int (-1)), (4, .int (nI pp)), (5, .int (-1)), (6, .int (nI kc))] := by rw [e2, bhN_18] at hl; exact hl
                      refine lv_iload_n hx hb dX6_reads_70 rfl (lv_at hl 4 rfl) ?_
                      refine ln_if_ltT (tgt := 88) hx hb dX6_reads_71 (by decide) (by decide) ?_
                      refine lv_iload_n hx hb dX6_reads_88 rfl (lv_at hl 4 rfl) ?_
                      refine ln_if_geF (tgt := 96) hx hb dX6_reads_89 (by decide) (by decide) ?_
                      refine lv_iconst (v := nI 0) hx hb dX6_reads_92 (by decide) ?_
                      refine lv_goto (tgt := 133) hx hb dX6_reads_93 (by decide) ?_
                      refine lv_istore (lv' := [(8, .int (nI 0)), (7, .int (nI (kc / 2))), (0, .ref aM), (1, .int (nI lf)), (2, .int (nI set)), (3, .int (-1)), (4, .int (nI pp)), (5, .int (-1)), (6, .int (nI kc))]) hx hb dX6_reads_133 hl (by decide) rfl (fun ls hl => ?_)
                      refine lv_aload_n hx hb dX6_reads_135 rfl (lv_at hl 2 rfl) ?_
                      refine va_get (D := (dC, dI)) (ci := 6) (v := .ref aMl) (C := RX6) (T := TX6) (N := 20) hx hb hts mX6_reads_inX6 hown hK hP 0 rfl rfl 11 (by decide) (hts (.fieldLink RX6 42 "LeafOrderModel" "least" "[I") mX6_reads_4) (fun _ h9 => h9) rfl dX6_reads_136 ?_
                      refine lv_bipush (v := nI 18) hx hb dX6_reads_139 (by decide) ?_
                      refine lv_iload_n hx hb dX6_reads_141 rfl (lv_at hl 4 rfl) ?_
                      refine ln_imul hx hb dX6_reads_142 ?_
                      refine lv_iload hx hb dX6_reads_143 (lv_at hl 8 rfl) ?_
                      refine ln_iadd hx hb dX6_reads_145 ?_
                      refine ln_iald (i := (18 * set) + kc) hx hb hK hP 10 0 rfl rfl (by omega) (by decide) dX6_reads_146 ?_
                      have b_30 := hl1 ((18 * set) + kc)
                      refine lv_iload hx hb dX6_reads_147 (lv_at hl 0 rfl) ?_
                      refine ln_iadd hx hb dX6_reads_149 ?_
                      refine lv_iload_n hx hb dX6_reads_150 rfl (lv_at hl 3 rfl) ?_
                      refine ln_icmp_ne (tgt := 159) hx hb dX6_reads_151 (by decide) (by omega) (by omega) (fun c_31 => ?_) (fun c_31 => ?_)
                      · refine lv_iconst (v := (-1)) hx hb dX6_reads_159 (by decide) ?_
                        refine lv_istore (lv' := [(5, .int (-1)), (8, .int (nI 0)), (7, .int (nI (kc / 2))), (0, .ref aM), (1, .int (nI lf)), (2, .int (nI set)), (3, .int (-1)), (4, .int (nI pp)), (6, .int (nI kc))]) hx hb dX6_reads_160 hl (by decide) rfl (fun ls hl => ?_)
                        refine lv_iinc (v := (nI (kc + 1))) (lv' := [(6, .int (nI (kc + 1))), (5, .int (-1)), (8, .int (nI 0)), (7, .int (nI (kc / 2))), (0, .ref aM), (1, .int (nI lf)), (2, .int (nI set)), (3, .int (-1)), (4, .int (nI pp))]) hx hb dX6_reads_162 hl (k := 8) rfl (by first | exact nI_1 _ | rfl) (by decide) rfl (fun ls hl => ?_)
                        refine lv_goto (tgt := 35) hx hb dX6_reads_165 (by decide) ?_
                        have hcnd : m_join fb fe fw fc fd fs fz kc (so (pp + 1)) = m_join fb fe fw fc fd fs fz kc (so (pp + 1)) := rfl
                        have hsum : mlz_3 (18 * Sp pp + kc) + (if pp + 1 = nL then 0 else m_join fb fe fw fc fd fs fz kc (so (pp + 1)) + so (pp + 1) % 2 * fz 4) = mlz_3 (18 * set + kc) + 0 := by rw [if_pos efirst, eset]
                        have hright : (if pp + 1 = nL then u1z_5 else mlz_3 (18 * Sp (pp + 1) + so (pp + 1))) = lf := by rw [if_pos efirst]; exact (hlf.1 efirst).symm
                        have hne : ¬ kc = so pp := fun q => c_31 (by have z := g5.2.2; rw [← q, hsum, hright] at z; exact z)
                        have hl : lv_has ls 9 [(6, .int (nI (kc + 1))), (5, .int (fdN (so pp) (kc + 1))), (8, .int (nI 0)), (7, .int (nI (kc / 2))), (0, .ref aM), (1, .int (nI lf)), (2, .int (nI set)), (3, .int (-1)), (4, .int (nI pp))] := by rw [fdN_le (show kc + 1 ≤ so pp by omega)]; exact hl
                        have hl : lv_has ls 9 [(6, .int (nI (kc + 1))), (5, .int (fdN (so pp) (kc + 1))), (8, .int (nI 0)), (7, .int (nI (kc / 2))), (0, .ref aM), (1, .int (nI lf)), (2, .int (nI set)), (3, .int (bhN bh)), (4, .int (nI pp))] := by rw [e2, bhN_18]; exact hl
                        exact ih35 (kc + 1) (by omega)  (by omega) (by omega) _ _ hP hD hS ls (lv_sub hl [4, 5, 6, 7, 8, 1, 0] rfl)
                      · refine lv_iload hx hb dX6_reads_154 (lv_at hl 8 rfl) ?_
                        refine lv_goto (tgt := 160) hx hb dX6_reads_156 (by decide) ?_
                        refine lv_istore (lv' := [(5, .int (nI kc)), (8, .int (nI 0)), (7, .int (nI (kc / 2))), (0, .ref aM), (1, .int (nI lf)), (2, .int (nI set)), (3, .int (-1)), (4, .int (nI pp)), (6, .int (nI kc))]) hx hb dX6_reads_160 hl (by decide) rfl (fun ls hl => ?_)
                        refine lv_iinc (v := (nI (kc + 1))) (lv' := [(6, .int (nI (kc + 1))), (5, .int (nI kc)), (8, .int (nI 0)), (7, .int (nI (kc / 2))), (0, .ref aM), (1, .int (nI lf)), (2, .int (nI set)), (3, .int (-1)), (4, .int (nI pp))]) hx hb dX6_reads_162 hl (k := 8) rfl (by first | exact nI_1 _ | rfl) (by decide) rfl (fun ls hl => ?_)
                        refine lv_goto (tgt := 35) hx hb dX6_reads_165 (by decide) ?_
                        have hcnd : m_join fb fe fw fc fd fs fz kc (so (pp + 1)) = m_join fb fe fw fc fd fs fz kc (so (pp + 1)) := rfl
                        have hsum : mlz_3 (18 * Sp pp + kc) + (if pp + 1 = nL then 0 else m_join fb fe fw fc fd fs fz kc (so (pp + 1)) + so (pp + 1) % 2 * fz 4) = mlz_3 (18 * set + kc) + 0 := by rw [if_pos efirst, eset]
                        have hright : (if pp + 1 = nL then u1z_5 else mlz_3 (18 * Sp (pp + 1) + so (pp + 1))) = lf := by rw [if_pos efirst]; exact (hlf.1 efirst).symm
                        have hck : cndP (m_join fb fe fw fc fd fs fz) (fz 4) nL gA gJ mlz_3 u1z_5 so Sp pp kc := ⟨(by rw [← eset]; exact c_29), (fun q => absurd q (by omega)), (by rw [hsum, hright]; exact c_31)⟩
                        have ekz : kc = so pp := by rcases Nat.lt_or_ge kc (so pp) with q | q; exact absurd hck (g6 kc q); omega
                        have hl : lv_has ls 9 [(6, .int (nI (kc + 1))), (5, .int (fdN (so pp) (kc + 1))), (8, .int (nI 0)), (7, .int (nI (kc / 2))), (0, .ref aM), (1, .int (nI lf)), (2, .int (nI set)), (3, .int (-1)), (4, .int (nI pp))] := by rw [fdN_gt (show so pp < kc + 1 by omega), ← ekz]; exact hl
                        have hl : lv_has ls 9 [(6, .int (nI (kc + 1))), (5, .int (fdN (so pp) (kc + 1))), (8, .int (nI 0)), (7, .int (nI (kc / 2))), (0, .ref aM), (1, .int (nI lf)), (2, .int (nI set)), (3, .int (bhN bh)), (4, .int (nI pp))] := by rw [e2, bhN_18]; exact hl
                        exact ih35 (kc + 1) (by omega)  (by omega) (by omega) _ _ hP hD hS ls (lv_sub hl [4, 5, 6, 7, 8, 1, 0] rfl)
                    · have efirst : ¬ pp + 1 = nL := by omega
                      have hbh9 : bh < 9 := by have := (hSp (pp + 1) (by omega)).2.1; omega
                      have hl : lv_has ls 9 [(7, .int (nI (kc / 2))), (0, .ref aM), (1, .int (nI lf)), (2, .int (nI set)), (3, .int (nI bh)), (4, .int (nI pp)), (5, .int (-1)), (6, .int (nI kc))] := by rw [bhN_lt (by omega)] at hl; exact hl
                      refine lv_iload_n hx hb dX6_reads_70 rfl (lv_at hl 4 rfl) ?_
                      refine ln_if_lt (tgt := 88) hx hb dX6_reads_71 (by decide) (by omega) ?_
                      refine lv_aload_n hx hb dX6_reads_74 rfl (lv_at hl 1 rfl) ?_
                      refine lv_iload_n hx hb dX6_reads_75 rfl (lv_at hl 3 rfl) ?_
                      refine lv_iload hx hb dX6_reads_76 (lv_at hl 0 rfl) ?_
                      refine lv_iload_n hx hb dX6_reads_78 rfl (lv_at hl 4 rfl) ?_
                      have hPc := hP.sub (ws' := [(aM, .inr (6, [.int (nI nL), .ref aMb, .ref aMe, .ref aMw, .ref aMc, .ref aMd, .ref aMs, .ref aMz, .int (nI mt), .ref aMA, .ref aMJ, .ref aMl, .ref aM2, .int ba, .int bb, .int (nI u1z_5), .int (nI u2z_6), .ref aMp, .ref aMt, .int (nI pt)])), (aMA, .inl (cZ, 81, .inl (nF gA))), (aMJ, .inl (cZ, 81, .inl (nF gJ)))]) [0, 8, 9] rfl
                      refine vp_callSi (W.runV (As := [.int (nI set), .int (nI (kc / 2)), .int (nI bh)]) (rest := []) ⟨hx, hb, hml, hown, hts⟩ (k_X6_mayFollow l dC dI cI cZ aM aMb aMe aMw aMc aMd aMs aMz aMA aMJ aMl aM2 aMp aMt nL mt ba bb u1z_5 u2z_6 pt gA gJ set (kc / 2) bh bMA bMJ hn (by omega) (by omega) (by omega)) (cwV 3 hts gX6_reads_X6_mayFollow rfl rfl rfl (by decide +kernel) ⟨Nat.le_of_ble_eq_true rfl, Nat.le_of_ble_eq_true rfl⟩) (ln_preV (q0 := 0) (ci := 6) hPc hKK rfl rfl) rfl rfl hl.1 rfl (lv_room (Nat.le_of_ble_eq_true rfl)) dX6_reads_79 ⟨Nat.le_of_ble_eq_true rfl, Nat.le_of_ble_eq_true rfl⟩) (fun r_32 w_33 => ?_)
                      rcases w_33 with ⟨rfl, c_34⟩ | ⟨rfl, c_34⟩
                      · refine ln_if_neT (tgt := 88) hx hb dX6_reads_82 (by decide) (by decide) ?_
                        refine lv_iload_n hx hb dX6_reads_88 rfl (lv_at hl 4 rfl) ?_
                        refine ln_if_ge (tgt := 96) hx hb dX6_reads_89 (by decide) (by omega) ?_
                        refine lv_aload_n hx hb dX6_reads_96 rfl (lv_at hl 1 rfl) ?_
                        refine lv_iload hx hb dX6_reads_97 (lv_at hl 0 rfl) ?_
                        refine lv_iload hx hb dX6_reads_99 (lv_at hl 7 rfl) ?_
                        refine lv_iconst (v := nI 2) hx hb dX6_reads_101 (by decide) ?_
                        refine ln_irem hx hb dX6_reads_102 (by omega) (by decide) (by decide) ?_
                        refine lv_iload_n hx hb dX6_reads_103 rfl (lv_at hl 4 rfl) ?_
                        refine lv_aload_n hx hb dX6_reads_104 rfl (lv_at hl 1 rfl) ?_
                        refine va_get (D := (dC, dI)) (ci := 6) (v := .ref aMt) (C := RX6) (T := TX6) (N := 20) hx hb hts mX6_reads_inX6 hown hK hP 0 rfl rfl 18 (by decide) (hts (.fieldLink RX6 58 "LeafOrderModel" "turned" "[I") mX6_reads_3) (fun _ h9 => h9) rfl dX6_reads_105 ?_
                        refine lv_iload hx hb dX6_reads_108 (lv_at hl 5 rfl) ?_
                        refine lv_iconst (v := nI 1) hx hb dX6_reads_110 (by decide) ?_
                        refine ln_iadd hx hb dX6_reads_111 ?_
                        refine ln_iald (i := pp + 1) hx hb hK hP 13 0 rfl rfl (by omega) (by decide) dX6_reads_112 ?_
                        have b_35 := bMqv (pp + 1)
                        have eq4 : mqv (pp + 1) = so (pp + 1) % 2 := (hpm (pp + 1) (by omega) (by omega)).2
                        have hPc := hP.sub (ws' := [(aM, .inr (6, [.int (nI nL), .ref aMb, .ref aMe, .ref aMw, .ref aMc, .ref aMd, .ref aMs, .ref aMz, .int (nI mt), .ref aMA, .ref aMJ, .ref aMl, .ref aM2, .int ba, .int bb, .int (nI u1z_5), .int (nI u2z_6), .ref aMp, .ref aMt, .int (nI pt)])), (aMb, .inl (cI, 18, .inl (nF fb))), (aMe, .inl (cI, 18, .inl (nF fe))), (aMw, .inl (cI, 18, .inl fw)), (aMc, .inl (cI, 18, .inl (nF fc))), (aMd, .inl (cI, 18, .inl (nF fd))), (aMs, .inl (cI, 27, .inl (nF fs))), (aMz, .inl (cI, 6, .inl (nF fz)))]) [0, 1, 2, 3, 4, 5, 6, 7] rfl
                        refine vp_callSi (W.runV (As := [.int (nI (kc / 2)), .int (nI (kc % 2)), .int (nI bh), .int (nI (mqv (pp + 1)))]) (rest := []) ⟨hx, hb, hml, hown, hts⟩ (k_X6_joins l dC dI cI cZ aM aMb aMe aMw aMc aMd aMs aMz aMA aMJ aMl aM2 aMp aMt nL mt ba bb u1z_5 u2z_6 pt fb fe fw fc fd fs fz (kc / 2) (kc % 2) bh (mqv (pp + 1)) bLb bLe bLc bLd bLs bCz (by omega) (by omega) (by omega) (by rw [eq4]; omega)) (cwV 4 hts gX6_reads_X6_joins rfl rfl rfl (by decide +kernel) ⟨Nat.le_of_ble_eq_true rfl, Nat.le_of_ble_eq_true rfl⟩) (ln_preV (q0 := 0) (ci := 6) hPc hKK rfl rfl) rfl rfl hl.1 rfl (lv_room (Nat.le_of_ble_eq_true rfl)) dX6_reads_113 ⟨Nat.le_of_ble_eq_true rfl, Nat.le_of_ble_eq_true rfl⟩) (fun r_36 w_37 => ?_)
                        subst w_37
                        refine lv_aload_n hx hb dX6_reads_116 rfl (lv_at hl 1 rfl) ?_
                        refine va_get (D := (dC, dI)) (ci := 6) (v := .ref aMt) (C := RX6) (T := TX6) (N := 20) hx hb hts mX6_reads_inX6 hown hK hP 0 rfl rfl 18 (by decide) (hts (.fieldLink RX6 58 "LeafOrderModel" "turned" "[I") mX6_reads_3) (fun _ h9 => h9) rfl dX6_reads_117 ?_
                        refine lv_iload hx hb dX6_reads_120 (lv_at hl 5 rfl) ?_
                        refine lv_iconst (v := nI 1) hx hb dX6_reads_122 (by decide) ?_
                        refine ln_iadd hx hb dX6_reads_123 ?_
                        refine ln_iald (i := pp + 1) hx hb hK hP 13 0 rfl rfl (by omega) (by decide) dX6_reads_124 ?_
                        have b_38 := bMqv (pp + 1)
                        refine lv_aload_n hx hb dX6_reads_125 rfl (lv_at hl 1 rfl) ?_
                        refine va_get (D := (dC, dI)) (ci := 6) (v := .ref aMz) (C := RX6) (T := TX6) (N := 20) hx hb hts mX6_reads_inX6 hown hK hP 0 rfl rfl 7 (by decide) (hts (.fieldLink RX6 28 "LeafOrderModel" "weight" "[I") mX6_reads_6) (fun _ h9 => h9) rfl dX6_reads_126 ?_
                        refine lv_iconst (v := nI 4) hx hb dX6_reads_129 (by decide) ?_
                        refine ln_iald (i := 4) hx hb hK hP 7 0 rfl rfl (by omega) (by decide) dX6_reads_130 ?_
                        have b_39 := bCz 4
                        have hz4 := bCz 4
                        have hqt : mqv (pp + 1) * fz 4 ≤ 999 := Nat.le_trans (Nat.mul_le_mul (show mqv (pp + 1) ≤ 1 by omega) hz4) (by decide)
                        have hjl := m_join_le fb fe fw fc fd fs fz (2 * (kc / 2) + kc % 2) (2 * bh + mqv (pp + 1)) bLb bLe bLs bCz hz
                        refine ln_imul hx hb dX6_reads_131 ?_
                        refine ln_iadd hx hb dX6_reads_132 ?_
                        refine lv_istore (lv' := [(8, .int (nI ((m_join fb fe fw fc fd fs fz (2 * (kc / 2) + (kc % 2)) (2 * bh + (mqv (pp + 1)))) + ((mqv (pp + 1)) * (fz 4))))), (7, .int (nI (kc / 2))), (0, .ref aM), (1, .int (nI lf)), (2, .int (nI set)), (3, .int (nI bh)), (4, .int (nI pp)), (5, .int (-1)), (6, .int (nI kc))]) hx hb dX6_reads_133 hl (by decide) rfl (fun ls hl => ?_)
                        refine lv_aload_n hx hb dX6_reads_135 rfl (lv_at hl 2 rfl) ?_
                        refine va_get (D := (dC, dI)) (ci := 6) (v := .ref aMl) (C := RX6) (T := TX6) (N := 20) hx hb hts mX6_reads_inX6 hown hK hP 0 rfl rfl 11 (by decide) (hts (.fieldLink RX6 42 "LeafOrderModel" "least" "[I") mX6_reads_4) (fun _ h9 => h9) rfl dX6_reads_136 ?_
                        refine lv_bipush (v := nI 18) hx hb dX6_reads_139 (by decide) ?_
                        refine lv_iload_n hx hb dX6_reads_141 rfl (lv_at hl 4 rfl) ?_
                        refine ln_imul hx hb dX6_reads_142 ?_
                        refine lv_iload hx hb dX6_reads_143 (lv_at hl 8 rfl) ?_
                        refine ln_iadd hx hb dX6_reads_145 ?_
                        refine ln_iald (i := (18 * set) + kc) hx hb hK hP 10 0 rfl rfl (by omega) (by decide) dX6_reads_146 ?_
                        have b_40 := hl1 ((18 * set) + kc)
                        refine lv_iload hx hb dX6_reads_147 (lv_at hl 0 rfl) ?_
                        refine ln_iadd hx hb dX6_reads_149 ?_
                        refine lv_iload_n hx hb dX6_reads_150 rfl (lv_at hl 3 rfl) ?_
                        refine ln_icmp_ne (tgt := 159) hx hb dX6_reads_151 (by decide) (by omega) (by omega) (fun c_41 => ?_) (fun c_41 => ?_)
                        · refine lv_iconst (v := (-1)) hx hb dX6_reads_159 (by decide) ?_
                          refine lv_istore (lv' := [(5, .int (-1)), (8, .int (nI ((m_join fb fe fw fc fd fs fz (2 * (kc / 2) + (kc % 2)) (2 * bh + (mqv (pp + 1)))) + ((mqv (pp + 1)) * (fz 4))))), (7, .int (nI (kc / 2))), (0, .ref aM), (1, .int (nI lf)), (2, .int (nI set)), (3, .int (nI bh)), (4, .int (nI pp)), (6, .int (nI kc))]) hx hb dX6_reads_160 hl (by decide) rfl (fun ls hl => ?_)
                          refine lv_iinc (v := (nI (kc + 1))) (lv' := [(6, .int (nI (kc + 1))), (5, .int (-1)), (8, .int (nI ((m_join fb fe fw fc fd fs fz (2 * (kc / 2) + (kc % 2)) (2 * bh + (mqv (pp + 1)))) + ((mqv (pp + 1)) * (fz 4))))), (7, .int (nI (kc / 2))), (0, .ref aM), (1, .int (nI lf)), (2, .int (nI set)), (3, .int (nI bh)), (4, .int (nI pp))]) hx hb dX6_reads_162 hl (k := 8) rfl (by first | exact nI_1 _ | rfl) (by decide) rfl (fun ls hl => ?_)
                          refine lv_goto (tgt := 35) hx hb dX6_reads_165 (by decide) ?_
                          have hcnd : m_join fb fe fw fc fd fs fz kc (so (pp + 1)) = m_join fb fe fw fc fd fs fz kc (so (pp + 1)) := rfl
                          have hsum : mlz_3 (18 * Sp pp + kc) + (if pp + 1 = nL then 0 else m_join fb fe fw fc fd fs fz kc (so (pp + 1)) + so (pp + 1) % 2 * fz 4) = mlz_3 (18 * set + kc) + ((m_join fb fe fw fc fd fs fz (2 * (kc / 2) + (kc % 2)) (2 * bh + (mqv (pp + 1)))) + ((mqv (pp + 1)) * (fz 4))) := by rw [if_neg efirst, eset, eq4, show 2 * (kc / 2) + kc % 2 = kc by omega, e2, show 2 * (so (pp + 1) / 2) + so (pp + 1) % 2 = so (pp + 1) by omega]
                          have hright : (if pp + 1 = nL then u1z_5 else mlz_3 (18 * Sp (pp + 1) + so (pp + 1))) = lf := by rw [if_neg efirst]; exact (hlf.2 (by omega)).symm
                          have hne : ¬ kc = so pp := fun q => c_41 (by have z := g5.2.2; rw [← q, hsum, hright] at z; exact z)
                          have hl : lv_has ls 9 [(6, .int (nI (kc + 1))), (5, .int (fdN (so pp) (kc + 1))), (8, .int (nI ((m_join fb fe fw fc fd fs fz (2 * (kc / 2) + (kc % 2)) (2 * bh + (mqv (pp + 1)))) + ((mqv (pp + 1)) * (fz 4))))), (7, .int (nI (kc / 2))), (0, .ref aM), (1, .int (nI lf)), (2, .int (nI set)), (3, .int (nI bh)), (4, .int (nI pp))] := by rw [fdN_le (show kc + 1 ≤ so pp by omega)]; exact hl
                          have hl : lv_has ls 9 [(6, .int (nI (kc + 1))), (5, .int (fdN (so pp) (kc + 1))), (8, .int (nI ((m_join fb fe fw fc fd fs fz (2 * (kc / 2) + (kc % 2)) (2 * bh + (mqv (pp + 1)))) + ((mqv (pp + 1)) * (fz 4))))), (7, .int (nI (kc / 2))), (0, .ref aM), (1, .int (nI lf)), (2, .int (nI set)), (3, .int (bhN bh)), (4, .int (nI pp))] := by rw [bhN_lt (show bh < 18 by omega)]; exact hl
                          exact ih35 (kc + 1) (by omega)  (by omega) (by omega) _ _ hP hD hS ls (lv_sub hl [4, 5, 6, 7, 8, 1, 0] rfl)
                        · refine lv_iload hx hb dX6_reads_154 (lv_at hl 8 rfl) ?_
                          refine lv_goto (tgt := 160) hx hb dX6_reads_156 (by decide) ?_
                          refine lv_istore (lv' := [(5, .int (nI kc)), (8, .int (nI ((m_join fb fe fw fc fd fs fz (2 * (kc / 2) + (kc % 2)) (2 * bh + (mqv (pp + 1)))) + ((mqv (pp + 1)) * (fz 4))))), (7, .int (nI (kc / 2))), (0, .ref aM), (1, .int (nI lf)), (2, .int (nI set)), (3, .int (nI bh)), (4, .int (nI pp)), (6, .int (nI kc))]) hx hb dX6_reads_160 hl (by decide) rfl (fun ls hl => ?_)
                          refine lv_iinc (v := (nI (kc + 1))) (lv' := [(6, .int (nI (kc + 1))), (5, .int (nI kc)), (8, .int (nI ((m_join fb fe fw fc fd fs fz (2 * (kc / 2) + (kc % 2)) (2 * bh + (mqv (pp + 1)))) + ((mqv (pp + 1)) * (fz 4))))), (7, .int (nI (kc / 2))), (0, .ref aM), (1, .int (nI lf)), (2, .int (nI set)), (3, .int (nI bh)), (4, .int (nI pp))]) hx hb dX6_reads_162 hl (k := 8) rfl (by first | exact nI_1 _ | rfl) (by decide) rfl (fun ls hl => ?_)
                          refine lv_goto (tgt := 35) hx hb dX6_reads_165 (by decide) ?_
                          have hcnd : m_join fb fe fw fc fd fs fz kc (so (pp + 1)) = m_join fb fe fw fc fd fs fz kc (so (pp + 1)) := rfl
                          have hsum : mlz_3 (18 * Sp pp + kc) + (if pp + 1 = nL then 0 else m_join fb fe fw fc fd fs fz kc (so (pp + 1)) + so (pp + 1) % 2 * fz 4) = mlz_3 (18 * set + kc) + ((m_join fb fe fw fc fd fs fz (2 * (kc / 2) + (kc % 2)) (2 * bh + (mqv (pp + 1)))) + ((mqv (pp + 1)) * (fz 4))) := by rw [if_neg efirst, eset, eq4, show 2 * (kc / 2) + kc % 2 = kc by omega, e2, show 2 * (so (pp + 1) / 2) + so (pp + 1) % 2 = so (pp + 1) by omega]
                          have hright : (if pp + 1 = nL then u1z_5 else mlz_3 (18 * Sp (pp + 1) + so (pp + 1))) = lf := by rw [if_neg efirst]; exact (hlf.2 (by omega)).symm
                          have hck : cndP (m_join fb fe fw fc fd fs fz) (fz 4) nL gA gJ mlz_3 u1z_5 so Sp pp kc := ⟨(by rw [← eset]; exact c_29), (fun _ => by rw [← eset, ← e2]; exact c_34.1), (by rw [hsum, hright]; exact c_41)⟩
                          have ekz : kc = so pp := by rcases Nat.lt_or_ge kc (so pp) with q | q; exact absurd hck (g6 kc q); omega
                          have hl : lv_has ls 9 [(6, .int (nI (kc + 1))), (5, .int (fdN (so pp) (kc + 1))), (8, .int (nI ((m_join fb fe fw fc fd fs fz (2 * (kc / 2) + (kc % 2)) (2 * bh + (mqv (pp + 1)))) + ((mqv (pp + 1)) * (fz 4))))), (7, .int (nI (kc / 2))), (0, .ref aM), (1, .int (nI lf)), (2, .int (nI set)), (3, .int (nI bh)), (4, .int (nI pp))] := by rw [fdN_gt (show so pp < kc + 1 by omega), ← ekz]; exact hl
                          have hl : lv_has ls 9 [(6, .int (nI (kc + 1))), (5, .int (fdN (so pp) (kc + 1))), (8, .int (nI ((m_join fb fe fw fc fd fs fz (2 * (kc / 2) + (kc % 2)) (2 * bh + (mqv (pp + 1)))) + ((mqv (pp + 1)) * (fz 4))))), (7, .int (nI (kc / 2))), (0, .ref aM), (1, .int (nI lf)), (2, .int (nI set)), (3, .int (bhN bh)), (4, .int (nI pp))] := by rw [bhN_lt (show bh < 18 by omega)]; exact hl
                          exact ih35 (kc + 1) (by omega)  (by omega) (by omega) _ _ hP hD hS ls (lv_sub hl [4, 5, 6, 7, 8, 1, 0] rfl)
                      · refine ln_if_neF (tgt := 88) hx hb dX6_reads_82 (by decide) (by decide) ?_
                        refine lv_goto (tgt := 162) hx hb dX6_reads_85 (by decide) ?_
                        refine lv_iinc (v := (nI (kc + 1))) (lv' := [(6, .int (nI (kc + 1))), (7, .int (nI (kc / 2))), (0, .ref aM), (1, .int (nI lf)), (2, .int (nI set)), (3, .int (nI bh)), (4, .int (nI pp)), (5, .int (-1))]) hx hb dX6_reads_162 hl (k := 7) rfl (by first | exact nI_1 _ | rfl) (by decide) rfl (fun ls hl => ?_)
                        refine lv_goto (tgt := 35) hx hb dX6_reads_165 (by decide) ?_
                        have hne : ¬ kc = so pp := fun q => c_34 ⟨(by have z := g5.2.1 (by omega); rw [← q, ← eset, ← e2] at z; exact z), (fun z => absurd z.1 (by rw [hba]; exact ln_nm1 (by omega)))⟩
                        have hl : lv_has ls 9 [(6, .int (nI (kc + 1))), (7, .int (nI (kc / 2))), (0, .ref aM), (1, .int (nI lf)), (2, .int (nI set)), (3, .int (nI bh)), (4, .int (nI pp)), (5, .int (fdN (so pp) (kc + 1)))] := by rw [fdN_le (show kc + 1 ≤ so pp by omega)]; exact hl
                        have hl : lv_has ls 9 [(6, .int (nI (kc + 1))), (7, .int (nI (kc / 2))), (0, .ref aM), (1, .int (nI lf)), (2, .int (nI set)), (3, .int (bhN bh)), (4, .int (nI pp)), (5, .int (fdN (so pp) (kc + 1)))] := by rw [bhN_lt (show bh < 18 by omega)]; exact hl
                        exact ih35 (kc + 1) (by omega)  (by omega) (by omega) _ _ hP hD hS ls (lv_sub hl [2, 3, 4, 5, 6, 7, 0] rfl)
          exact LP35 _ 0 (Nat.lt_succ_self _)  (Nat.zero_le _) (Nat.zero_le _) _ _ hP hD hS ls (lv_sub hl [2, 3, 4, 5, 6, 1, 0] rfl)
    exact LP20 _ nL u1z_5 (2 ^ nL - 1) 18 mp mq (Nat.lt_succ_self _) bMp bMt (Nat.le_refl _) (fun q => (hS0 (nL - 1) (by omega)).symm) (by omega) (Or.inl ⟨rfl, rfl⟩) ⟨fun _ => rfl, fun q => absurd q (Nat.lt_irrefl _)⟩ (by omega) (fun p h1 h2 => absurd h1 (by omega)) _ _ hP hD hS ls (lv_sub hl [4, 3, 2, 1, 0] rfl)
