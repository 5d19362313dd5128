section LL
variable {p : Program} {l : Launch} {e : Env} {R : Room} {s : State} {m : MethodId} {args : Array Value} {below : List Frame} {meth : Method} {c : Code} {H H0 : Heap} {locs : List Loc} {cells slots : Nat} {Q : State → Prop} {cc : ByteArray} {pc : Nat} {ls : Array Slot} {rest : List Value} {A : Nat → Prop}
theorem ln_sld (hx : p.tables.exec = Jvm.exec) (hb : c.code = cc) {b L : Nat} {xs : Nat → Int32} (hX : va_X b L xs s H0) (hbl : b < H0.size) (hbA : ¬ A b) (hS : va_S A H0 H locs) {i : Nat} (hi : i < L) (hL : L < 2 ^ 31) (hd : decode cc pc = .ok (.iaload, 1)) (k : W p l e R s m args below meth c H locs cells slots Q (F0 m (pc + 1) ls (.int (xs i) :: rest))) : W p l e R s m args below meth c H locs cells slots Q (F0 m pc ls (.int (nI i) :: .ref b :: rest)) := va_sld hx hb hX hbl hbA hS (vp_in_nI hi hL) hd (by rw [nI_clamp (Nat.lt_trans hi hL)]; exact k)
end LL
/-- what holds between two calls of the law: the two objects hold the same state, all within its bounds; what the class keeps is fresh or stale -/
def lwInv (nL : Nat) (fb fe : Nat → Nat) (fw : Nat → Int32) (fc fd fs fz : Nat → Nat) (mt sa : Nat) (rb rr ra : Nat → Nat) (sn st sb sx : Nat) (sl sj ss so : Nat → Nat) (bc bo : Nat) (gA gJ ml m2 mp mq : Nat → Nat) (u1 u2 pt : Nat) : Prop :=
  (nL ≤ 9 ∧ (fz 0 ≤ 9 ∧ fz 1 ≤ 9) ∧ mt < 2 ∧ sa < 2 ∧ relR rb rr ra gA gJ) ∧ ((∀ k, fb k ≤ 99) ∧ (∀ k, fe k ≤ 99) ∧ (∀ k, fc k ≤ 99) ∧ (∀ k, fd k ≤ 99) ∧ (∀ k, fs k ≤ 99) ∧ (∀ k, fz k ≤ 999)) ∧ ((∀ k, rb k ≤ 511) ∧ (∀ k, rr k ≤ 511) ∧ (∀ k, ra k ≤ 511)) ∧ ((∀ k, sl k ≤ 1000000) ∧ (∀ k, sj k ≤ 10000) ∧ (∀ k, ss k ≤ 1000000) ∧ (∀ k, so k ≤ 17) ∧ sb ≤ 1000000 ∧ sx ≤ 1000000 ∧ bc ≤ 1000000 ∧ bo < 512) ∧ (sa = 0 → m_fresh (m_join fb fe fw fc fd fs fz) nL (if mt = 0 then 1000000 else fz 4) rb rr ra sn st sb sx sj ss so bc bo) ∧ ((∀ k, gA k ≤ 1) ∧ (∀ k, gJ k ≤ 1) ∧ (∀ k, ml k ≤ 1000000000) ∧ (∀ k, m2 k ≤ 1000000000) ∧ (∀ k, mp k ≤ 8) ∧ (∀ k, mq k ≤ 1) ∧ u1 ≤ 1000000000 ∧ u2 ≤ 1000000000 ∧ pt < 512)
theorem cif_ind {α : Type} {C : Prop} {a b : α} (P : α → Prop) (ha : C → P a) (hb : ¬ C → P b) : P (cif C a b) := by
  by_cases q : C
  · rw [cif_t q]; exact ha q
  · rw [cif_f q]; exact hb q
theorem pw_fz_01 {fz : Nat → Nat} {x1 x2 x3 x4 x5 x6 : Int32} (h : pc_weights x1 x2 x3 x4 x5 x6) : pw_fz fz x1 x2 x3 x4 x5 x6 0 ≤ 9 ∧ pw_fz fz x1 x2 x3 x4 x5 x6 1 ≤ 9 := by
  obtain ⟨⟨k1, h1, rfl⟩, ⟨k2, h2, rfl⟩, -⟩ := h
  unfold pw_fz
  rw [tn_nI (show k1 < 2 ^ 31 by omega), tn_nI (show k2 < 2 ^ 31 by omega)]
  rw [upN_n (by decide), upN_n (by decide), upN_n (by decide), upN_n (by decide), upN_n (by decide), upN_s, upN_n (by decide), upN_n (by decide), upN_n (by decide), upN_n (by decide), upN_s]
  omega
theorem wbit_t {s l it i : Nat} : (wbit s l it).testBit i = true ↔ (if i = l then ¬ it = 0 else s.testBit i = true) := by
  unfold wbit
  by_cases e : it = 0
  · rw [if_pos e, nclr_t, Nat.testBit_two_pow]
    by_cases q : i = l
    · subst q; simp [e]
    · rw [if_neg q]
      have : ¬ l = i := fun z => q z.symm
      simp [this]
  · rw [if_neg e, Nat.testBit_or, Nat.testBit_two_pow]
    by_cases q : i = l
    · subst q; simp [e]
    · rw [if_neg q]
      have : ¬ l = i := fun z => q z.symm
      simp [this]
theorem relR_must {nL : Nat} {rb rr ra gA gJ rbz rrz raz gAz gJz : Nat → Nat} {x1 x2 : Int32} {q3 q4 : Nat} (hn : nL ≤ 9) (h : relR rb rr ra gA gJ)
    (e1 : rbz = cif (pc_pair nL x1 x2 ∧ q3 = 0) (upN rb (tn x1) (wbit (rb (tn x1)) (tn x2) q4)) rb) (e2 : rrz = cif (pc_pair nL x1 x2 ∧ ¬ q3 = 0) (upN rr (tn x1) (wbit (rr (tn x1)) (tn x2) q4)) rr) (e3 : raz = cif (pc_pair nL x1 x2 ∧ ¬ q3 = 0) (upN ra (tn x2) (wbit (ra (tn x2)) (tn x1) q4)) ra)
    (e4 : gAz = cif (pc_pair nL x1 x2 ∧ q3 = 0) (upN gA (9 * tn x1 + tn x2) q4) gA) (e5 : gJz = cif (pc_pair nL x1 x2 ∧ ¬ q3 = 0) (upN gJ (9 * tn x1 + tn x2) q4) gJ) : relR rbz rrz raz gAz gJz := by
  by_cases C : pc_pair nL x1 x2
  · obtain ⟨⟨k1, h1, r1⟩, ⟨k2, h2, r2⟩, -⟩ := id C
    have t1 : tn x1 = k1 := by rw [r1]; exact tn_nI (by omega)
    have t2 : tn x2 = k2 := by rw [r2]; exact tn_nI (by omega)
    rw [t1, t2] at e1 e2 e3 e4 e5
    by_cases q : q3 = 0
    · rw [cif_t ⟨C, q⟩] at e1 e4
      rw [cif_f (fun z => z.2 q)] at e2 e3 e5
      subst e1; subst e2; subst e3; subst e4; subst e5
      refine ⟨fun a b ha hb => ?_, h.2.1, h.2.2⟩
      by_cases ea : a = k1
      · subst ea
        rw [upN_s, wbit_t]
        by_cases eb : b = k2
        · subst eb; rw [if_pos rfl, upN_s]
        · rw [if_neg eb, upN_n (by omega)]; exact h.1 a b ha hb
      · rw [upN_n ea, upN_n (by omega)]; exact h.1 a b ha hb
    · rw [cif_f (fun z => q z.2)] at e1 e4
      rw [cif_t ⟨C, q⟩] at e2 e3 e5
      subst e1; subst e2; subst e3; subst e4; subst e5
      refine ⟨h.1, fun a b ha hb => ?_, fun a b ha hb => ?_⟩
      · by_cases ea : a = k1
        · subst ea
          rw [upN_s, wbit_t]
          by_cases eb : b = k2
          · subst eb; rw [if_pos rfl, upN_s]
          · rw [if_neg eb, upN_n (by omega)]; exact h.2.1 a b ha hb
        · rw [upN_n ea, upN_n (by omega)]; exact h.2.1 a b ha hb
      · by_cases eb : b = k2
        · subst eb
          rw [upN_s, wbit_t]
          by_cases ea : a = k1
          · subst ea; rw [if_pos rfl, upN_s]
          · rw [if_neg ea, upN_n (by omega)]; exact h.2.2 a b ha hb
        · rw [upN_n eb, upN_n (by omega)]; exact h.2.2 a b ha hb
  · rw [cif_f (fun z => C z.1)] at e1 e2 e3 e4 e5
    subst e1; subst e2; subst e3; subst e4; subst e5
    exact h
