/-! THE MATHEMATICS, 8: the trace -/
theorem may0_of {rb rr ra gA gJ : Nat → Nat} {n l rest k : Nat} (hn : n ≤ 9) (hR : relR rb rr ra gA gJ) (hr : rest < 2 ^ n) (hl : l < n) (h : m_may gA gJ n rest k l) : (rb l ||| rr l) &&& rest = 0 := by
  have hp := ln_p9 hn
  refine (and0_iff (by omega)).mpr (fun i hi hib => ?_)
  have z := h i (bitsn hr hib) ((ln_bit1 _ _).mpr hib)
  rw [Nat.testBit_or, Bool.or_eq_false_iff]
  constructor
  · cases y : (rb l).testBit i with
    | false => rfl
    | true => exact absurd z.1 ((hR.1 l i (by omega) hi).mp y)
  · cases y : (rr l).testBit i with
    | false => rfl
    | true => exact absurd z.2.1 ((hR.2.1 l i (by omega) hi).mp y)
theorem pc_all : ∀ n, n ≤ 9 → m_pc (2 ^ n - 1) = n := by decide
theorem pc_zero : ∀ x, x < 512 → m_pc x = 0 → x = 0 := by decide +kernel
theorem link_lt {sj : Nat → Nat} {i z : Nat} (h : z < 18) : m_link sj i z = sj (i * 18 + z) := by unfold m_link; rw [if_pos h]
theorem link_no {sj : Nat → Nat} {i : Nat} : m_link sj i 18 = 0 := by unfold m_link; rw [if_neg (by decide)]
theorem shr1 (i : Nat) : i >>> 1 = i / 2 := by rw [Nat.shiftRight_eq_div_pow, Nat.pow_one]
theorem and1 (i : Nat) : i &&& 1 = i % 2 := Nat.and_one_is_mod i
/-- how it stands behind a pick: q the trace's state, S the set ahead of the pick -/
def invT (n tw ways : Nat) (ml m2 : Nat → Nat) (best u2 k : Nat) (q : Nat × Nat × Nat × (Nat → Nat) × Nat) (S off : Nat) : Prop :=
  q.2.1 < 2 * n ∧ q.2.1 % 2 < ways ∧ S < 2 ^ n ∧ S.testBit (q.2.1 / 2) = true ∧ q.1 = nclr S (2 ^ (q.2.1 / 2)) ∧ m_pc q.1 + k = n ∧ q.2.2.1 = off + (q.2.1 % 2) * tw ∧ ml (18 * S + q.2.1) + off = best ∧ q.2.2.2.2 ≤ 1000000 ∧ min q.2.2.2.2 (min 1000000 (m2 (18 * S + q.2.1) + off)) = min 1000000 u2
theorem tc_turn {tw ways tc z : Nat} (hway : (ways = 1 ∧ tc = 1000000) ∨ (ways = 2 ∧ tc = tw)) (hz : z % 2 < ways) : (z &&& 1) * tc = (z % 2) * tw := by
  rw [and1]
  rcases hway with ⟨a, b⟩ | ⟨a, b⟩
  · rw [show z % 2 = 0 by omega, Nat.zero_mul, Nat.zero_mul]
  · rw [b]
theorem first_pick {n tw ways tc : Nat} {sj T ml m2 ra so0 : Nat → Nat} (hn : n ≤ 9) (hn1 : 1 ≤ n) (hway : (ways = 1 ∧ tc = 1000000) ∨ (ways = 2 ∧ tc = tw)) (same : sameT n ways T ml m2) (hb : (m_look ml m2 (2 ^ n - 1)).1 < 1000000) :
    invT n tw ways ml m2 (m_look ml m2 (2 ^ n - 1)).1 (m_look ml m2 (2 ^ n - 1)).2 1 (m_tst T sj ra n tc 0 (2 ^ n - 1, 18, 0, so0, 1000000)) (2 ^ n - 1) 0 ∧
    (∀ i, i < (m_tst T sj ra n tc 0 (2 ^ n - 1, 18, 0, so0, 1000000)).2.1 → (m_look ml m2 (2 ^ n - 1)).1 < ml (18 * (2 ^ n - 1) + i)) := by
  have hp9 := ln_p9 hn
  have hp1 := ln_one_two_pow n
  have hp2 : 2 ^ 1 ≤ 2 ^ n := Nat.pow_le_pow_right (by decide) hn1
  have look := of_look hn same (s := 2 ^ n - 1) (by omega) (by omega)
  obtain ⟨hf, hout, hin⟩ := id same
  have eE : m_ends ra (2 ^ n - 1) 18 = 2 ^ n - 1 := by unfold m_ends; rw [if_neg (by decide)]
  have bitT : ∀ i, i < 2 * n → (2 ^ n - 1).testBit (i / 2) = true := fun i hi => by rw [Nat.testBit_two_pow_sub_one]; exact decide_eq_true (by omega)
  have pk := pick_kf (T := T) (sj := sj) (ends := 2 ^ n - 1) (set := 2 ^ n - 1) (b := 18) (tail := 0) (sx := 1000000) (off := 0) (ok := fun _ => True) (c1 := fun i => ml (18 * (2 ^ n - 1) + i)) (c2 := fun i => m2 (18 * (2 ^ n - 1) + i)) (Nat.le_refl _) (2 * n)
    (fun i hi => by
      obtain ⟨a, b⟩ := hin (2 ^ n - 1) (by omega) i hi (bitT i hi)
      have eC : m_cost T sj (2 ^ n - 1) 18 0 i = T ((2 ^ n - 1) * 18 + i) := by unfold m_cost; rw [link_no]; rfl
      unfold actP
      rw [eC, shr1]
      rcases a with ⟨a1, a2⟩ | ⟨a1, a2⟩
      · exact Or.inr ⟨fun _ => by omega, fun _ => by show 1000000000 ≤ ml (18 * (2 ^ n - 1) + i); omega⟩
      · exact Or.inl ⟨fun q => absurd q ((ln_bit1 _ _).mpr (bitT i hi)), trivial, by show T ((2 ^ n - 1) * 18 + i) = ml (18 * (2 ^ n - 1) + i) + 0; omega, by show ml (18 * (2 ^ n - 1) + i) + 0 < 1000000; omega⟩)
    (fun i hi => (hf (18 * (2 ^ n - 1) + i) (by omega)).1)
  rw [← look.2.2] at pk
  have eZ : m_tz T sj ra n (2 ^ n - 1, 18, 0, so0, 1000000) = m_pick T sj (2 ^ n - 1) (2 ^ n - 1) 18 0 1000000 (2 * n) := by unfold m_tz; dsimp only; rw [eE]
  unfold m_tst
  rw [eZ]
  dsimp only
  generalize m_pick T sj (2 ^ n - 1) (2 ^ n - 1) 18 0 1000000 (2 * n) = P at pk ⊢
  obtain ⟨p1, p2, p3⟩ := pk
  rcases p3 with ⟨a1, a2, -⟩ | ⟨a1, a2, a3, a4, a5, a6, a7⟩
  · rw [a2] at hb; exact absurd hb (by decide)
  · have hz : P.1 % 2 < ways := by
      apply Classical.byContradiction
      intro q
      have := (hout (2 ^ n - 1) P.1 (by omega) (by omega) (fun z => q z.2)).1
      have z : ml (18 * (2 ^ n - 1) + P.1) = (m_look ml m2 (2 ^ n - 1)).1 := a5
      omega
    refine ⟨⟨a3, hz, by show 2 ^ n - 1 < 2 ^ n; omega, bitT _ a3, by show nclr (2 ^ n - 1) (2 ^ (P.1 >>> 1)) = _; rw [shr1], ?_, ?_, ?_, p1, ?_⟩, ?_⟩
    · show m_pc (nclr (2 ^ n - 1) (2 ^ (P.1 >>> 1))) + 1 = n
      rw [shr1, ← pc_clr (2 ^ n - 1) (by omega) (P.1 / 2) (by omega) (bitT _ a3)]
      exact pc_all n hn
    · show 0 + (m_link sj P.1 18 + (P.1 &&& 1) * tc) = 0 + (P.1 % 2) * tw
      rw [link_no, tc_turn hway hz, Nat.zero_add, Nat.zero_add]
    · show ml (18 * (2 ^ n - 1) + P.1) + 0 = _
      exact a5
    · show min P.2.2 (min 1000000 (m2 (18 * (2 ^ n - 1) + P.1) + 0)) = _
      rw [a7]
      omega
    · intro i hi
      exact a6 i hi trivial
theorem next_pick {J : Nat → Nat → Nat} {rb rr ra gA gJ sj ml0 m20 ml m2 T : Nat → Nat} {B : Nat → Nat → Prop} {n tw ways tc : Nat} (S0 : setup J n tw ways tc sj) (hR : relR rb rr ra gA gJ) (hB : relB 18 18 B) (h : (ml, m2) = m_ord J gA gJ B n tw ways ml0 m20) (same : sameT n ways T ml m2)
    {best u2 k : Nat} {q : Nat × Nat × Nat × (Nat → Nat) × Nat} {S off : Nat} (hk : k < n) (hbest : best ≤ 99000) (I : invT n tw ways ml m2 best u2 k q S off) :
    invT n tw ways ml m2 best u2 (k + 1) (m_tst T sj ra n tc k q) q.1 (off + (J (m_tst T sj ra n tc k q).2.1 q.2.1 + (q.2.1 % 2) * tw)) ∧
    (m_may gA gJ n q.1 ((m_tst T sj ra n tc k q).2.1 / 2) (q.2.1 / 2) ∧ ¬ B ((m_tst T sj ra n tc k q).2.1 / 2) (q.2.1 / 2)) ∧
    ml (18 * q.1 + (m_tst T sj ra n tc k q).2.1) + (J (m_tst T sj ra n tc k q).2.1 q.2.1 + (q.2.1 % 2) * tw) = ml (18 * S + q.2.1) ∧
    (∀ i, i < (m_tst T sj ra n tc k q).2.1 → i % 2 < ways → m_may gA gJ n q.1 (i / 2) (q.2.1 / 2) → ml (18 * S + q.2.1) < ml (18 * q.1 + i) + (J i q.2.1 + (q.2.1 % 2) * tw)) := by
  obtain ⟨hn, htw, hJ, hway, hsj⟩ := id S0
  have hp9 := ln_p9 hn
  obtain ⟨hfine, tab⟩ := ord_tab hn (by omega) (by omega) htw h
  obtain ⟨hf, hout, hin⟩ := id same
  obtain ⟨i1, i2, i3, i4, i5, i6, i7, i8, i9, i10⟩ := I
  have hl : q.2.1 / 2 < n := by omega
  have hq1 : q.1 < 2 ^ n := by have := nclr_bit_lt i4; omega
  have pz : m_pc 0 = 0 := by decide
  have hq0 : ¬ q.1 = 0 := fun z => by rw [z, pz] at i6; omega
  have htz : (q.2.1 % 2) * tw ≤ 999 := Nat.le_trans (Nat.mul_le_mul (show q.2.1 % 2 ≤ 1 by omega) htw) (by decide)
  have R3 := (tab S q.2.1 i3 (by omega)).2.2 i4 i2 (by rw [← i5]; exact hq0)
  rw [← i5] at R3
  have nB : ∀ a b, a < 9 → b < 9 → ¬ B a b := fun a b ha hb z => by have := (hB a b ha hb).mp z; omega
  -- somebody may stand there
  have may0 : (rb (q.2.1 / 2) ||| rr (q.2.1 / 2)) &&& q.1 = 0 := by
    rcases kf_att (ok := fun i => i % 2 < ways ∧ m_may gA gJ n q.1 (i / 2) (q.2.1 / 2) ∧ ¬ B (i / 2) (q.2.1 / 2)) (c1 := cR J tw ml q.1 q.2.1) (c2 := cR J tw m2 q.1 q.2.1) (q0 := (1000000000, 1000000000)) (2 * n) with z | ⟨i, -, oi, -⟩
    · rw [← R3] at z
      have z1 : ml (18 * S + q.2.1) = 1000000000 := z
      omega
    · exact may0_of hn hR hq1 hl oi.2.1
  have eE : m_ends ra q.1 q.2.1 = m_nbr ra (q.2.1 / 2) q.1 := by unfold m_ends; rw [if_pos (by omega), shr1]
  have eA : m_ahead ra 18 18 (q.2.1 / 2) q.1 = m_nbr ra (q.2.1 / 2) q.1 := by unfold m_ahead; rw [if_neg (by omega)]
  have pk := pick_kf (T := T) (sj := sj) (ends := m_nbr ra (q.2.1 / 2) q.1) (set := q.1) (b := q.2.1) (tail := q.2.2.1) (sx := q.2.2.2.2) (off := off) (ok := fun i => i % 2 < ways ∧ m_may gA gJ n q.1 (i / 2) (q.2.1 / 2) ∧ ¬ B (i / 2) (q.2.1 / 2)) (c1 := cR J tw ml q.1 q.2.1) (c2 := cR J tw m2 q.1 q.2.1) i9 (2 * n)
    (fun i hi => by
      have eC : m_cost T sj q.1 q.2.1 q.2.2.1 i = T (q.1 * 18 + i) + J i q.2.1 + (off + (q.2.1 % 2) * tw) := by unfold m_cost; rw [link_lt (by omega), hsj i q.2.1 hi i1, i7]
      have jj := hJ i q.2.1
      unfold actP
      rw [eC, shr1]
      by_cases hin1 : q.1.testBit (i / 2) = true
      · obtain ⟨a, b⟩ := hin q.1 hq1 i hi hin1
        have mi := may_iff (ba := 18) (bb := 18) hn hR hB hq1 hl (show i / 2 < 9 by omega) hin1
        rw [eA] at mi
        by_cases w : i % 2 < ways
        · by_cases hb : (m_nbr ra (q.2.1 / 2) q.1).testBit (i / 2) = true
          · have o := mi.mp ⟨may0, hb⟩
            rcases a with ⟨a1, a2⟩ | ⟨a1, a2⟩
            · exact Or.inr ⟨fun _ => by omega, fun _ => by unfold cR; omega⟩
            · exact Or.inl ⟨fun z => absurd z ((ln_bit1 _ _).mpr hb), ⟨w, o.1, o.2⟩, by unfold cR; omega, by unfold cR; omega⟩
          · refine Or.inr ⟨fun z => absurd ((ln_bit0 _ _).mpr (by cases y : (m_nbr ra (q.2.1 / 2) q.1).testBit (i / 2) with | false => rfl | true => exact absurd y hb)) (fun y => z y), fun o => absurd (mi.mpr ⟨o.2.1, o.2.2⟩).2 hb⟩
        · have far := (hout q.1 i hq1 (by omega) (fun z => w z.2)).1
          refine Or.inr ⟨fun _ => ?_, fun o => absurd o.1 w⟩
          rcases a with ⟨a1, a2⟩ | ⟨a1, a2⟩ <;> omega
      · have far := (hout q.1 i hq1 (by omega) (fun z => hin1 z.1)).1
        refine Or.inr ⟨fun z => ?_, fun _ => by unfold cR; omega⟩
        exfalso
        apply z
        apply (ln_bit0 _ _).mpr
        cases y : (m_nbr ra (q.2.1 / 2) q.1).testBit (i / 2) with
        | false => rfl
        | true => exact absurd (nbr_sub y) hin1)
    (fun i hi => cR_le (N := 18 * 2 ^ n) hf (by omega))
  rw [← R3] at pk
  have eZ : m_tz T sj ra n q = m_pick T sj (m_nbr ra (q.2.1 / 2) q.1) q.1 q.2.1 q.2.2.1 q.2.2.2.2 (2 * n) := by unfold m_tz; rw [eE]
  unfold m_tst
  rw [eZ]
  dsimp only
  generalize m_pick T sj (m_nbr ra (q.2.1 / 2) q.1) q.1 q.2.1 q.2.2.1 q.2.2.2.2 (2 * n) = P at pk ⊢
  obtain ⟨p1, p2, p3⟩ := pk
  rcases p3 with ⟨a1, a2, -⟩ | ⟨a1, a2, a3, a4, a5, a6, a7⟩
  · have z : ml (18 * S + q.2.1) = 1000000000 := (Prod.mk.inj a2).1
    omega
  · have a5' : ml (18 * q.1 + P.1) + (J P.1 q.2.1 + (q.2.1 % 2) * tw) = ml (18 * S + q.2.1) := a5
    have hz : P.1 % 2 < ways := a4.2.1.1
    have hbit : q.1.testBit (P.1 / 2) = true := by
      apply Classical.byContradiction
      intro z
      have := (hout q.1 P.1 hq1 (by omega) (fun y => z y.1)).1
      omega
    refine ⟨⟨a3, hz, hq1, hbit, by show nclr q.1 (2 ^ (P.1 >>> 1)) = _; rw [shr1], ?_, ?_, ?_, p1, ?_⟩, ⟨a4.2.1.2.1, a4.2.1.2.2⟩, a5', ?_⟩
    · show m_pc (nclr q.1 (2 ^ (P.1 >>> 1))) + (k + 1) = n
      rw [shr1]
      have := pc_clr q.1 (by omega) (P.1 / 2) (by omega) hbit
      omega
    · show q.2.2.1 + (m_link sj P.1 q.2.1 + (P.1 &&& 1) * tc) = off + (J P.1 q.2.1 + (q.2.1 % 2) * tw) + (P.1 % 2) * tw
      rw [link_lt (by omega), hsj P.1 q.2.1 a3 i1, tc_turn hway hz, i7]
      omega
    · show ml (18 * q.1 + P.1) + (off + (J P.1 q.2.1 + (q.2.1 % 2) * tw)) = best
      omega
    · show min P.2.2 (min 1000000 (m2 (18 * q.1 + P.1) + (off + (J P.1 q.2.1 + (q.2.1 % 2) * tw)))) = min 1000000 u2
      have e2 : cR J tw m2 q.1 q.2.1 P.1 + off = m2 (18 * q.1 + P.1) + (off + (J P.1 q.2.1 + (q.2.1 % 2) * tw)) := by unfold cR; omega
      rw [← e2, a7]
      exact i10
    · intro i hi w o
      exact a6 i hi ⟨w, o, nB _ _ (by omega) (by omega)⟩
