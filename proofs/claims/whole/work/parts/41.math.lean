/-! THE MATHEMATICS, 4: the two tables are one -/
/-- the class's number of the reference's -/
def isCap (v w : Nat) : Prop := (v = 1000000 ∧ w = 1000000000) ∨ (v < 1000000 ∧ w = v)
/-- the rules: the class's bits and the reference's marks -/
def relR (rb rr ra gA gJ : Nat → Nat) : Prop := (∀ a b, a < 9 → b < 9 → ((rb a).testBit b = true ↔ ¬ gA (9 * a + b) = 0)) ∧ (∀ a b, a < 9 → b < 9 → ((rr a).testBit b = true ↔ ¬ gJ (9 * a + b) = 0)) ∧ (∀ a b, a < 9 → b < 9 → ((ra b).testBit a = true ↔ ¬ gJ (9 * a + b) = 0))
theorem bits9 {x : Nat} (h : x < 512) {i : Nat} (hi : 9 ≤ i) : x.testBit i = false := Nat.testBit_lt_two_pow (Nat.lt_of_lt_of_le h (Nat.pow_le_pow_right (n := 2) (by decide) hi))
theorem bitsn {x n : Nat} (h : x < 2 ^ n) {i : Nat} (hi : x.testBit i = true) : i < n := by
  rcases Nat.lt_or_ge i n with q | q
  · exact q
  · have := Nat.testBit_lt_two_pow (Nat.lt_of_lt_of_le h (Nat.pow_le_pow_right (n := 2) (by decide) q))
    rw [this] at hi; cases hi
theorem and0_iff {x y : Nat} (hy : y < 512) : x &&& y = 0 ↔ ∀ k, k < 9 → y.testBit k = true → x.testBit k = false := by
  constructor
  · intro h k _ hk
    have := congrArg (fun z => z.testBit k) h
    simp only [Nat.testBit_and, Nat.zero_testBit, hk, Bool.and_true] at this
    exact this
  · intro h
    apply Nat.eq_of_testBit_eq
    intro i
    rw [Nat.testBit_and, Nat.zero_testBit]
    rcases Nat.lt_or_ge i 9 with q | q
    · cases hy' : y.testBit i with
      | false => rw [Bool.and_false]
      | true => rw [h i q hy', Bool.false_and]
    · rw [bits9 hy q, Bool.and_false]
theorem pc_one : ∀ x, x < 512 → ∀ j, j < 9 → x.testBit j = true → (m_pc x = 1 ↔ ∀ k, k < 9 → x.testBit k = true → k = j) := by decide +kernel
theorem pc_clr : ∀ s, s < 512 → ∀ l, l < 9 → s.testBit l = true → m_pc s = m_pc (nclr s (2 ^ l)) + 1 := by decide +kernel
/-- who may be right ahead, by the class: by the reference -/
theorem nbr_iff {ra : Nat → Nat} {l rest k : Nat} (hr : rest < 512) (hk : k < 9) (hin : rest.testBit k = true) : (m_nbr ra l rest).testBit k = true ↔ ∀ i, i < 9 → rest.testBit i = true → (ra l).testBit i = true → i = k := by
  have hx : ra l &&& rest < 512 := Nat.lt_of_le_of_lt Nat.and_le_right hr
  unfold m_nbr
  by_cases e : ra l &&& rest = 0
  · rw [if_pos e]
    have a0 := (and0_iff (x := ra l) hr).mp e
    refine ⟨fun _ i hi h1 h2 => ?_, fun _ => hin⟩
    rw [a0 i hi h1] at h2; cases h2
  · rw [if_neg e]
    by_cases e1 : m_pc (ra l &&& rest) = 1
    · rw [if_pos e1]
      constructor
      · intro h i hi h1 h2
        have hb : (ra l &&& rest).testBit k = true := h
        exact (pc_one _ hx k hk hb).mp e1 i hi (by rw [Nat.testBit_and, h1, h2]; rfl)
      · intro h
        -- some bit is there: it is k
        have ex : ∃ i, i < 9 ∧ (ra l &&& rest).testBit i = true := by
          apply Classical.byContradiction
          intro no
          apply e
          apply Nat.eq_of_testBit_eq
          intro i
          rw [Nat.zero_testBit]
          rcases Nat.lt_or_ge i 9 with q | q
          · cases hb : (ra l &&& rest).testBit i with
            | false => rfl
            | true => exact absurd ⟨i, q, hb⟩ no
          · exact bits9 hx q
        obtain ⟨i, hi, hb⟩ := ex
        have hb2 := hb
        rw [Nat.testBit_and, Bool.and_eq_true] at hb2
        rw [← h i hi hb2.2 hb2.1]
        exact hb
    · rw [if_neg e1, Nat.zero_testBit]
      refine ⟨fun h => (by cases h), fun h => ?_⟩
      exfalso
      apply e1
      have ex : ∃ i, i < 9 ∧ (ra l &&& rest).testBit i = true := by
        apply Classical.byContradiction
        intro no
        apply e
        apply Nat.eq_of_testBit_eq
        intro i
        rw [Nat.zero_testBit]
        rcases Nat.lt_or_ge i 9 with q | q
        · cases hb : (ra l &&& rest).testBit i with
          | false => rfl
          | true => exact absurd ⟨i, q, hb⟩ no
        · exact bits9 hx q
      obtain ⟨i, hi, hb⟩ := ex
      refine (pc_one _ hx i hi hb).mpr (fun j hj hjb => ?_)
      have b1 := hb
      rw [Nat.testBit_and, Bool.and_eq_true] at b1 hjb
      rw [h i hi b1.2 b1.1, h j hj hjb.2 hjb.1]
theorem nbr_sub {ra : Nat → Nat} {l rest k : Nat} (h : (m_nbr ra l rest).testBit k = true) : rest.testBit k = true := by
  unfold m_nbr at h
  split at h
  · exact h
  · split at h
    · rw [Nat.testBit_and, Bool.and_eq_true] at h; exact h.2
    · rw [Nat.zero_testBit] at h; cases h
/-- the banned pair of the class (18: none) and of the reference -/
def relB (ba bb : Nat) (B : Nat → Nat → Prop) : Prop := ∀ a b, a < 9 → b < 9 → (B a b ↔ a = ba ∧ b = bb)
/-- one test: the class's two tests of bits are the reference's -/
theorem may_iff {rb rr ra gA gJ : Nat → Nat} {ba bb n l rest k : Nat} {B : Nat → Nat → Prop} (hn : n ≤ 9) (hR : relR rb rr ra gA gJ) (hB : relB ba bb B) (hr : rest < 2 ^ n) (hl : l < n) (hk : k < 9) (hin : rest.testBit k = true) :
    ((rb l ||| rr l) &&& rest = 0 ∧ (m_ahead ra ba bb l rest).testBit k = true) ↔ (m_may gA gJ n rest k l ∧ ¬ B k l) := by
  have hp := ln_p9 hn
  have hr9 : rest < 512 := by omega
  have h1 := and0_iff (x := rb l ||| rr l) hr9
  have hah : (m_ahead ra ba bb l rest).testBit k = true ↔ ((m_nbr ra l rest).testBit k = true ∧ ¬ (k = ba ∧ l = bb)) := by
    unfold m_ahead
    by_cases e : l = bb
    · rw [if_pos e, nclr_t, Nat.testBit_two_pow, Bool.and_eq_true]
      constructor
      · rintro ⟨a, b⟩
        exact ⟨a, fun q => by simp [q.1] at b⟩
      · rintro ⟨a, b⟩
        exact ⟨a, by simp; intro q; exact b ⟨q.symm, e⟩⟩
    · rw [if_neg e]
      exact ⟨fun a => ⟨a, fun q => e q.2⟩, fun a => a.1⟩
  rw [hah, nbr_iff hr9 hk hin, h1]
  constructor
  · rintro ⟨a, b, c⟩
    refine ⟨fun i hi hib => ?_, fun q => c ((hB k l hk (by omega)).mp q)⟩
    have hib' : rest.testBit i = true := (ln_bit1 _ _).mp hib
    have z := a i (by omega) hib'
    rw [Nat.testBit_or, Bool.or_eq_false_iff] at z
    refine ⟨?_, ?_, ?_⟩
    · apply Classical.byContradiction
      intro q
      have := (hR.1 l i (by omega) (by omega)).mpr q
      rw [this] at z; cases z.1
    · apply Classical.byContradiction
      intro q
      have := (hR.2.1 l i (by omega) (by omega)).mpr q
      rw [this] at z; cases z.2
    · by_cases q : gJ (9 * i + l) = 0
      · exact Or.inl q
      · exact Or.inr (b i (by omega) hib' ((hR.2.2 i l (by omega) (by omega)).mpr q))
  · rintro ⟨a, c⟩
    refine ⟨fun i hi hib => ?_, fun i hi hib hra => ?_, fun q => c ((hB k l hk (by omega)).mpr q)⟩
    · have z := a i (bitsn hr hib) ((ln_bit1 _ _).mpr hib)
      rw [Nat.testBit_or, Bool.or_eq_false_iff]
      constructor
      · cases q : (rb l).testBit i with
        | false => rfl
        | true => exact absurd z.1 ((hR.1 l i (by omega) hi).mp q)
      · cases q : (rr l).testBit i with
        | false => rfl
        | true => exact absurd z.2.1 ((hR.2.1 l i (by omega) hi).mp q)
    · have z := a i (bitsn hr hib) ((ln_bit1 _ _).mpr hib)
      rcases z.2.2 with q | q
      · exact absurd q ((hR.2.2 i l hi (by omega)).mp hra)
      · exact q
theorem kk_fst (q : Nat × Nat) (a b : Nat) : (kk q a b).1 = min q.1 a := by
  unfold kk
  by_cases h : a < q.1
  · rw [if_pos h]; show a = min q.1 a; omega
  · rw [if_neg h]; show q.1 = min q.1 a; omega
def relU (u a T : Nat) : Prop := (u = 1000000 ∧ a = 1000000000) ∨ (u < 1000000 ∧ a = u + T)
theorem relU_step {u T v w J : Nat} {q : Nat × Nat} {c : Nat} (h : relU u q.1 T) (hcap : isCap v w) (hb : w = 1000000000 ∨ w ≤ 99000) (hJ : J ≤ 10000) (hT : T ≤ 999) : relU (min u (v + J)) (kk q (w + (J + T)) c).1 T := by
  rw [kk_fst]
  unfold relU isCap at *
  omega
theorem relU_far {u v w J T : Nat} {a : Nat} (h : relU u a T) (hcap : isCap v w) (hw : w = 1000000000) : relU (min u (v + J)) a T := by
  unfold relU isCap at *
  omega
theorem nclr_zero {s l : Nat} (hb : s.testBit l = true) (h : nclr s (2 ^ l) = 0) : s = 2 ^ l := by
  apply Nat.eq_of_testBit_eq
  intro i
  rw [Nat.testBit_two_pow]
  have z := nclr_t s (2 ^ l) i
  rw [h, Nat.zero_testBit, Nat.testBit_two_pow] at z
  by_cases e : l = i
  · subst e; simp [hb]
  · simp [e] at z ⊢; exact z
/-- what the two searches are over -/
def setup (J : Nat → Nat → Nat) (n tw ways tc : Nat) (sj : Nat → Nat) : Prop := n ≤ 9 ∧ tw ≤ 999 ∧ (∀ a b, J a b ≤ 10000) ∧ ((ways = 1 ∧ tc = 1000000) ∨ (ways = 2 ∧ tc = tw)) ∧ ∀ a b, a < 2 * n → b < 2 * n → sj (a * 18 + b) = J a b
set_option maxRecDepth 100000 in
set_option maxHeartbeats 4000000 in
theorem tab_eq {J : Nat → Nat → Nat} {rb rr ra gA gJ sj sl0 ml0 m20 ml m2 : Nat → Nat} {B : Nat → Nat → Prop} {n tw ways tc ba bb : Nat} (S : setup J n tw ways tc sj) (hR : relR rb rr ra gA gJ) (hB : relB ba bb B) (h : (ml, m2) = m_ord J gA gJ B n tw ways ml0 m20) :
    ∀ s, s < 2 ^ n → ∀ j, j < 2 * n → s.testBit (j / 2) = true → isCap (m_fill rb rr ra sj n tc ba bb sl0 (2 ^ n - 1) (s * 18 + j)) (ml (18 * s + j)) ∧ (ml (18 * s + j) = 1000000000 ∨ ml (18 * s + j) ≤ m_pc s * 11000) := by
  obtain ⟨hn, htw, hJ, hway, hsj⟩ := S
  have hw : ways ≤ 2 := by omega
  have hw1 : 1 ≤ ways := by omega
  have hp9 := ln_p9 hn
  obtain ⟨hfine, tab⟩ := ord_tab hn hw hw1 htw h
  intro s
  induction s using Nat.strongRecOn with
  | _ s ih =>
    intro hs j hj hb
    obtain ⟨l, t, ht, rfl⟩ : ∃ l t, t < 2 ∧ j = 2 * l + t := ⟨j / 2, j % 2, by omega, by omega⟩
    have e2 : (2 * l + t) / 2 = l := by omega
    have e3 : (2 * l + t) % 2 = t := by omega
    rw [e2] at hb
    have hl : l < n := by omega
    have hlt := nclr_bit_lt hb
    obtain ⟨T0, T1⟩ := m_fill_tab (rb := rb) (rr := rr) (ra := ra) (sj := sj) (sl := sl0) (n := n) (st := tc) (ba := ba) (bb := bb) (K := 2 ^ n - 1) hn s l (by omega) hl hb
    obtain ⟨R1, R2, R3⟩ := tab s (2 * l + t) hs (by omega)
    rw [e2, e3] at R1 R2 R3
    generalize hT : m_fill rb rr ra sj n tc ba bb sl0 (2 ^ n - 1) = T at *
    have hpc := pc_clr s (by omega) l (by omega) hb
    by_cases hz : nclr s (2 ^ l) = 0
    · -- one leaf alone
      have es := nclr_zero hb hz
      have p0 : m_plain rb rr T sj n s l (m_ahead ra ba bb l (nclr s (2 ^ l))) = 0 := by
        unfold m_plain m_upx
        rw [hz, Nat.and_zero, if_pos rfl, if_pos rfl]
      have p1 : m_turn rb rr T sj n tc s l (m_ahead ra ba bb l (nclr s (2 ^ l))) = if tc < 1000000 then min 1000000 (0 + tc) else 1000000 := by
        unfold m_turn m_upx
        rw [hz, Nat.and_zero, if_pos rfl, if_pos rfl]
      rcases (show t = 0 ∨ t = 1 by omega) with rfl | rfl
      · have m0 := (Prod.mk.inj (R2 es (by omega))).1
        rw [Nat.add_zero] at m0 ⊢
        rw [T0, p0, m0]
        exact ⟨Or.inr ⟨by decide, by omega⟩, Or.inr (by omega)⟩
      · rw [← Nat.add_assoc, T1, p1]
        rcases hway with ⟨ew, et⟩ | ⟨ew, et⟩
        · have m0 := (Prod.mk.inj (R1 (fun q => absurd q.2 (by omega)))).1
          rw [if_neg (by omega), m0]
          exact ⟨Or.inl ⟨rfl, rfl⟩, Or.inl rfl⟩
        · have m0 := (Prod.mk.inj (R2 es (by omega))).1
          rw [if_pos (by omega)]
          rw [m0]
          exact ⟨Or.inr ⟨by omega, by omega⟩, Or.inr (by omega)⟩
    · -- a leaf behind others
      have hrest : nclr s (2 ^ l) < 2 ^ n := by omega
      have IH := ih (nclr s (2 ^ l)) hlt hrest
      have pcle := m_pc_le (nclr s (2 ^ l))
      -- what the reference's row says of stands that aren't there
      have out : ∀ i, i < 18 → ¬ ((nclr s (2 ^ l)).testBit (i / 2) = true ∧ i % 2 < ways) → ml (18 * nclr s (2 ^ l) + i) = 1000000000 := fun i hi c => (Prod.mk.inj ((tab (nclr s (2 ^ l)) i hrest hi).1 c)).1
      by_cases hwt : t < ways
      · have K := R3 hb hwt hz
        have key : (rb l ||| rr l) &&& nclr s (2 ^ l) = 0 → ∀ i, i ≤ n → relU (m_up T sj (nclr s (2 ^ l)) (m_ahead ra ba bb l (nclr s (2 ^ l))) (2 * l + t) i) (kf (fun i => i % 2 < ways ∧ m_may gA gJ n (nclr s (2 ^ l)) (i / 2) l ∧ ¬ B (i / 2) l) (cR J tw ml (nclr s (2 ^ l)) (2 * l + t)) (cR J tw m2 (nclr s (2 ^ l)) (2 * l + t)) (1000000000, 1000000000) (2 * i)).1 (t * tw) ∧ ((kf (fun i => i % 2 < ways ∧ m_may gA gJ n (nclr s (2 ^ l)) (i / 2) l ∧ ¬ B (i / 2) l) (cR J tw ml (nclr s (2 ^ l)) (2 * l + t)) (cR J tw m2 (nclr s (2 ^ l)) (2 * l + t)) (1000000000, 1000000000) (2 * i)).1 = 1000000000 ∨ (kf (fun i => i % 2 < ways ∧ m_may gA gJ n (nclr s (2 ^ l)) (i / 2) l ∧ ¬ B (i / 2) l) (cR J tw ml (nclr s (2 ^ l)) (2 * l + t)) (cR J tw m2 (nclr s (2 ^ l)) (2 * l + t)) (1000000000, 1000000000) (2 * i)).1 ≤ m_pc (nclr s (2 ^ l)) * 11000 + 10999) := by
          intro hm0 i
          have hTt : t * tw ≤ 999 := Nat.le_trans (Nat.mul_le_mul (show t ≤ 1 by omega) htw) (by decide)
          induction i with
          | zero => intro _; exact ⟨Or.inl ⟨rfl, rfl⟩, Or.inl rfl⟩
          | succ i ihi =>
            intro hi
            obtain ⟨ih1, ih2⟩ := ihi (by omega)
            generalize hq : kf (fun i => i % 2 < ways ∧ m_may gA gJ n (nclr s (2 ^ l)) (i / 2) l ∧ ¬ B (i / 2) l) (cR J tw ml (nclr s (2 ^ l)) (2 * l + t)) (cR J tw m2 (nclr s (2 ^ l)) (2 * l + t)) (1000000000, 1000000000) (2 * i) = q0 at ih1 ih2
            have top : q0.1 ≤ 1000000000 ∧ q0.2 ≤ 1000000000 := by rw [← hq]; exact kf_top (Nat.le_refl _) (Nat.le_refl _) _
            rw [show 2 * (i + 1) = 2 * i + 1 + 1 by omega, kf, kf, hq, m_up]
            have d0 : (2 * i) / 2 = i := by omega
            have d1 : (2 * i + 1) / 2 = i := by omega
            have r0 : (2 * i) % 2 = 0 := by omega
            have r1 : (2 * i + 1) % 2 = 1 := by omega
            have c0 : cR J tw ml (nclr s (2 ^ l)) (2 * l + t) (2 * i) = ml (18 * nclr s (2 ^ l) + 2 * i) + (J (2 * i) (2 * l + t) + t * tw) := by unfold cR; rw [e3]
            have c1 : cR J tw ml (nclr s (2 ^ l)) (2 * l + t) (2 * i + 1) = ml (18 * nclr s (2 ^ l) + 2 * i + 1) + (J (2 * i + 1) (2 * l + t) + t * tw) := by unfold cR; rw [e3, show 18 * nclr s (2 ^ l) + (2 * i + 1) = 18 * nclr s (2 ^ l) + 2 * i + 1 by omega]
            have s0 : sj (2 * i * 18 + (2 * l + t)) = J (2 * i) (2 * l + t) := hsj _ _ (by omega) (by omega)
            have s1 : sj (2 * i * 18 + (2 * l + t) + 18) = J (2 * i + 1) (2 * l + t) := by rw [show 2 * i * 18 + (2 * l + t) + 18 = (2 * i + 1) * 18 + (2 * l + t) by omega]; exact hsj _ _ (by omega) (by omega)
            have j0 := hJ (2 * i) (2 * l + t)
            have j1 := hJ (2 * i + 1) (2 * l + t)
            rw [c0, c1, s0, s1, d0, d1, r0, r1]
            by_cases hbit : (m_ahead ra ba bb l (nclr s (2 ^ l))).testBit i = true
            · have hin : (nclr s (2 ^ l)).testBit i = true := by
                unfold m_ahead at hbit
                split at hbit
                · rw [nclr_t, Bool.and_eq_true] at hbit; exact nbr_sub hbit.1
                · exact nbr_sub hbit
              have may := (may_iff hn hR hB hrest hl (by omega) hin).mp ⟨hm0, hbit⟩
              obtain ⟨a0, b0⟩ := IH (2 * i) (by omega) (by rw [d0]; exact hin)
              obtain ⟨a1, b1⟩ := IH (2 * i + 1) (by omega) (by rw [d1]; exact hin)
              rw [show nclr s (2 ^ l) * 18 + (2 * i + 1) = nclr s (2 ^ l) * 18 + 2 * i + 1 by omega, show 18 * nclr s (2 ^ l) + (2 * i + 1) = 18 * nclr s (2 ^ l) + 2 * i + 1 by omega] at a1
              rw [show 18 * nclr s (2 ^ l) + (2 * i + 1) = 18 * nclr s (2 ^ l) + 2 * i + 1 by omega] at b1
              have o0 : 0 < ways ∧ m_may gA gJ n (nclr s (2 ^ l)) i l ∧ ¬ B i l := ⟨by omega, may.1, may.2⟩
              rw [if_neg ((ln_bit1 _ _).mpr hbit), cif_t o0]
              have st0 := relU_step (c := cR J tw m2 (nclr s (2 ^ l)) (2 * l + t) (2 * i)) ih1 a0 (b0.elim Or.inl (fun z => Or.inr (by omega))) j0 hTt
              have bo0 : (kk q0 (ml (18 * nclr s (2 ^ l) + 2 * i) + (J (2 * i) (2 * l + t) + t * tw)) (cR J tw m2 (nclr s (2 ^ l)) (2 * l + t) (2 * i))).1 = 1000000000 ∨ (kk q0 (ml (18 * nclr s (2 ^ l) + 2 * i) + (J (2 * i) (2 * l + t) + t * tw)) (cR J tw m2 (nclr s (2 ^ l)) (2 * l + t) (2 * i))).1 ≤ m_pc (nclr s (2 ^ l)) * 11000 + 10999 := by
                rw [kk_fst]; omega
              by_cases w1 : 1 < ways
              · have o1 : 1 < ways ∧ m_may gA gJ n (nclr s (2 ^ l)) i l ∧ ¬ B i l := ⟨w1, may.1, may.2⟩
                rw [cif_t o1]
                have st1 := relU_step (c := cR J tw m2 (nclr s (2 ^ l)) (2 * l + t) (2 * i + 1)) st0 a1 (b1.elim Or.inl (fun z => Or.inr (by omega))) j1 hTt
                refine ⟨st1, ?_⟩
                rw [kk_fst]; omega
              · have o1 : ¬ (1 < ways ∧ m_may gA gJ n (nclr s (2 ^ l)) i l ∧ ¬ B i l) := fun q => w1 q.1
                rw [cif_f o1]
                have far := out (2 * i + 1) (by omega) (fun q => w1 (by omega))
                rw [← Nat.add_assoc] at far
                exact ⟨relU_far st0 a1 far, bo0⟩
            · rw [if_pos ((ln_bit0 _ _).mpr (by cases q : (m_ahead ra ba bb l (nclr s (2 ^ l))).testBit i with | false => rfl | true => exact absurd q hbit))]
              by_cases hin : (nclr s (2 ^ l)).testBit i = true
              · have nomay : ¬ (m_may gA gJ n (nclr s (2 ^ l)) i l ∧ ¬ B i l) := fun q => hbit ((may_iff hn hR hB hrest hl (by omega) hin).mpr q).2
                rw [cif_f (fun q => nomay q.2), cif_f (fun q => nomay q.2)]
                exact ⟨ih1, ih2⟩
              · have f0 := out (2 * i) (by omega) (fun q => hin (by rw [← d0]; exact q.1))
                have f1 := out (2 * i + 1) (by omega) (fun q => hin (by rw [← d1]; exact q.1))
                rw [← Nat.add_assoc] at f1
                have k0 : ∀ c, kk q0 (ml (18 * nclr s (2 ^ l) + 2 * i) + (J (2 * i) (2 * l + t) + t * tw)) c = q0 := fun c => kk_far (N := 1000000000) top.1 top.2 (by omega)
                have k1 : ∀ c, kk q0 (ml (18 * nclr s (2 ^ l) + 2 * i + 1) + (J (2 * i + 1) (2 * l + t) + t * tw)) c = q0 := fun c => kk_far (N := 1000000000) top.1 top.2 (by omega)
                have w0 : ∀ (C : Prop), cif C (kk q0 (ml (18 * nclr s (2 ^ l) + 2 * i) + (J (2 * i) (2 * l + t) + t * tw)) (cR J tw m2 (nclr s (2 ^ l)) (2 * l + t) (2 * i))) q0 = q0 := fun C => by
                  by_cases c : C
                  · rw [cif_t c, k0]
                  · rw [cif_f c]
                rw [w0]
                have w1 : ∀ (C : Prop), cif C (kk q0 (ml (18 * nclr s (2 ^ l) + 2 * i + 1) + (J (2 * i + 1) (2 * l + t) + t * tw)) (cR J tw m2 (nclr s (2 ^ l)) (2 * l + t) (2 * i + 1))) q0 = q0 := fun C => by
                  by_cases c : C
                  · rw [cif_t c, k1]
                  · rw [cif_f c]
                rw [w1]
                exact ⟨ih1, ih2⟩
        have mlE := (Prod.mk.inj K).1
        by_cases hm0 : (rb l ||| rr l) &&& nclr s (2 ^ l) = 0
        · obtain ⟨u, bd⟩ := key hm0 n (Nat.le_refl _)
          rw [← mlE] at u bd
          have ux : m_upx T sj n (nclr s (2 ^ l)) (m_ahead ra ba bb l (nclr s (2 ^ l))) (2 * l + t) = m_up T sj (nclr s (2 ^ l)) (m_ahead ra ba bb l (nclr s (2 ^ l))) (2 * l + t) n := by
            unfold m_upx; rw [if_neg hz]
          rcases (show t = 0 ∨ t = 1 by omega) with rfl | rfl
          · rw [Nat.add_zero] at u bd ux ⊢
            rw [T0]
            unfold m_plain
            rw [if_pos hm0, ux]
            refine ⟨?_, bd.elim Or.inl (fun z => Or.inr (by rw [hpc]; omega))⟩
            unfold relU at u
            unfold isCap
            omega
          · rw [← Nat.add_assoc, T1]
            unfold m_turn
            rw [if_pos hm0, ux, if_pos (by omega)]
            refine ⟨?_, bd.elim Or.inl (fun z => Or.inr (by rw [hpc]; omega))⟩
            unfold relU at u
            unfold isCap
            omega
        · have no : ∀ i, ¬ (i % 2 < ways ∧ m_may gA gJ n (nclr s (2 ^ l)) (i / 2) l ∧ ¬ B (i / 2) l) := fun i q => hm0 ((and0_iff (by omega)).mpr (fun k hk hkb => by
            have z := q.2.1 k (bitsn hrest hkb) ((ln_bit1 _ _).mpr hkb)
            rw [Nat.testBit_or, Bool.or_eq_false_iff]
            constructor
            · cases y : (rb l).testBit k with
              | false => rfl
              | true => exact absurd z.1 ((hR.1 l k (by omega) hk).mp y)
            · cases y : (rr l).testBit k with
              | false => rfl
              | true => exact absurd z.2.1 ((hR.2.1 l k (by omega) hk).mp y)))
          rw [kf_no no] at mlE
          refine ⟨Or.inl ⟨?_, mlE⟩, Or.inl mlE⟩
          rcases (show t = 0 ∨ t = 1 by omega) with rfl | rfl
          · rw [Nat.add_zero, T0]; unfold m_plain; rw [if_neg hm0]
          · rw [← Nat.add_assoc, T1]; unfold m_turn; rw [if_neg hm0]
      · -- turned, and it may not be
        have mlE := (Prod.mk.inj (R1 (fun q => hwt q.2))).1
        refine ⟨Or.inl ⟨?_, mlE⟩, Or.inl mlE⟩
        have et : t = 1 := by omega
        subst et
        rw [← Nat.add_assoc, T1]
        unfold m_turn
        rw [if_neg (show ¬ tc < 1000000 by omega)]
        split <;> rfl
