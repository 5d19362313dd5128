/-! THE MATHEMATICS, 9: the way of the best order; the next one's cost; who is sure -/
/-- the way: Ss k the set ahead of the pick k + 1, zs k the stand of the pick k -/
def pathF (J : Nat → Nat → Nat) (tw ways n : Nat) (gA gJ ml : Nat → Nat) (best : Nat) (Ss zs : Nat → Nat) : Prop := Ss 0 = 2 ^ n - 1 ∧ ∀ k, k < n → Ss k < 2 ^ n ∧ zs (k + 1) < 2 * n ∧ zs (k + 1) % 2 < ways ∧ (Ss k).testBit (zs (k + 1) / 2) = true ∧ Ss (k + 1) = nclr (Ss k) (2 ^ (zs (k + 1) / 2)) ∧ m_pc (Ss k) + k = n ∧ (k = 0 → ml (18 * Ss k + zs (k + 1)) = best ∧ ∀ i, i < zs (k + 1) → best < ml (18 * Ss k + i)) ∧ (1 ≤ k → m_may gA gJ n (Ss k) (zs (k + 1) / 2) (zs k / 2) ∧ ml (18 * Ss k + zs (k + 1)) + (J (zs (k + 1)) (zs k) + (zs k % 2) * tw) = ml (18 * Ss (k - 1) + zs k) ∧ ∀ i, i < zs (k + 1) → i % 2 < ways → m_may gA gJ n (Ss k) (i / 2) (zs k / 2) → ml (18 * Ss (k - 1) + zs k) < ml (18 * Ss k + i) + (J i (zs k) + (zs k % 2) * tw))
theorem trace_inv {J : Nat → Nat → Nat} {rb rr ra gA gJ sj ml0 m20 ml m2 T so0 : Nat → Nat} {B : Nat → Nat → Prop} {n tw ways tc : Nat} (S0 : setup J n tw ways tc sj) (hR : relR rb rr ra gA gJ) (hB : relB 18 18 B) (h : (ml, m2) = m_ord J gA gJ B n tw ways ml0 m20) (same : sameT n ways T ml m2) (hb : (m_look ml m2 (2 ^ n - 1)).1 ≤ 99000) :
    ∀ k, k < n → ∃ off, invT n tw ways ml m2 (m_look ml m2 (2 ^ n - 1)).1 (m_look ml m2 (2 ^ n - 1)).2 (k + 1) (m_trace T sj ra so0 n tc 1000000 (k + 1)) (m_trace T sj ra so0 n tc 1000000 k).1 off
  | 0, hk => ⟨0, (first_pick (sj := sj) (ra := ra) (so0 := so0) S0.1 (by omega) S0.2.2.2.1 same (by omega)).1⟩
  | k + 1, hk => by
    obtain ⟨off, I⟩ := trace_inv (so0 := so0) S0 hR hB h same hb k (by omega)
    exact ⟨_, (next_pick S0 hR hB h same hk hb I).1⟩
theorem pathF_of {J : Nat → Nat → Nat} {rb rr ra gA gJ sj ml0 m20 ml m2 T so0 : Nat → Nat} {B : Nat → Nat → Prop} {n tw ways tc : Nat} (S0 : setup J n tw ways tc sj) (hR : relR rb rr ra gA gJ) (hB : relB 18 18 B) (h : (ml, m2) = m_ord J gA gJ B n tw ways ml0 m20) (same : sameT n ways T ml m2) (hb : (m_look ml m2 (2 ^ n - 1)).1 ≤ 99000) :
    pathF J tw ways n gA gJ ml (m_look ml m2 (2 ^ n - 1)).1 (fun k => (m_trace T sj ra so0 n tc 1000000 k).1) (fun k => (m_trace T sj ra so0 n tc 1000000 k).2.1) := by
  refine ⟨rfl, fun k hk => ?_⟩
  obtain ⟨off, I⟩ := trace_inv (so0 := so0) S0 hR hB h same hb k hk
  have I' := I
  obtain ⟨i1, i2, i3, i4, i5, i6, i7, i8, i9, i10⟩ := I'
  have hp9 := ln_p9 S0.1
  have hpc : m_pc (m_trace T sj ra so0 n tc 1000000 k).1 + k = n := by
    have := pc_clr (m_trace T sj ra so0 n tc 1000000 k).1 (by omega) ((m_trace T sj ra so0 n tc 1000000 (k + 1)).2.1 / 2) (by have := S0.1; omega) i4
    rw [← i5] at this
    omega
  refine ⟨i3, i1, i2, i4, i5, hpc, ?_, ?_⟩
  · intro e
    subst e
    have f := first_pick (sj := sj) (ra := ra) (so0 := so0) S0.1 (by omega) S0.2.2.2.1 same (by omega)
    exact ⟨f.1.2.2.2.2.2.2.2.1, f.2⟩
  · intro e
    obtain ⟨k, rfl⟩ : ∃ k', k = k' + 1 := ⟨k - 1, by omega⟩
    obtain ⟨off', I0⟩ := trace_inv (so0 := so0) S0 hR hB h same hb k (by omega)
    have f := next_pick S0 hR hB h same hk hb I0
    exact ⟨f.2.1.1, f.2.2.1, f.2.2.2⟩
theorem look_upto {J : Nat → Nat → Nat} {gA gJ ml0 m20 ml m2 T : Nat → Nat} {B : Nat → Nat → Prop} {n tw ways : Nat} (hn : n ≤ 9) (hw : ways ≤ 2) (hw1 : 1 ≤ ways) (htw : tw ≤ 999) (hJ : ∀ a b, J a b ≤ 10000) (h : (ml, m2) = m_ord J gA gJ B n tw ways ml0 m20) (same : sameT n ways T ml m2) : upto 99000 (m_look ml m2 (2 ^ n - 1)).1 ∧ upto 99000 (m_look ml m2 (2 ^ n - 1)).2 ∧ (m_look ml m2 (2 ^ n - 1)).1 ≤ (m_look ml m2 (2 ^ n - 1)).2 ∧ (m_look ml m2 (2 ^ n - 1)).2 ≤ 1000000000 := by
  have hp1 := ln_one_two_pow n
  by_cases e : 2 ^ n - 1 = 0
  · unfold m_look
    rw [if_pos e]
    exact ⟨Or.inr (Nat.zero_le _), Or.inl rfl, Nat.zero_le _, Nat.le_refl _⟩
  · have l := (of_look hn same (s := 2 ^ n - 1) (by omega) e).2.2
    have hn1 : n ≤ 9 := hn
    rw [l]
    have u := kf_upto (ok := fun _ => True) (c1 := fun i => ml (18 * (2 ^ n - 1) + i)) (c2 := fun i => m2 (18 * (2 ^ n - 1) + i)) (M := 99000) (2 * n) (fun k hk _ => by
      obtain ⟨a, b⟩ := tab_bd hn hw hw1 htw hJ h (2 ^ n - 1) (by omega) k (by omega)
      have := m_pc_le (2 ^ n - 1)
      unfold upto at a b
      constructor
      · show 1000000000 ≤ ml (18 * (2 ^ n - 1) + k) ∨ ml (18 * (2 ^ n - 1) + k) ≤ 99000; omega
      · show 1000000000 ≤ m2 (18 * (2 ^ n - 1) + k) ∨ m2 (18 * (2 ^ n - 1) + k) ≤ 99000; omega)
    have le := kf_le' (ok := fun _ => True) (c1 := fun i => ml (18 * (2 ^ n - 1) + i)) (c2 := fun i => m2 (18 * (2 ^ n - 1) + i)) (q0 := (1000000000, 1000000000)) (Nat.le_refl _) (2 * n) (fun k hk => (same.1 (18 * (2 ^ n - 1) + k) (by omega)).1)
    have top := kf_top (ok := fun _ => True) (c1 := fun i => ml (18 * (2 ^ n - 1) + i)) (c2 := fun i => m2 (18 * (2 ^ n - 1) + i)) (q0 := (1000000000, 1000000000)) (N := 1000000000) (Nat.le_refl _) (Nat.le_refl _) (2 * n)
    exact ⟨u.1, u.2, le, top.2⟩
/-- THE NEXT ONE'S COST -/
theorem next_eq {J : Nat → Nat → Nat} {rb rr ra gA gJ sj ml0 m20 ml m2 T so0 : Nat → Nat} {B : Nat → Nat → Prop} {n tw ways tc : Nat} (S0 : setup J n tw ways tc sj) (hR : relR rb rr ra gA gJ) (hB : relB 18 18 B) (h : (ml, m2) = m_ord J gA gJ B n tw ways ml0 m20) (same : sameT n ways T ml m2) (hb : (m_look ml m2 (2 ^ n - 1)).1 ≤ 99000) :
    isCap (m_trace T sj ra so0 n tc 1000000 n).2.2.2.2 (m_look ml m2 (2 ^ n - 1)).2 := by
  obtain ⟨hn, htw, hJ, hway, hsj⟩ := id S0
  have hp9 := ln_p9 hn
  rcases Nat.eq_zero_or_pos n with e | e
  · subst e
    exact Or.inl ⟨rfl, rfl⟩
  · obtain ⟨k, rfl⟩ : ∃ k, n = k + 1 := ⟨n - 1, by omega⟩
    obtain ⟨off, I⟩ := trace_inv (so0 := so0) S0 hR hB h same hb k (by omega)
    obtain ⟨i1, i2, i3, i4, i5, i6, i7, i8, i9, i10⟩ := I
    obtain ⟨-, tab⟩ := ord_tab hn (by omega) (by omega) htw h
    have z : (m_trace T sj ra so0 (k + 1) tc 1000000 (k + 1)).1 = 0 := by
      apply pc_zero
      · have := nclr_bit_lt i4; omega
      · omega
    have es := nclr_zero i4 (by rw [← i5]; exact z)
    have e2 := (Prod.mk.inj ((tab _ _ i3 (by omega)).2.1 es i2)).2
    have u := look_upto hn (by omega) (by omega) htw hJ h same
    have e3 : m2 (18 * (m_trace T sj ra so0 (k + 1) tc 1000000 k).1 + (m_trace T sj ra so0 (k + 1) tc 1000000 (k + 1)).2.1) = 1000000000 := e2
    rw [e3] at i10
    have u2 := u.2.1
    unfold upto at u2
    unfold isCap
    omega
theorem lower {J : Nat → Nat → Nat} {gA gJ ml0 m20 ml m2 mlB0 m2B0 mlB m2B : Nat → Nat} {B B' : Nat → Nat → Prop} {n tw ways : Nat} (hn : n ≤ 9) (hw : ways ≤ 2) (hw1 : 1 ≤ ways) (htw : tw ≤ 999) (hB : ∀ a b, a < 9 → b < 9 → ¬ B a b) (h : (ml, m2) = m_ord J gA gJ B n tw ways ml0 m20) (h' : (mlB, m2B) = m_ord J gA gJ B' n tw ways mlB0 m2B0) :
    ∀ s, s < 2 ^ n → ∀ j, j < 18 → ml (18 * s + j) ≤ mlB (18 * s + j) := by
  obtain ⟨hf, tab⟩ := ord_tab hn hw hw1 htw h
  obtain ⟨hfB, tabB⟩ := ord_tab hn hw hw1 htw h'
  intro s
  induction s using Nat.strongRecOn with
  | _ s ih =>
    intro hs j hj
    obtain ⟨R1, R2, R3⟩ := tab s j hs hj
    obtain ⟨Q1, Q2, Q3⟩ := tabB s j hs hj
    by_cases c : s.testBit (j / 2) = true ∧ j % 2 < ways
    · by_cases z : nclr s (2 ^ (j / 2)) = 0
      · rw [(Prod.mk.inj (R2 (nclr_zero c.1 z) c.2)).1, (Prod.mk.inj (Q2 (nclr_zero c.1 z) c.2)).1]
        exact Nat.le_refl _
      · have e := R3 c.1 c.2 z
        have eB := Q3 c.1 c.2 z
        have hlt := nclr_bit_lt c.1
        have IH := ih (nclr s (2 ^ (j / 2))) hlt (by omega)
        rw [(Prod.mk.inj eB).1]
        rcases kf_att (ok := fun i => i % 2 < ways ∧ m_may gA gJ n (nclr s (2 ^ (j / 2))) (i / 2) (j / 2) ∧ ¬ B' (i / 2) (j / 2)) (c1 := cR J tw mlB (nclr s (2 ^ (j / 2))) j) (c2 := cR J tw m2B (nclr s (2 ^ (j / 2))) j) (q0 := (1000000000, 1000000000)) (2 * n) with y | ⟨i, y1, y2, y3⟩
        · rw [y]
          have := hf (18 * s + j) (by omega)
          exact Nat.le_trans this.1 this.2
        · rw [← y3, (Prod.mk.inj e).1]
          have f := kf_fst (ok := fun i => i % 2 < ways ∧ m_may gA gJ n (nclr s (2 ^ (j / 2))) (i / 2) (j / 2) ∧ ¬ B (i / 2) (j / 2)) (c1 := cR J tw ml (nclr s (2 ^ (j / 2))) j) (c2 := cR J tw m2 (nclr s (2 ^ (j / 2))) j) (q0 := (1000000000, 1000000000)) (2 * n) i y1 ⟨y2.1, y2.2.1, hB _ _ (by omega) (by omega)⟩
          have g := IH i (by omega)
          refine Nat.le_trans f ?_
          unfold cR
          omega
    · rw [(Prod.mk.inj (R1 c)).1, (Prod.mk.inj (Q1 c)).1]
      exact Nat.le_refl _
/-- who isn't neighbours in the best order can be barred -/
theorem sure_no {J : Nat → Nat → Nat} {gA gJ ml0 m20 ml m2 mlB0 m2B0 mlB m2B Ss zs : Nat → Nat} {B B' : Nat → Nat → Prop} {n tw ways best a0 b0 : Nat} (hn : n ≤ 9) (hw : ways ≤ 2) (hw1 : 1 ≤ ways) (htw : tw ≤ 999) (h : (ml, m2) = m_ord J gA gJ B n tw ways ml0 m20) (h' : (mlB, m2B) = m_ord J gA gJ B' n tw ways mlB0 m2B0) (hB' : relB a0 b0 B') (F : pathF J tw ways n gA gJ ml best Ss zs) (hno : ∀ k, k + 1 < n → ¬ (zs (k + 2) / 2 = a0 ∧ zs (k + 1) / 2 = b0)) :
    ∀ d k, k < n → k + d + 1 = n → mlB (18 * Ss k + zs (k + 1)) ≤ ml (18 * Ss k + zs (k + 1)) := by
  obtain ⟨hf, tab⟩ := ord_tab hn hw hw1 htw h
  obtain ⟨hfB, tabB⟩ := ord_tab hn hw hw1 htw h'
  have hp9 := ln_p9 hn
  intro d
  induction d with
  | zero =>
    intro k hk e
    obtain ⟨f1, f2, f3, f4, f5, f6, f7, f8⟩ := F.2 k hk
    have hpc := pc_clr (Ss k) (by omega) (zs (k + 1) / 2) (by omega) f4
    have z : nclr (Ss k) (2 ^ (zs (k + 1) / 2)) = 0 := pc_zero _ (by have := nclr_bit_lt f4; omega) (by omega)
    have es := nclr_zero f4 z
    rw [(Prod.mk.inj ((tab _ _ f1 (by omega)).2.1 es f3)).1, (Prod.mk.inj ((tabB _ _ f1 (by omega)).2.1 es f3)).1]
    exact Nat.le_refl _
  | succ d ih =>
    intro k hk e
    have IH := ih (k + 1) (by omega) (by omega)
    obtain ⟨f1, f2, f3, f4, f5, f6, f7, f8⟩ := F.2 k hk
    obtain ⟨g1, g2, g3, g4, g5, g6, g7, g8⟩ := F.2 (k + 1) (by omega)
    obtain ⟨m1, m2', m3⟩ := g8 (by omega)
    rw [Nat.add_sub_cancel] at m2'
    simp only [show k + 1 + 1 = k + 2 from rfl] at g2 g3 g4 g5 m1 m2' m3
    have nz : ¬ nclr (Ss k) (2 ^ (zs (k + 1) / 2)) = 0 := fun z => by
      rw [← f5] at z; rw [z, Nat.zero_testBit] at g4; cases g4
    have eB := (tabB _ _ f1 (show zs (k + 1) < 18 by omega)).2.2 f4 f3 nz
    rw [← f5] at eB
    rw [(Prod.mk.inj eB).1, ← m2']
    have fst := kf_fst (ok := fun i => i % 2 < ways ∧ m_may gA gJ n (Ss (k + 1)) (i / 2) (zs (k + 1) / 2) ∧ ¬ B' (i / 2) (zs (k + 1) / 2)) (c1 := cR J tw mlB (Ss (k + 1)) (zs (k + 1))) (c2 := cR J tw m2B (Ss (k + 1)) (zs (k + 1))) (q0 := (1000000000, 1000000000)) (2 * n) (zs (k + 2)) g2 ⟨g3, m1, fun z => hno k (by omega) ((hB' _ _ (by omega) (by omega)).mp z)⟩
    refine Nat.le_trans fst ?_
    unfold cR
    have IH' : mlB (18 * Ss (k + 1) + zs (k + 2)) ≤ ml (18 * Ss (k + 1) + zs (k + 2)) := IH
    omega
/-- who is: then barring them costs at least the next one's cost -/
theorem sure_yes {J : Nat → Nat → Nat} {gA gJ ml0 m20 ml m2 mlB0 m2B0 mlB m2B Ss zs : Nat → Nat} {B B' : Nat → Nat → Prop} {n tw ways best a0 b0 K : Nat} (hn : n ≤ 9) (hw : ways ≤ 2) (hw1 : 1 ≤ ways) (htw : tw ≤ 999) (hB : ∀ a b, a < 9 → b < 9 → ¬ B a b) (h : (ml, m2) = m_ord J gA gJ B n tw ways ml0 m20) (h' : (mlB, m2B) = m_ord J gA gJ B' n tw ways mlB0 m2B0) (hB' : relB a0 b0 B') (F : pathF J tw ways n gA gJ ml best Ss zs) (hK : K + 1 < n) (hyes : zs (K + 2) / 2 = a0 ∧ zs (K + 1) / 2 = b0) :
    ∀ d k, k + d = K → m2 (18 * Ss k + zs (k + 1)) ≤ mlB (18 * Ss k + zs (k + 1)) := by
  have low := lower hn hw hw1 htw hB h h'
  obtain ⟨hf, tab⟩ := ord_tab hn hw hw1 htw h
  obtain ⟨hfB, tabB⟩ := ord_tab hn hw hw1 htw h'
  intro d
  induction d with
  | zero =>
    intro k e
    have e : k = K := by omega
    subst e
    obtain ⟨f1, f2, f3, f4, f5, f6, f7, f8⟩ := F.2 k (by omega)
    obtain ⟨g1, g2, g3, g4, g5, g6, g7, g8⟩ := F.2 (k + 1) hK
    obtain ⟨m1, m2', m3⟩ := g8 (by omega)
    rw [Nat.add_sub_cancel] at m2'
    simp only [show k + 1 + 1 = k + 2 from rfl] at g2 g3 g4 g5 m1 m2' m3
    have nz : ¬ nclr (Ss k) (2 ^ (zs (k + 1) / 2)) = 0 := fun z => by
      rw [← f5] at z; rw [z, Nat.zero_testBit] at g4; cases g4
    have eB := (tabB _ _ f1 (show zs (k + 1) < 18 by omega)).2.2 f4 f3 nz
    have eU := (tab _ _ f1 (show zs (k + 1) < 18 by omega)).2.2 f4 f3 nz
    rw [← f5] at eB eU
    rw [(Prod.mk.inj eB).1]
    rcases kf_att (ok := fun i => i % 2 < ways ∧ m_may gA gJ n (Ss (k + 1)) (i / 2) (zs (k + 1) / 2) ∧ ¬ B' (i / 2) (zs (k + 1) / 2)) (c1 := cR J tw mlB (Ss (k + 1)) (zs (k + 1))) (c2 := cR J tw m2B (Ss (k + 1)) (zs (k + 1))) (q0 := (1000000000, 1000000000)) (2 * n) with y | ⟨i, y1, y2, y3⟩
    · rw [y]; exact (hf (18 * Ss k + zs (k + 1)) (by omega)).2
    · rw [← y3, (Prod.mk.inj eU).2]
      have hne : i ≠ zs (k + 2) := fun z => y2.2.2 ((hB' _ _ (by omega) (by omega)).mpr ⟨by rw [z]; exact hyes.1, hyes.2⟩)
      have c1p : cR J tw ml (Ss (k + 1)) (zs (k + 1)) (zs (k + 2)) = ml (18 * Ss k + zs (k + 1)) := m2'
      have oi : i % 2 < ways ∧ m_may gA gJ n (Ss (k + 1)) (i / 2) (zs (k + 1) / 2) ∧ ¬ B (i / 2) (zs (k + 1) / 2) := ⟨y2.1, y2.2.1, hB _ _ (by omega) (by omega)⟩
      have fst := kf_fst (ok := fun i => i % 2 < ways ∧ m_may gA gJ n (Ss (k + 1)) (i / 2) (zs (k + 1) / 2) ∧ ¬ B (i / 2) (zs (k + 1) / 2)) (c1 := cR J tw ml (Ss (k + 1)) (zs (k + 1))) (c2 := cR J tw m2 (Ss (k + 1)) (zs (k + 1))) (q0 := (1000000000, 1000000000)) (2 * n) i y1 oi
      rw [← eU] at fst
      have snd := kf_snd2 (ok := fun i => i % 2 < ways ∧ m_may gA gJ n (Ss (k + 1)) (i / 2) (zs (k + 1) / 2) ∧ ¬ B (i / 2) (zs (k + 1) / 2)) (c1 := cR J tw ml (Ss (k + 1)) (zs (k + 1))) (c2 := cR J tw m2 (Ss (k + 1)) (zs (k + 1))) (q0 := (1000000000, 1000000000)) (Nat.le_refl _) (2 * n) (fun x hx => cR_le (N := 18 * 2 ^ n) hf (by omega)) i (zs (k + 2)) y1 g2 hne oi ⟨g3, m1, hB _ _ (by omega) (by omega)⟩ (by rw [c1p]; exact fst)
      refine Nat.le_trans snd ?_
      have lo := low (Ss (k + 1)) g1 i (by omega)
      unfold cR
      omega
  | succ d ih =>
    intro k e
    have IH := ih (k + 1) (by omega)
    obtain ⟨f1, f2, f3, f4, f5, f6, f7, f8⟩ := F.2 k (by omega)
    obtain ⟨g1, g2, g3, g4, g5, g6, g7, g8⟩ := F.2 (k + 1) (by omega)
    obtain ⟨m1, m2', m3⟩ := g8 (by omega)
    rw [Nat.add_sub_cancel] at m2'
    simp only [show k + 1 + 1 = k + 2 from rfl] at g2 g3 g4 g5 m1 m2' m3
    have nz : ¬ nclr (Ss k) (2 ^ (zs (k + 1) / 2)) = 0 := fun z => by
      rw [← f5] at z; rw [z, Nat.zero_testBit] at g4; cases g4
    have eB := (tabB _ _ f1 (show zs (k + 1) < 18 by omega)).2.2 f4 f3 nz
    have eU := (tab _ _ f1 (show zs (k + 1) < 18 by omega)).2.2 f4 f3 nz
    rw [← f5] at eB eU
    rw [(Prod.mk.inj eB).1]
    rcases kf_att (ok := fun i => i % 2 < ways ∧ m_may gA gJ n (Ss (k + 1)) (i / 2) (zs (k + 1) / 2) ∧ ¬ B' (i / 2) (zs (k + 1) / 2)) (c1 := cR J tw mlB (Ss (k + 1)) (zs (k + 1))) (c2 := cR J tw m2B (Ss (k + 1)) (zs (k + 1))) (q0 := (1000000000, 1000000000)) (2 * n) with y | ⟨i, y1, y2, y3⟩
    · rw [y]; exact (hf (18 * Ss k + zs (k + 1)) (by omega)).2
    · rw [← y3, (Prod.mk.inj eU).2]
      have c1p : cR J tw ml (Ss (k + 1)) (zs (k + 1)) (zs (k + 2)) = ml (18 * Ss k + zs (k + 1)) := m2'
      have oi : i % 2 < ways ∧ m_may gA gJ n (Ss (k + 1)) (i / 2) (zs (k + 1) / 2) ∧ ¬ B (i / 2) (zs (k + 1) / 2) := ⟨y2.1, y2.2.1, hB _ _ (by omega) (by omega)⟩
      by_cases hne : i = zs (k + 2)
      · have snd := kf_snd1 (ok := fun i => i % 2 < ways ∧ m_may gA gJ n (Ss (k + 1)) (i / 2) (zs (k + 1) / 2) ∧ ¬ B (i / 2) (zs (k + 1) / 2)) (c1 := cR J tw ml (Ss (k + 1)) (zs (k + 1))) (c2 := cR J tw m2 (Ss (k + 1)) (zs (k + 1))) (q0 := (1000000000, 1000000000)) (Nat.le_refl _) (2 * n) (fun x hx => cR_le (N := 18 * 2 ^ n) hf (by omega)) i y1 oi
        refine Nat.le_trans snd ?_
        rw [hne]
        unfold cR
        have IH' : m2 (18 * Ss (k + 1) + zs (k + 2)) ≤ mlB (18 * Ss (k + 1) + zs (k + 2)) := IH
        omega
      · have fst := kf_fst (ok := fun i => i % 2 < ways ∧ m_may gA gJ n (Ss (k + 1)) (i / 2) (zs (k + 1) / 2) ∧ ¬ B (i / 2) (zs (k + 1) / 2)) (c1 := cR J tw ml (Ss (k + 1)) (zs (k + 1))) (c2 := cR J tw m2 (Ss (k + 1)) (zs (k + 1))) (q0 := (1000000000, 1000000000)) (2 * n) i y1 oi
        rw [← eU] at fst
        have snd := kf_snd2 (ok := fun i => i % 2 < ways ∧ m_may gA gJ n (Ss (k + 1)) (i / 2) (zs (k + 1) / 2) ∧ ¬ B (i / 2) (zs (k + 1) / 2)) (c1 := cR J tw ml (Ss (k + 1)) (zs (k + 1))) (c2 := cR J tw m2 (Ss (k + 1)) (zs (k + 1))) (q0 := (1000000000, 1000000000)) (Nat.le_refl _) (2 * n) (fun x hx => cR_le (N := 18 * 2 ^ n) hf (by omega)) i (zs (k + 2)) y1 g2 hne oi ⟨g3, m1, hB _ _ (by omega) (by omega)⟩ (by rw [c1p]; exact fst)
        refine Nat.le_trans snd ?_
        have lo := low (Ss (k + 1)) g1 i (by omega)
        unfold cR
        omega
