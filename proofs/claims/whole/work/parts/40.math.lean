/-! THE MATHEMATICS, 1: the class's table -/
theorem m_up_congr {sl sl' sj : Nat → Nat} {rest ahead stand : Nat} (h : ∀ j, j < 18 → sl (rest * 18 + j) = sl' (rest * 18 + j)) : ∀ i, i ≤ 9 → m_up sl sj rest ahead stand i = m_up sl' sj rest ahead stand i
  | 0, _ => rfl
  | i + 1, hi => by
    have ih := m_up_congr (sj := sj) (ahead := ahead) (stand := stand) h i (by omega)
    have h1 := h (2 * i) (by omega)
    have h2 := h (2 * i + 1) (by omega)
    rw [← Nat.add_assoc] at h2
    rw [m_up, m_up, ih, h1, h2]
theorem m_upx_congr {sl sl' sj : Nat → Nat} {n rest ahead stand : Nat} (hn : n ≤ 9) (h : ¬ rest = 0 → ∀ j, j < 18 → sl (rest * 18 + j) = sl' (rest * 18 + j)) : m_upx sl sj n rest ahead stand = m_upx sl' sj n rest ahead stand := by
  unfold m_upx
  by_cases e : rest = 0
  · rw [if_pos e, if_pos e]
  · rw [if_neg e, if_neg e, m_up_congr (h e) n hn]
theorem m_plain_congr {rb rr sl sl' sj : Nat → Nat} {n set leaf ahead : Nat} (hn : n ≤ 9) (h : ¬ nclr set (2 ^ leaf) = 0 → ∀ j, j < 18 → sl (nclr set (2 ^ leaf) * 18 + j) = sl' (nclr set (2 ^ leaf) * 18 + j)) : m_plain rb rr sl sj n set leaf ahead = m_plain rb rr sl' sj n set leaf ahead := by
  unfold m_plain
  rw [m_upx_congr hn h]
theorem m_turn_congr {rb rr sl sl' sj : Nat → Nat} {n st set leaf ahead : Nat} (hn : n ≤ 9) (h : ¬ nclr set (2 ^ leaf) = 0 → ∀ j, j < 18 → sl (nclr set (2 ^ leaf) * 18 + j) = sl' (nclr set (2 ^ leaf) * 18 + j)) : m_turn rb rr sl sj n st set leaf ahead = m_turn rb rr sl' sj n st set leaf ahead := by
  unfold m_turn
  rw [m_upx_congr hn h]
theorem m_last_ne {rb rr sl sj : Nat → Nat} {n st set leaf ahead q : Nat} (h1 : q ≠ set * 18 + 2 * leaf) (h2 : q ≠ set * 18 + 2 * leaf + 1) : m_last rb rr sl sj n st set leaf ahead q = sl q := by
  unfold m_last
  rw [upN_n h2, upN_n h1]
theorem m_last_0 {rb rr sl sj : Nat → Nat} {n st set leaf ahead : Nat} : m_last rb rr sl sj n st set leaf ahead (set * 18 + 2 * leaf) = m_plain rb rr sl sj n set leaf ahead := by
  unfold m_last
  rw [upN_n (by omega), upN_s]
theorem m_last_1 {rb rr sl sj : Nat → Nat} {n st set leaf ahead : Nat} : m_last rb rr sl sj n st set leaf ahead (set * 18 + 2 * leaf + 1) = m_turn rb rr sl sj n st set leaf ahead := by
  unfold m_last
  rw [upN_s]
theorem m_fillS_out {rb rr ra sj sl : Nat → Nat} {n st ba bb set : Nat} : ∀ i q, (q < set * 18 ∨ set * 18 + 2 * i ≤ q) → m_fillS rb rr ra sj n st ba bb set sl i q = sl q
  | 0, _, _ => rfl
  | i + 1, q, h => by
    have ih := m_fillS_out (rb := rb) (rr := rr) (ra := ra) (sj := sj) (sl := sl) (n := n) (st := st) (ba := ba) (bb := bb) (set := set) i q (by omega)
    rw [m_fillS]
    split
    · exact ih
    · rw [m_last_ne (by omega) (by omega)]; exact ih
theorem nclr_bit_lt {s l : Nat} (h : s.testBit l = true) : nclr s (2 ^ l) < s := by
  have h1 := nclr_le s (2 ^ l)
  rcases Nat.lt_or_ge (nclr s (2 ^ l)) s with q | q
  · exact q
  · have e : nclr s (2 ^ l) = s := by omega
    have h2 := nclr_t s (2 ^ l) l
    rw [e, h, Nat.testBit_two_pow_self] at h2
    cases h2
theorem m_fillS_in {rb rr ra sj sl : Nat → Nat} {n st ba bb set l : Nat} (hn : n ≤ 9) (hb : set.testBit l = true) : ∀ i, l < i → i ≤ n → m_fillS rb rr ra sj n st ba bb set sl i (set * 18 + 2 * l) = m_plain rb rr sl sj n set l (m_ahead ra ba bb l (nclr set (2 ^ l))) ∧ m_fillS rb rr ra sj n st ba bb set sl i (set * 18 + 2 * l + 1) = m_turn rb rr sl sj n st set l (m_ahead ra ba bb l (nclr set (2 ^ l)))
  | 0, h, _ => absurd h (Nat.not_lt_zero _)
  | i + 1, h, hi => by
    rcases Nat.lt_or_ge l i with q | q
    · have ih := m_fillS_in (rb := rb) (rr := rr) (ra := ra) (sj := sj) (sl := sl) (st := st) (ba := ba) (bb := bb) hn hb i q (by omega)
      rw [m_fillS]
      split
      · exact ih
      · rw [m_last_ne (by omega) (by omega), m_last_ne (by omega) (by omega)]; exact ih
    · have e : l = i := by omega
      subst e
      have hlt := nclr_bit_lt hb
      have hc : ¬ nclr set (2 ^ l) = 0 → ∀ j, j < 18 → m_fillS rb rr ra sj n st ba bb set sl l (nclr set (2 ^ l) * 18 + j) = sl (nclr set (2 ^ l) * 18 + j) := fun _ j hj => m_fillS_out l _ (Or.inl (by omega))
      rw [m_fillS, if_neg ((ln_bit1 _ _).mpr hb), m_last_0, m_last_1, m_plain_congr hn hc, m_turn_congr hn hc]
      exact ⟨rfl, rfl⟩
theorem m_fill_row {rb rr ra sj sl : Nat → Nat} {n st ba bb : Nat} : ∀ k s j, s ≤ k → j < 18 → 1 ≤ s → m_fill rb rr ra sj n st ba bb sl k (s * 18 + j) = m_fill rb rr ra sj n st ba bb sl s (s * 18 + j)
  | 0, s, j, h, _, h1 => absurd h (by omega)
  | k + 1, s, j, h, hj, h1 => by
    rcases Nat.lt_or_ge s (k + 1) with q | q
    · rw [← m_fill_row k s j (by omega) hj h1]
      show m_fillS rb rr ra sj n st ba bb (k + 1) (m_fill rb rr ra sj n st ba bb sl k) n (s * 18 + j) = _
      exact m_fillS_out n _ (Or.inl (by omega))
    · have e : s = k + 1 := by omega
      subst e
      rfl
/-- the class's table: each entry out of the rows of smaller sets -/
theorem m_fill_tab {rb rr ra sj sl : Nat → Nat} {n st ba bb K : Nat} (hn : n ≤ 9) (s l : Nat) (hs : s ≤ K) (hl : l < n) (hb : s.testBit l = true) :
    m_fill rb rr ra sj n st ba bb sl K (s * 18 + 2 * l) = m_plain rb rr (m_fill rb rr ra sj n st ba bb sl K) sj n s l (m_ahead ra ba bb l (nclr s (2 ^ l))) ∧ m_fill rb rr ra sj n st ba bb sl K (s * 18 + 2 * l + 1) = m_turn rb rr (m_fill rb rr ra sj n st ba bb sl K) sj n st s l (m_ahead ra ba bb l (nclr s (2 ^ l))) := by
  have hlt := nclr_bit_lt hb
  obtain ⟨k, rfl⟩ : ∃ k, s = k + 1 := ⟨s - 1, by omega⟩
  have e0 := m_fill_row (rb := rb) (rr := rr) (ra := ra) (sj := sj) (sl := sl) (n := n) (st := st) (ba := ba) (bb := bb) K (k + 1) (2 * l) hs (by omega) (by omega)
  have e1 := m_fill_row (rb := rb) (rr := rr) (ra := ra) (sj := sj) (sl := sl) (n := n) (st := st) (ba := ba) (bb := bb) K (k + 1) (2 * l + 1) hs (by omega) (by omega)
  rw [← Nat.add_assoc] at e1
  have hc : ¬ nclr (k + 1) (2 ^ l) = 0 → ∀ j, j < 18 → m_fill rb rr ra sj n st ba bb sl K (nclr (k + 1) (2 ^ l) * 18 + j) = m_fill rb rr ra sj n st ba bb sl k (nclr (k + 1) (2 ^ l) * 18 + j) := fun h0 j hj => by
    rw [m_fill_row K (nclr (k + 1) (2 ^ l)) j (by omega) hj (by omega), m_fill_row k (nclr (k + 1) (2 ^ l)) j (by omega) hj (by omega)]
  have hi := m_fillS_in (rb := rb) (rr := rr) (ra := ra) (sj := sj) (sl := m_fill rb rr ra sj n st ba bb sl k) (st := st) (ba := ba) (bb := bb) (set := k + 1) hn hb n hl (Nat.le_refl _)
  rw [m_plain_congr hn hc, m_turn_congr hn hc, e0, e1]
  exact hi
/-! THE MATHEMATICS, 2: the least and the second kept -/
def kk (q : Nat × Nat) (a b : Nat) : Nat × Nat := if a < q.1 then (a, min b q.1) else (q.1, min q.2 a)
theorem kk_le {q : Nat × Nat} {a b : Nat} (h : q.1 ≤ q.2) (hab : a ≤ b) : (kk q a b).1 ≤ (kk q a b).2 := by
  unfold kk
  split
  · show a ≤ min b q.1; omega
  · show q.1 ≤ min q.2 a; omega
theorem kk_top {q : Nat × Nat} {a b N : Nat} (h1 : q.1 ≤ N) (h2 : q.2 ≤ N) : (kk q a b).1 ≤ N ∧ (kk q a b).2 ≤ N := by
  unfold kk
  split
  · exact ⟨by show a ≤ N; omega, by show min b q.1 ≤ N; omega⟩
  · exact ⟨h1, by show min q.2 a ≤ N; omega⟩
theorem kk_far {q : Nat × Nat} {a b N : Nat} (h1 : q.1 ≤ N) (h2 : q.2 ≤ N) (ha : N ≤ a) : kk q a b = q := by
  unfold kk
  rw [if_neg (by omega), Nat.min_eq_left (by omega)]
/-- the reference's two keepings are one kk -/
theorem kp2_at {p : (Nat → Nat) × (Nat → Nat)} {q one two more : Nat} (h : p.1 q ≤ p.2 q) (hN : p.2 q ≤ 1000000000) (ho : one ≤ two) (ht : two ≤ 1000000000) : ((m_kp2 p q one two more).1 q, (m_kp2 p q one two more).2 q) = kk (p.1 q, p.2 q) (one + more) (two + more) := by
  have step : ∀ (p : (Nat → Nat) × (Nat → Nat)) (c : Nat), ((m_kp p q c).1 q, (m_kp p q c).2 q) = (if c < p.1 q then (c, p.1 q) else if c < p.2 q then (p.1 q, c) else (p.1 q, p.2 q)) := by
    intro p c
    unfold m_kp m_keepL m_keepS
    dsimp only
    split
    · rw [upN_s, upN_s]
    · split
      · rw [upN_s]
      · rfl
  have s1 := step p (one + more)
  have s2 := step (m_kp p q (one + more)) (two + more)
  have f1 : (m_kp p q (one + more)).1 q = (if one + more < p.1 q then (one + more, p.1 q) else if one + more < p.2 q then (p.1 q, one + more) else (p.1 q, p.2 q)).1 := by rw [← s1]
  have f2 : (m_kp p q (one + more)).2 q = (if one + more < p.1 q then (one + more, p.1 q) else if one + more < p.2 q then (p.1 q, one + more) else (p.1 q, p.2 q)).2 := by rw [← s1]
  unfold m_kp2 kk
  split
  · rw [s2, f1, f2]
    by_cases a1 : one + more < p.1 q
    · simp only [if_pos a1]
      rw [if_neg (by omega)]
      by_cases a2 : two + more < p.1 q
      · rw [if_pos a2, Nat.min_eq_left (by omega)]
      · rw [if_neg a2, Nat.min_eq_right (by omega)]
    · simp only [if_neg a1]
      by_cases a2 : one + more < p.2 q
      · simp only [if_pos a2]
        rw [if_neg (by omega), if_neg (by omega), Nat.min_eq_right (by omega)]
      · simp only [if_neg a2]
        rw [if_neg (by omega), if_neg (by omega), Nat.min_eq_left (by omega)]
  · rw [s1]
    by_cases a1 : one + more < p.1 q
    · simp only [if_pos a1]
      rw [Nat.min_eq_right (by omega)]
    · simp only [if_neg a1]
      by_cases a2 : one + more < p.2 q
      · rw [if_pos a2, Nat.min_eq_right (by omega)]
      · rw [if_neg a2, Nat.min_eq_left (by omega)]
theorem kp2_ne {p : (Nat → Nat) × (Nat → Nat)} {q q' one two more : Nat} (h : q' ≠ q) : (m_kp2 p q one two more).1 q' = p.1 q' ∧ (m_kp2 p q one two more).2 q' = p.2 q' := by
  have step : ∀ (p : (Nat → Nat) × (Nat → Nat)) (c : Nat), (m_kp p q c).1 q' = p.1 q' ∧ (m_kp p q c).2 q' = p.2 q' := by
    intro p c
    unfold m_kp m_keepL m_keepS
    dsimp only
    split
    · rw [upN_n h, upN_n h]; exact ⟨rfl, rfl⟩
    · split
      · rw [upN_n h]; exact ⟨rfl, rfl⟩
      · exact ⟨rfl, rfl⟩
  unfold m_kp2
  split
  · have s1 := step p (one + more)
    have s2 := step (m_kp p q (one + more)) (two + more)
    exact ⟨s2.1.trans s1.1, s2.2.trans s1.2⟩
  · exact step p _
/-! THE MATHEMATICS, 3: the reference's table -/
theorem goT_at {J : Nat → Nat → Nat} {tw set last turn one two l : Nat} {p : (Nat → Nat) × (Nat → Nat)} {q t0 : Nat} (ho : one ≤ two) (ht : two ≤ 1000000000) (hq : q = 18 * (set ||| 2 ^ l) + 2 * l + t0) (hp : p.1 q ≤ p.2 q) (hN : p.2 q ≤ 1000000000) :
    ∀ t, ((m_goT J tw set last turn one two l p t).1 q, (m_goT J tw set last turn one two l p t).2 q) = if t0 < t then kk (p.1 q, p.2 q) (one + (J (2 * last + turn) (2 * l + t0) + t0 * tw)) (two + (J (2 * last + turn) (2 * l + t0) + t0 * tw)) else (p.1 q, p.2 q)
  | 0 => by rw [if_neg (Nat.not_lt_zero _)]; rfl
  | t + 1 => by
    have ih := goT_at (J := J) (tw := tw) (last := last) (turn := turn) ho ht hq hp hN t
    by_cases e : t = t0
    · subst e
      rw [if_neg (Nat.lt_irrefl _)] at ih
      have e1 : (m_goT J tw set last turn one two l p t).1 q = p.1 q := (Prod.mk.inj ih).1
      have e2 : (m_goT J tw set last turn one two l p t).2 q = p.2 q := (Prod.mk.inj ih).2
      rw [if_pos (Nat.lt_succ_self _), m_goT, ← hq, kp2_at (by rw [e1, e2]; exact hp) (by rw [e2]; exact hN) ho ht, e1, e2]
    · have hne : q ≠ 18 * (set ||| 2 ^ l) + 2 * l + t := by omega
      have k2 := kp2_ne (p := m_goT J tw set last turn one two l p t) (one := one) (two := two) (more := J (2 * last + turn) (2 * l + t) + t * tw) hne
      rw [m_goT, k2.1, k2.2, ih]
      by_cases a : t0 < t
      · rw [if_pos a, if_pos (by omega)]
      · rw [if_neg a, if_neg (by omega)]
theorem goT_ne {J : Nat → Nat → Nat} {tw set last turn one two l : Nat} {p : (Nat → Nat) × (Nat → Nat)} {q : Nat} : ∀ t, (∀ t0, t0 < t → q ≠ 18 * (set ||| 2 ^ l) + 2 * l + t0) → (m_goT J tw set last turn one two l p t).1 q = p.1 q ∧ (m_goT J tw set last turn one two l p t).2 q = p.2 q
  | 0, _ => ⟨rfl, rfl⟩
  | t + 1, h => by
    have ih := goT_ne (J := J) (tw := tw) (set := set) (last := last) (turn := turn) (one := one) (two := two) (l := l) (p := p) t (fun t0 h0 => h t0 (by omega))
    have k2 := kp2_ne (p := m_goT J tw set last turn one two l p t) (one := one) (two := two) (more := J (2 * last + turn) (2 * l + t) + t * tw) (h t (by omega))
    rw [m_goT]
    exact ⟨k2.1.trans ih.1, k2.2.trans ih.2⟩
/-- does a step from set reach the row s at the stand j -/
def reach (n ways set s j : Nat) : Prop := j / 2 < n ∧ j % 2 < ways ∧ (set >>> (j / 2)) &&& 1 = 0 ∧ set ||| 2 ^ (j / 2) = s
theorem go_at {J : Nat → Nat → Nat} {gA gJ : Nat → Nat} {B : Nat → Nat → Prop} {n tw ways set last turn one two : Nat} {p : (Nat → Nat) × (Nat → Nat)} {s j : Nat} (hn : n ≤ 9) (hw : ways ≤ 2) (hj : j < 18) (ho : one ≤ two) (ht : two ≤ 1000000000) (hp : p.1 (18 * s + j) ≤ p.2 (18 * s + j)) (hN : p.2 (18 * s + j) ≤ 1000000000) :
    ∀ k, k ≤ n → ((m_go J gA gJ B n tw ways set last turn one two p k).1 (18 * s + j), (m_go J gA gJ B n tw ways set last turn one two p k).2 (18 * s + j)) = cif (j / 2 < k ∧ reach n ways set s j ∧ m_may gA gJ n set last (j / 2) ∧ ¬ B last (j / 2)) (kk (p.1 (18 * s + j), p.2 (18 * s + j)) (one + (J (2 * last + turn) j + (j % 2) * tw)) (two + (J (2 * last + turn) j + (j % 2) * tw))) (p.1 (18 * s + j), p.2 (18 * s + j))
  | 0, _ => by rw [cif_f (fun q => absurd q.1 (Nat.not_lt_zero _))]; rfl
  | k + 1, hk => by
    have ih := go_at (J := J) (gA := gA) (gJ := gJ) (B := B) (tw := tw) (set := set) (last := last) (turn := turn) hn hw hj ho ht hp hN k (by omega)
    by_cases e : j / 2 = k
    · have ih0 : ((m_go J gA gJ B n tw ways set last turn one two p k).1 (18 * s + j), (m_go J gA gJ B n tw ways set last turn one two p k).2 (18 * s + j)) = (p.1 (18 * s + j), p.2 (18 * s + j)) := by
        rw [ih, cif_f (fun q => absurd q.1 (by omega))]
      have e1 := (Prod.mk.inj ih0).1
      have e2 := (Prod.mk.inj ih0).2
      by_cases c : (set >>> k) &&& 1 = 0 ∧ m_may gA gJ n set last k ∧ ¬ B last k
      · rw [m_go, cif_t c]
        by_cases d : set ||| 2 ^ k = s
        · have hq : 18 * s + j = 18 * (set ||| 2 ^ k) + 2 * k + j % 2 := by rw [d]; omega
          have g := goT_at (J := J) (tw := tw) (set := set) (last := last) (turn := turn) (l := k) (p := m_go J gA gJ B n tw ways set last turn one two p k) ho ht hq (by rw [e1, e2]; exact hp) (by rw [e2]; exact hN) ways
          rw [g, e1, e2, show 2 * k + j % 2 = j by omega]
          by_cases w : j % 2 < ways
          · rw [if_pos w, cif_t ⟨by omega, ⟨by omega, w, by rw [e]; exact c.1, by rw [e]; exact d⟩, by rw [e]; exact c.2.1, by rw [e]; exact c.2.2⟩]
          · rw [if_neg w, cif_f (fun q => w q.2.1.2.1)]
        · have g := goT_ne (J := J) (tw := tw) (set := set) (last := last) (turn := turn) (one := one) (two := two) (l := k) (p := m_go J gA gJ B n tw ways set last turn one two p k) (q := 18 * s + j) ways (fun t0 h0 z => d (by omega))
          rw [g.1, g.2, ih0, cif_f (fun q => d (by have := q.2.1.2.2.2; rw [e] at this; exact this))]
      · rw [m_go, cif_f c, ih0, cif_f (fun q => c (by have q1 := q.2.1.2.2.1; have q2 := q.2.2.1; have q3 := q.2.2.2; rw [e] at q1 q2 q3; exact ⟨q1, q2, q3⟩))]
    · have ih1 : ∀ x y : Nat × Nat, cif (j / 2 < k ∧ reach n ways set s j ∧ m_may gA gJ n set last (j / 2) ∧ ¬ B last (j / 2)) x y = cif (j / 2 < k + 1 ∧ reach n ways set s j ∧ m_may gA gJ n set last (j / 2) ∧ ¬ B last (j / 2)) x y := by
        intro x y
        by_cases c : j / 2 < k ∧ reach n ways set s j ∧ m_may gA gJ n set last (j / 2) ∧ ¬ B last (j / 2)
        · rw [cif_t c, cif_t ⟨by omega, c.2⟩]
        · rw [cif_f c, cif_f (fun q => c ⟨by omega, q.2⟩)]
      rw [← ih1, ← ih, m_go]
      by_cases c : (set >>> k) &&& 1 = 0 ∧ m_may gA gJ n set last k ∧ ¬ B last k
      · have g := goT_ne (J := J) (tw := tw) (set := set) (last := last) (turn := turn) (one := one) (two := two) (l := k) (p := m_go J gA gJ B n tw ways set last turn one two p k) (q := 18 * s + j) ways (fun t0 h0 z => e (by omega))
        rw [cif_t c, g.1, g.2]
      · rw [cif_f c]
theorem reach_lt {n ways set s j : Nat} (h : reach n ways set s j) : set < s ∧ s.testBit (j / 2) = true ∧ set = nclr s (2 ^ (j / 2)) := by
  obtain ⟨h1, h2, h3, h4⟩ := h
  have hb : set.testBit (j / 2) = false := (ln_bit0 _ _).mp h3
  have hs : s.testBit (j / 2) = true := by rw [← h4, Nat.testBit_or, Nat.testBit_two_pow_self, Bool.or_true]
  have e : set = nclr s (2 ^ (j / 2)) := by
    apply Nat.eq_of_testBit_eq
    intro i
    rw [nclr_t, ← h4, Nat.testBit_or, Nat.testBit_two_pow]
    by_cases q : j / 2 = i
    · subst q; simp [hb]
    · simp [q]
  exact ⟨by rw [e]; exact nclr_bit_lt hs, hs, e⟩
theorem reach_of {n ways s j : Nat} (h1 : j / 2 < n) (h2 : j % 2 < ways) (hs : s.testBit (j / 2) = true) : reach n ways (nclr s (2 ^ (j / 2))) s j := by
  refine ⟨h1, h2, (ln_bit0 _ _).mpr (by rw [nclr_t, Nat.testBit_two_pow_self]; simp), ?_⟩
  apply Nat.eq_of_testBit_eq
  intro i
  rw [Nat.testBit_or, nclr_t, Nat.testBit_two_pow]
  by_cases q : j / 2 = i
  · subst q; simp [hs]
  · simp [q]
/-- the pairs kept, over the first i stands -/
noncomputable def kf (ok : Nat → Prop) (c1 c2 : Nat → Nat) (q0 : Nat × Nat) : Nat → Nat × Nat
  | 0 => q0
  | i + 1 => cif (ok i) (kk (kf ok c1 c2 q0 i) (c1 i) (c2 i)) (kf ok c1 c2 q0 i)
theorem kf_le {ok : Nat → Prop} {c1 c2 : Nat → Nat} {q0 : Nat × Nat} (h : q0.1 ≤ q0.2) (hc : ∀ i, c1 i ≤ c2 i) : ∀ i, (kf ok c1 c2 q0 i).1 ≤ (kf ok c1 c2 q0 i).2
  | 0 => h
  | i + 1 => by
    have ih := kf_le (ok := ok) h hc i
    by_cases o : ok i
    · rw [kf, cif_t o]; exact kk_le ih (hc i)
    · rw [kf, cif_f o]; exact ih
theorem kf_le' {ok : Nat → Prop} {c1 c2 : Nat → Nat} {q0 : Nat × Nat} (h : q0.1 ≤ q0.2) : ∀ i, (∀ k, k < i → c1 k ≤ c2 k) → (kf ok c1 c2 q0 i).1 ≤ (kf ok c1 c2 q0 i).2
  | 0, _ => h
  | i + 1, hc => by
    have ih := kf_le' (ok := ok) h i (fun k hk => hc k (by omega))
    by_cases o : ok i
    · rw [kf, cif_t o]; exact kk_le ih (hc i (by omega))
    · rw [kf, cif_f o]; exact ih
theorem kf_top {ok : Nat → Prop} {c1 c2 : Nat → Nat} {q0 : Nat × Nat} {N : Nat} (h1 : q0.1 ≤ N) (h2 : q0.2 ≤ N) : ∀ i, (kf ok c1 c2 q0 i).1 ≤ N ∧ (kf ok c1 c2 q0 i).2 ≤ N
  | 0 => ⟨h1, h2⟩
  | i + 1 => by
    have ih := kf_top (ok := ok) (c1 := c1) (c2 := c2) h1 h2 i
    by_cases o : ok i
    · rw [kf, cif_t o]; exact kk_top ih.1 ih.2
    · rw [kf, cif_f o]; exact ih
theorem kf_no {ok : Nat → Prop} {c1 c2 : Nat → Nat} {q0 : Nat × Nat} (h : ∀ i, ¬ ok i) : ∀ i, kf ok c1 c2 q0 i = q0
  | 0 => rfl
  | i + 1 => by rw [kf, cif_f (h i)]; exact kf_no h i
theorem kf_congr {ok ok' : Nat → Prop} {c1 c2 c1' c2' : Nat → Nat} {q0 : Nat × Nat} : ∀ i, (∀ k, k < i → (ok k ↔ ok' k) ∧ (ok k → c1 k = c1' k ∧ c2 k = c2' k)) → kf ok c1 c2 q0 i = kf ok' c1' c2' q0 i
  | 0, _ => rfl
  | i + 1, h => by
    have ih := kf_congr (ok := ok) (ok' := ok') (c1 := c1) (c2 := c2) (c1' := c1') (c2' := c2') (q0 := q0) i (fun k hk => h k (by omega))
    have hi := h i (by omega)
    by_cases o : ok i
    · rw [kf, kf, cif_t o, cif_t (hi.1.mp o), ih, (hi.2 o).1, (hi.2 o).2]
    · rw [kf, kf, cif_f o, cif_f (fun q => o (hi.1.mpr q)), ih]
def okR (gA gJ : Nat → Nat) (B : Nat → Nat → Prop) (n ways set s j : Nat) (i : Nat) : Prop := i % 2 < ways ∧ reach n ways set s j ∧ m_may gA gJ n set (i / 2) (j / 2) ∧ ¬ B (i / 2) (j / 2)
def cR (J : Nat → Nat → Nat) (tw : Nat) (f : Nat → Nat) (set j : Nat) (i : Nat) : Nat := f (18 * set + i) + (J i j + (j % 2) * tw)
/-- what holds of the pair of rows all along -/
def fineP (N : Nat) (p : (Nat → Nat) × (Nat → Nat)) : Prop := ∀ q, q < N → p.1 q ≤ p.2 q ∧ p.2 q ≤ 1000000000
theorem okR_set {gA gJ : Nat → Nat} {B : Nat → Nat → Prop} {n ways set j i : Nat} : ¬ okR gA gJ B n ways set set j i := fun h => Nat.lt_irrefl _ (reach_lt h.2.1).1
theorem cR_le {J : Nat → Nat → Nat} {tw set j i N : Nat} {p : (Nat → Nat) × (Nat → Nat)} (h : fineP N p) (hi : 18 * set + i < N) : cR J tw p.1 set j i ≤ cR J tw p.2 set j i := by
  unfold cR
  have := (h _ hi).1
  omega
theorem orT_at {J : Nat → Nat → Nat} {gA gJ : Nat → Nat} {B : Nat → Nat → Prop} {n tw ways set last : Nat} {p0 p : (Nat → Nat) × (Nat → Nat)} (hn : n ≤ 9) (hw : ways ≤ 2) (hl : last < n) (hset : set < 2 ^ n) (hf : fineP (18 * 2 ^ n) p0)
    (hat : ∀ s j, s < 2 ^ n → j < 18 → (p.1 (18 * s + j), p.2 (18 * s + j)) = kf (okR gA gJ B n ways set s j) (cR J tw p0.1 set j) (cR J tw p0.2 set j) (p0.1 (18 * s + j), p0.2 (18 * s + j)) (2 * last)) :
    ∀ t, t ≤ ways → ∀ s j, s < 2 ^ n → j < 18 → ((m_orT J gA gJ B n tw ways set last p t).1 (18 * s + j), (m_orT J gA gJ B n tw ways set last p t).2 (18 * s + j)) = kf (okR gA gJ B n ways set s j) (cR J tw p0.1 set j) (cR J tw p0.2 set j) (p0.1 (18 * s + j), p0.2 (18 * s + j)) (2 * last + t)
  | 0, _, s, j, hs, hj => hat s j hs hj
  | t + 1, ht, s, j, hs, hj => by
    have ih := orT_at (tw := tw) hn hw hl hset hf hat t (by omega)
    have row := ih set (2 * last + t) hset (by omega)
    rw [kf_no (fun _ => okR_set)] at row
    rw [← Nat.add_assoc] at row
    have r1 := (Prod.mk.inj row).1
    have r2 := (Prod.mk.inj row).2
    have f0 := hf (18 * set + 2 * last + t) (by omega)
    have here := ih s j hs hj
    have h1 := (Prod.mk.inj here).1
    have h2 := (Prod.mk.inj here).2
    have fq := hf (18 * s + j) (by omega)
    have top := kf_top (ok := okR gA gJ B n ways set s j) (c1 := cR J tw p0.1 set j) (c2 := cR J tw p0.2 set j) (q0 := (p0.1 (18 * s + j), p0.2 (18 * s + j))) (N := 1000000000) (Nat.le_trans fq.1 fq.2) fq.2 (2 * last + t)
    show _ = cif (okR gA gJ B n ways set s j (2 * last + t)) (kk (kf _ _ _ _ (2 * last + t)) (cR J tw p0.1 set j (2 * last + t)) (cR J tw p0.2 set j (2 * last + t))) (kf _ _ _ _ (2 * last + t))
    rw [← here]
    have ec1 : cR J tw p0.1 set j (2 * last + t) = p0.1 (18 * set + 2 * last + t) + (J (2 * last + t) j + (j % 2) * tw) := by unfold cR; rw [show 18 * set + (2 * last + t) = 18 * set + 2 * last + t by omega]
    have ec2 : cR J tw p0.2 set j (2 * last + t) = p0.2 (18 * set + 2 * last + t) + (J (2 * last + t) j + (j % 2) * tw) := by unfold cR; rw [show 18 * set + (2 * last + t) = 18 * set + 2 * last + t by omega]
    rw [ec1, ec2]
    have e2 : (2 * last + t) / 2 = last := by omega
    have e3 : (2 * last + t) % 2 = t := by omega
    by_cases c : (m_orT J gA gJ B n tw ways set last p t).1 (18 * set + 2 * last + t) < 1000000000
    · rw [m_orT, if_pos c, r1, r2]
      have hmono : (m_orT J gA gJ B n tw ways set last p t).1 (18 * s + j) ≤ (m_orT J gA gJ B n tw ways set last p t).2 (18 * s + j) := by
        have le := kf_le' (ok := okR gA gJ B n ways set s j) (c1 := cR J tw p0.1 set j) (c2 := cR J tw p0.2 set j) (q0 := (p0.1 (18 * s + j), p0.2 (18 * s + j))) fq.1 (2 * last + t) (fun i hi => cR_le hf (by omega))
        rw [← here] at le
        exact le
      have hN : (m_orT J gA gJ B n tw ways set last p t).2 (18 * s + j) ≤ 1000000000 := by rw [h2]; exact top.2
      rw [go_at hn hw hj f0.1 f0.2 hmono hN n (Nat.le_refl _)]
      by_cases o : okR gA gJ B n ways set s j (2 * last + t)
      · rw [cif_t o, cif_t ⟨o.2.1.1, o.2.1, by have := o.2.2.1; rw [e2] at this; exact this, by have := o.2.2.2; rw [e2] at this; exact this⟩]
      · rw [cif_f o, cif_f (fun q => o ⟨by omega, q.2.1, by rw [e2]; exact q.2.2.1, by rw [e2]; exact q.2.2.2⟩)]
    · rw [m_orT, if_neg c]
      rw [r1] at c
      have hfar : kk ((m_orT J gA gJ B n tw ways set last p t).1 (18 * s + j), (m_orT J gA gJ B n tw ways set last p t).2 (18 * s + j)) (p0.1 (18 * set + 2 * last + t) + (J (2 * last + t) j + (j % 2) * tw)) (p0.2 (18 * set + 2 * last + t) + (J (2 * last + t) j + (j % 2) * tw)) = ((m_orT J gA gJ B n tw ways set last p t).1 (18 * s + j), (m_orT J gA gJ B n tw ways set last p t).2 (18 * s + j)) :=
        kk_far (N := 1000000000) (by show (m_orT J gA gJ B n tw ways set last p t).1 (18 * s + j) ≤ _; rw [h1]; exact top.1) (by show (m_orT J gA gJ B n tw ways set last p t).2 (18 * s + j) ≤ _; rw [h2]; exact top.2) (by omega)
      by_cases o : okR gA gJ B n ways set s j (2 * last + t)
      · rw [cif_t o, hfar]
      · rw [cif_f o]
theorem orL_at {J : Nat → Nat → Nat} {gA gJ : Nat → Nat} {B : Nat → Nat → Prop} {n tw ways set : Nat} {p0 : (Nat → Nat) × (Nat → Nat)} (hn : n ≤ 9) (hw : ways ≤ 2) (hw1 : 1 ≤ ways) (hset : set < 2 ^ n) (hf : fineP (18 * 2 ^ n) p0) :
    ∀ k, k ≤ n → ∀ s j, s < 2 ^ n → j < 18 → ((m_orL J gA gJ B n tw ways set p0 k).1 (18 * s + j), (m_orL J gA gJ B n tw ways set p0 k).2 (18 * s + j)) = kf (okR gA gJ B n ways set s j) (cR J tw p0.1 set j) (cR J tw p0.2 set j) (p0.1 (18 * s + j), p0.2 (18 * s + j)) (2 * k)
  | 0, _, s, j, hs, hj => rfl
  | k + 1, hk, s, j, hs, hj => by
    have ih := orL_at (J := J) (gA := gA) (gJ := gJ) (B := B) (tw := tw) hn hw hw1 hset hf k (by omega)
    have g := orT_at (J := J) (tw := tw) hn hw (show k < n by omega) hset hf ih ways (Nat.le_refl _) s j hs hj
    rw [m_orL, g]
    rcases (show ways = 1 ∨ ways = 2 by omega) with e | e
    · rw [e, show 2 * (k + 1) = 2 * k + 1 + 1 by omega]
      conv => rhs; rw [kf, cif_f (fun (q : okR gA gJ B n 1 set s j (2 * k + 1)) => absurd q.1 (by omega))]
    · rw [e, show 2 * (k + 1) = 2 * k + 2 by omega]
/-- the pair behind the sets 1 .. k -/
theorem or_at {J : Nat → Nat → Nat} {gA gJ : Nat → Nat} {B : Nat → Nat → Prop} {n tw ways : Nat} {p0 : (Nat → Nat) × (Nat → Nat)} (hn : n ≤ 9) (hw : ways ≤ 2) (hw1 : 1 ≤ ways) (hf : fineP (18 * 2 ^ n) p0) :
    ∀ k, k < 2 ^ n → fineP (18 * 2 ^ n) (m_or J gA gJ B n tw ways p0 k) ∧ ∀ s j, s < 2 ^ n → j < 18 → ((m_or J gA gJ B n tw ways p0 k).1 (18 * s + j), (m_or J gA gJ B n tw ways p0 k).2 (18 * s + j)) = cif (1 ≤ nclr s (2 ^ (j / 2)) ∧ nclr s (2 ^ (j / 2)) ≤ k ∧ reach n ways (nclr s (2 ^ (j / 2))) s j) (kf (okR gA gJ B n ways (nclr s (2 ^ (j / 2))) s j) (cR J tw (m_or J gA gJ B n tw ways p0 (nclr s (2 ^ (j / 2)) - 1)).1 (nclr s (2 ^ (j / 2))) j) (cR J tw (m_or J gA gJ B n tw ways p0 (nclr s (2 ^ (j / 2)) - 1)).2 (nclr s (2 ^ (j / 2))) j) (p0.1 (18 * s + j), p0.2 (18 * s + j)) (2 * n)) (p0.1 (18 * s + j), p0.2 (18 * s + j))
  | 0, _ => ⟨hf, fun s j hs hj => by rw [cif_f (fun q => absurd q.2.1 (by omega))]; rfl⟩
  | k + 1, hk => by
    obtain ⟨ihf, ih⟩ := or_at (J := J) (gA := gA) (gJ := gJ) (B := B) (tw := tw) hn hw hw1 hf k (by omega)
    have g := orL_at (J := J) (gA := gA) (gJ := gJ) (B := B) (tw := tw) hn hw hw1 hk ihf n (Nat.le_refl _)
    constructor
    · intro q hq
      have e := g (q / 18) (q % 18) (by omega) (by omega)
      rw [show 18 * (q / 18) + q % 18 = q by omega] at e
      have f0 := ihf q hq
      have le := kf_le' (ok := okR gA gJ B n ways (k + 1) (q / 18) (q % 18)) (c1 := cR J tw (m_or J gA gJ B n tw ways p0 k).1 (k + 1) (q % 18)) (c2 := cR J tw (m_or J gA gJ B n tw ways p0 k).2 (k + 1) (q % 18)) (q0 := ((m_or J gA gJ B n tw ways p0 k).1 q, (m_or J gA gJ B n tw ways p0 k).2 q)) f0.1 (2 * n) (fun i hi => cR_le ihf (by omega))
      have top := kf_top (ok := okR gA gJ B n ways (k + 1) (q / 18) (q % 18)) (c1 := cR J tw (m_or J gA gJ B n tw ways p0 k).1 (k + 1) (q % 18)) (c2 := cR J tw (m_or J gA gJ B n tw ways p0 k).2 (k + 1) (q % 18)) (q0 := ((m_or J gA gJ B n tw ways p0 k).1 q, (m_or J gA gJ B n tw ways p0 k).2 q)) (N := 1000000000) (Nat.le_trans f0.1 f0.2) f0.2 (2 * n)
      rw [← e] at le top
      exact ⟨le, top.2⟩
    · intro s j hs hj
      show ((m_orL J gA gJ B n tw ways (k + 1) (m_or J gA gJ B n tw ways p0 k) n).1 (18 * s + j), (m_orL J gA gJ B n tw ways (k + 1) (m_or J gA gJ B n tw ways p0 k) n).2 (18 * s + j)) = _
      rw [g s j hs hj]
      by_cases r : reach n ways (k + 1) s j
      · have e := (reach_lt r).2.2
        rw [ih s j hs hj, cif_f (fun q => absurd q.2.1 (by omega)), ← e, cif_t ⟨by omega, Nat.le_refl _, r⟩, Nat.add_sub_cancel]
      · rw [kf_no (fun i q => r q.2.1), ih s j hs hj]
        by_cases c : 1 ≤ nclr s (2 ^ (j / 2)) ∧ nclr s (2 ^ (j / 2)) ≤ k ∧ reach n ways (nclr s (2 ^ (j / 2))) s j
        · rw [cif_t c, cif_t ⟨c.1, by omega, c.2.2⟩]
        · rw [cif_f c, cif_f (fun q => c ⟨q.1, by
            rcases Nat.lt_or_ge k (nclr s (2 ^ (j / 2))) with z | z
            · exact absurd (show reach n ways (k + 1) s j by rw [show k + 1 = nclr s (2 ^ (j / 2)) by omega]; exact q.2.2) r
            · exact z, q.2.2⟩)]

theorem m_nev_at (f : Nat → Nat) : ∀ k q, m_nev f k q = if q < k then 1000000000 else f q
  | 0, q => by rw [if_neg (Nat.not_lt_zero _)]; rfl
  | k + 1, q => by
    have ih := m_nev_at f k q
    rw [m_nev]
    by_cases e : q = k
    · subst e; rw [upN_s, if_pos (Nat.lt_succ_self _)]
    · rw [upN_n e, ih]
      by_cases a : q < k
      · rw [if_pos a, if_pos (by omega)]
      · rw [if_neg a, if_neg (by omega)]
theorem m_baT_at {tw l : Nat} {f : Nat → Nat} {s j : Nat} (hj : j < 18) (hl : l < 9) : ∀ t, t ≤ 2 → m_baT tw l f t (18 * s + j) = cif (s = 2 ^ l ∧ j / 2 = l ∧ j % 2 < t) ((j % 2) * tw) (f (18 * s + j))
  | 0, _ => by rw [cif_f (fun q => absurd q.2.2 (Nat.not_lt_zero _))]; rfl
  | t + 1, ht => by
    have ih := m_baT_at (tw := tw) (l := l) (f := f) (s := s) hj hl t (by omega)
    rw [m_baT]
    by_cases e : 18 * s + j = 18 * 2 ^ l + 2 * l + t
    · rw [e, upN_s, cif_t ⟨by omega, by omega, by omega⟩, show j % 2 = t by omega]
    · rw [upN_n e, ih]
      by_cases c : s = 2 ^ l ∧ j / 2 = l ∧ j % 2 < t
      · rw [cif_t c, cif_t ⟨c.1, c.2.1, by omega⟩]
      · rw [cif_f c, cif_f (fun q => c ⟨q.1, q.2.1, by
          have h1 := q.1
          have h2 := q.2.1
          have h3 := q.2.2
          rcases Nat.lt_or_ge (j % 2) t with z | z
          · exact z
          · exact absurd (by rw [← h1]; omega) e⟩)]
theorem m_ba_at {tw ways : Nat} {f : Nat → Nat} {s j : Nat} (hj : j < 18) (hw : ways ≤ 2) : ∀ n, n ≤ 9 → m_ba tw ways f n (18 * s + j) = cif (s = 2 ^ (j / 2) ∧ j / 2 < n ∧ j % 2 < ways) ((j % 2) * tw) (f (18 * s + j))
  | 0, _ => by rw [cif_f (fun q => absurd q.2.1 (Nat.not_lt_zero _))]; rfl
  | l + 1, hl => by
    have ih := m_ba_at (tw := tw) (ways := ways) (f := f) (s := s) hj hw l (by omega)
    rw [m_ba, m_baT_at hj (by omega) ways hw, ih]
    by_cases c : s = 2 ^ l ∧ j / 2 = l ∧ j % 2 < ways
    · rw [cif_t c, cif_t ⟨by rw [c.2.1]; exact c.1, by omega, c.2.2⟩]
    · rw [cif_f c]
      by_cases d : s = 2 ^ (j / 2) ∧ j / 2 < l ∧ j % 2 < ways
      · rw [cif_t d, cif_t ⟨d.1, by omega, d.2.2⟩]
      · rw [cif_f d, cif_f (fun q => by
          rcases Nat.lt_or_ge (j / 2) l with z | z
          · exact d ⟨q.1, z, q.2.2⟩
          · have e : j / 2 = l := by omega
            exact c ⟨by rw [← e]; exact q.1, e, q.2.2⟩)]
/-- THE REFERENCE'S TABLE -/
theorem ord_tab {J : Nat → Nat → Nat} {gA gJ : Nat → Nat} {B : Nat → Nat → Prop} {n tw ways : Nat} {ml0 m20 ml m2 : Nat → Nat} (hn : n ≤ 9) (hw : ways ≤ 2) (hw1 : 1 ≤ ways) (htw : tw ≤ 999) (h : (ml, m2) = m_ord J gA gJ B n tw ways ml0 m20) :
    fineP (18 * 2 ^ n) (ml, m2) ∧ ∀ s j, s < 2 ^ n → j < 18 →
      (¬ (s.testBit (j / 2) = true ∧ j % 2 < ways) → (ml (18 * s + j), m2 (18 * s + j)) = (1000000000, 1000000000)) ∧
      (s = 2 ^ (j / 2) → j % 2 < ways → (ml (18 * s + j), m2 (18 * s + j)) = ((j % 2) * tw, 1000000000)) ∧
      (s.testBit (j / 2) = true → j % 2 < ways → ¬ nclr s (2 ^ (j / 2)) = 0 → (ml (18 * s + j), m2 (18 * s + j)) = kf (fun i => i % 2 < ways ∧ m_may gA gJ n (nclr s (2 ^ (j / 2))) (i / 2) (j / 2) ∧ ¬ B (i / 2) (j / 2)) (cR J tw ml (nclr s (2 ^ (j / 2))) j) (cR J tw m2 (nclr s (2 ^ (j / 2))) j) (1000000000, 1000000000) (2 * n)) := by
  have hb : ∀ s j, s < 2 ^ n → j < 18 → m_ba tw ways (m_nev ml0 (18 * 2 ^ n)) n (18 * s + j) = cif (s = 2 ^ (j / 2) ∧ j / 2 < n ∧ j % 2 < ways) ((j % 2) * tw) 1000000000 := fun s j hs hj => by
    rw [m_ba_at hj hw n hn, m_nev_at, if_pos (by omega)]
  have h2 : ∀ s j, s < 2 ^ n → j < 18 → m_nev m20 (18 * 2 ^ n) (18 * s + j) = 1000000000 := fun s j hs hj => by
    rw [m_nev_at, if_pos (by omega)]
  have hsmall : ∀ j : Nat, (j % 2) * tw ≤ 1000000000 := fun j => Nat.le_trans (Nat.mul_le_mul (show j % 2 ≤ 1 by omega) htw) (by decide)
  have hf : fineP (18 * 2 ^ n) (m_ba tw ways (m_nev ml0 (18 * 2 ^ n)) n, m_nev m20 (18 * 2 ^ n)) := by
    intro q hq
    have e1 := hb (q / 18) (q % 18) (by omega) (by omega)
    have e2 := h2 (q / 18) (q % 18) (by omega) (by omega)
    rw [show 18 * (q / 18) + q % 18 = q by omega] at e1 e2
    show m_ba tw ways (m_nev ml0 (18 * 2 ^ n)) n q ≤ m_nev m20 (18 * 2 ^ n) q ∧ m_nev m20 (18 * 2 ^ n) q ≤ 1000000000
    rw [e1, e2]
    refine ⟨?_, Nat.le_refl _⟩
    by_cases c : q / 18 = 2 ^ (q % 18 / 2) ∧ q % 18 / 2 < n ∧ q % 18 % 2 < ways
    · rw [cif_t c]; exact hsmall _
    · rw [cif_f c]; exact Nat.le_refl _
  have hp1 := ln_one_two_pow n
  unfold m_ord at h
  have O := or_at (J := J) (gA := gA) (gJ := gJ) (B := B) (tw := tw) hn hw hw1 hf
  obtain ⟨Of, Oa⟩ := O (2 ^ n - 1) (by omega)
  rw [← h] at Of Oa
  refine ⟨Of, fun s j hs hj => ?_⟩
  have A := Oa s j hs hj
  have hlt : s.testBit (j / 2) = true → j / 2 < n := fun q => by
    rcases Nat.lt_or_ge (j / 2) n with z | z
    · exact z
    · have := Nat.testBit_lt_two_pow (Nat.lt_of_lt_of_le hs (Nat.pow_le_pow_right (by decide) z))
      rw [this] at q; cases q
  dsimp only at A
  rw [hb s j hs hj, h2 s j hs hj] at A
  refine ⟨fun c => ?_, fun c1 c2 => ?_, fun c1 c2 c3 => ?_⟩
  · rw [A, cif_f (fun q => c ⟨(reach_lt q.2.2).2.1, q.2.2.2.1⟩), cif_f (fun q => c ⟨by rw [q.1]; exact Nat.testBit_two_pow_self, q.2.2⟩)]
  · have hbit : s.testBit (j / 2) = true := by rw [c1]; exact Nat.testBit_two_pow_self
    have z : nclr s (2 ^ (j / 2)) = 0 := by
      apply Nat.eq_of_testBit_eq
      intro i
      rw [nclr_t, Nat.zero_testBit]
      conv => lhs; rw [show s = 2 ^ (j / 2) from c1]
      cases (2 ^ (j / 2)).testBit i <;> rfl
    rw [A, cif_f (fun q => absurd q.1 (by rw [z]; decide)), cif_t ⟨c1, hlt hbit, c2⟩]
  · have hr := reach_of (n := n) (ways := ways) (hlt c1) c2 c1
    have hl := reach_lt hr
    rw [A, cif_t ⟨by omega, by omega, hr⟩, cif_f (fun q => c3 (by
      apply Nat.eq_of_testBit_eq
      intro i
      rw [nclr_t, Nat.zero_testBit]
      conv => lhs; rw [show s = 2 ^ (j / 2) from q.1]
      cases (2 ^ (j / 2)).testBit i <;> rfl))]
    apply kf_congr
    intro i hi
    have hrow : ((m_or J gA gJ B n tw ways (m_ba tw ways (m_nev ml0 (18 * 2 ^ n)) n, m_nev m20 (18 * 2 ^ n)) (nclr s (2 ^ (j / 2)) - 1)).1 (18 * nclr s (2 ^ (j / 2)) + i), (m_or J gA gJ B n tw ways (m_ba tw ways (m_nev ml0 (18 * 2 ^ n)) n, m_nev m20 (18 * 2 ^ n)) (nclr s (2 ^ (j / 2)) - 1)).2 (18 * nclr s (2 ^ (j / 2)) + i)) = (ml (18 * nclr s (2 ^ (j / 2)) + i), m2 (18 * nclr s (2 ^ (j / 2)) + i)) := by
      have a1 := (O (nclr s (2 ^ (j / 2)) - 1) (by omega)).2 (nclr s (2 ^ (j / 2))) i (by omega) (by omega)
      have a2 := Oa (nclr s (2 ^ (j / 2))) i (by omega) (by omega)
      rw [a1, a2]
      by_cases c : 1 ≤ nclr (nclr s (2 ^ (j / 2))) (2 ^ (i / 2)) ∧ nclr (nclr s (2 ^ (j / 2))) (2 ^ (i / 2)) ≤ nclr s (2 ^ (j / 2)) - 1 ∧ reach n ways (nclr (nclr s (2 ^ (j / 2))) (2 ^ (i / 2))) (nclr s (2 ^ (j / 2))) i
      · rw [cif_t c, cif_t ⟨c.1, by omega, c.2.2⟩]
      · rw [cif_f c, cif_f (fun q => c ⟨q.1, by have := (reach_lt q.2.2).1; omega, q.2.2⟩)]
    refine ⟨⟨fun q => ⟨q.1, q.2.2.1, q.2.2.2⟩, fun q => ⟨q.1, hr, q.2.1, q.2.2⟩⟩, fun _ => ?_⟩
    unfold cR
    rw [(Prod.mk.inj hrow).1, (Prod.mk.inj hrow).2]
    exact ⟨rfl, rfl⟩
