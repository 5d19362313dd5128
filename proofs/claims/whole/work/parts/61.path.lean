/-! the way of the best order, by places: what the reference's reading finds -/
def cndP (J : Nat → Nat → Nat) (tw n : Nat) (gA gJ ml : Nat → Nat) (best : Nat) (so Sp : Nat → Nat) (p i : Nat) : Prop := ¬ ml (18 * Sp p + i) = 1000000000 ∧ (p + 1 < n → m_may gA gJ n (Sp p) (i / 2) (so (p + 1) / 2)) ∧ ml (18 * Sp p + i) + (if p + 1 = n then 0 else J i (so (p + 1)) + (so (p + 1) % 2) * tw) = (if p + 1 = n then best else ml (18 * Sp (p + 1) + so (p + 1)))
def pathP (J : Nat → Nat → Nat) (tw n : Nat) (gA gJ ml : Nat → Nat) (best : Nat) (so : Nat → Nat) : Prop := ∃ Sp : Nat → Nat, (∀ p, p + 1 = n → Sp p = 2 ^ n - 1) ∧ ∀ p, p < n → Sp p < 512 ∧ so p ≤ 17 ∧ (Sp p).testBit (so p / 2) = true ∧ (1 ≤ p → Sp (p - 1) = nclr (Sp p) (2 ^ (so p / 2))) ∧ cndP J tw n gA gJ ml best so Sp p (so p) ∧ ∀ i, i < so p → ¬ cndP J tw n gA gJ ml best so Sp p i
def fdN (z k : Nat) : Int32 := if k ≤ z then (-1) else nI z
theorem fdN_le {z k : Nat} (h : k ≤ z) : fdN z k = (-1) := by unfold fdN; rw [if_pos h]
theorem fdN_gt {z k : Nat} (h : z < k) : fdN z k = nI z := by unfold fdN; rw [if_neg (by omega)]
theorem bit_le {s b : Nat} (h : s.testBit b = true) : 2 ^ b ≤ s := Nat.ge_two_pow_of_testBit h
theorem nclr_sub0 : ∀ s, s < 512 → ∀ b, b < 9 → s.testBit b = true → nclr s (2 ^ b) = s - 2 ^ b := by decide +kernel
theorem nclr_sub {s b : Nat} (hs : s < 512) (hb : b < 9) (h : s.testBit b = true) : nclr s (2 ^ b) = s - 2 ^ b := nclr_sub0 s hs b hb h
theorem pathP_of {J : Nat → Nat → Nat} {tw ways n best : Nat} {gA gJ ml m2 Ss zs so : Nat → Nat} (hn : n ≤ 9) (F : pathF J tw ways n gA gJ ml best Ss zs) (hbest : best ≤ 99000) (hout : ∀ s j, s < 2 ^ n → j < 18 → ¬ (s.testBit (j / 2) = true ∧ j % 2 < ways) → ml (18 * s + j) = 1000000000 ∧ m2 (18 * s + j) = 1000000000) (hfin : ∀ k, k < n → ¬ ml (18 * Ss k + zs (k + 1)) = 1000000000) (hso : ∀ p, p < n → so p = zs (n - p)) : pathP J tw n gA gJ ml best so := by
  have hp9 := ln_p9 hn
  refine ⟨fun p => Ss (n - 1 - p), fun p hp => by show Ss (n - 1 - p) = _; rw [show n - 1 - p = 0 by omega]; exact F.1, fun p hp => ?_⟩
  obtain ⟨f1, f2, f3, f4, f5, f6, f7, f8⟩ := F.2 (n - 1 - p) (by omega)
  have e0 : n - 1 - p + 1 = n - p := by omega
  rw [e0] at f2 f3 f4 f5 f7 f8
  have es := hso p hp
  have fin := hfin (n - 1 - p) (by omega)
  rw [e0] at fin
  refine ⟨by show Ss (n - 1 - p) < 512; omega, by omega, by rw [es]; exact f4, fun h1 => ?_, ⟨by rw [es]; exact fin, fun h => ?_, ?_⟩, fun i hi c => ?_⟩
  · show Ss (n - 1 - (p - 1)) = nclr (Ss (n - 1 - p)) (2 ^ (so p / 2))
    rw [es, show n - 1 - (p - 1) = n - p by omega]; exact f5
  · rw [es, hso (p + 1) h, show n - (p + 1) = n - 1 - p by omega]
    exact (f8 (by omega)).1
  · rw [es]
    by_cases e : p + 1 = n
    · rw [if_pos e, if_pos e, Nat.add_zero]
      exact (f7 (by omega)).1
    · rw [if_neg e, if_neg e, hso (p + 1) (by omega), show n - (p + 1) = n - 1 - p by omega]
      dsimp only
      rw [show n - 1 - (p + 1) = n - 1 - p - 1 by omega]
      exact (f8 (by omega)).2.1
  · obtain ⟨c1, c2, c3⟩ := c
    rw [es] at hi
    by_cases e : p + 1 = n
    · rw [if_pos e, if_pos e, Nat.add_zero] at c3
      have := (f7 (by omega)).2 i hi
      have c3' : ml (18 * Ss (n - 1 - p) + i) = best := c3
      omega
    · rw [if_neg e, if_neg e, hso (p + 1) (by omega), show n - (p + 1) = n - 1 - p by omega] at c3
      dsimp only at c3
      rw [show n - 1 - (p + 1) = n - 1 - p - 1 by omega] at c3
      have c2' := c2 (by omega)
      rw [hso (p + 1) (by omega), show n - (p + 1) = n - 1 - p by omega] at c2'
      by_cases w : i % 2 < ways
      · have := (f8 (by omega)).2.2 i hi w c2'
        have c3' : ml (18 * Ss (n - 1 - p) + i) + (J i (zs (n - 1 - p)) + zs (n - 1 - p) % 2 * tw) = ml (18 * Ss (n - 1 - p - 1) + zs (n - 1 - p)) := c3
        omega
      · exact c1 (hout (Ss (n - 1 - p)) i f1 (by omega) (fun z => w z.2)).1
theorem rd_put {mp mq so : Nat → Nat} {pp n : Nat} (h : ∀ p, pp + 1 ≤ p → p < n → mp p = so p / 2 ∧ mq p = so p % 2) : ∀ p, pp ≤ p → p < n → upN mp pp (so pp / 2) p = so p / 2 ∧ upN mq pp (so pp % 2) p = so p % 2 := fun p h1 h2 => by
  by_cases e : p = pp
  · subst e; rw [upN_s, upN_s]; exact ⟨rfl, rfl⟩
  · rw [upN_n e, upN_n e]; exact h p (by omega) h2
