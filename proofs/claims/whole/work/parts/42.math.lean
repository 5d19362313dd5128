/-! THE MATHEMATICS, 5: the costs of the sets; the books -/
theorem lkS_kk (a b : Nat) (q : Nat × Nat) : m_lkS a b q = kk q a b := by
  unfold m_lkS kk
  by_cases h : a < q.1
  · rw [if_pos h, if_pos h]
    by_cases h2 : b < q.1
    · rw [if_pos h2, Nat.min_eq_left (by omega)]
    · rw [if_neg h2, Nat.min_eq_right (by omega)]
  · rw [if_neg h, if_neg h]
    by_cases h2 : a < q.2
    · rw [if_pos h2, Nat.min_eq_right (by omega)]
    · rw [if_neg h2, Nat.min_eq_left (by omega)]
theorem lk_kf {ml m2 : Nat → Nat} {s : Nat} (hs : ¬ s = 0) : ∀ i, m_lk ml m2 s i = kf (fun _ => True) (fun i => ml (18 * s + i)) (fun i => m2 (18 * s + i)) (1000000000, 1000000000) i
  | 0 => by rw [m_lk, if_neg hs]; rfl
  | i + 1 => by rw [m_lk, lkS_kk, lk_kf hs i, kf, cif_t trivial]
/-- what the class's table T and the reference's rows have to do with each other -/
def sameT (n ways : Nat) (T ml m2 : Nat → Nat) : Prop := fineP (18 * 2 ^ n) (ml, m2) ∧ (∀ s j, s < 2 ^ n → j < 18 → ¬ (s.testBit (j / 2) = true ∧ j % 2 < ways) → ml (18 * s + j) = 1000000000 ∧ m2 (18 * s + j) = 1000000000) ∧ ∀ s, s < 2 ^ n → ∀ j, j < 2 * n → s.testBit (j / 2) = true → isCap (T (s * 18 + j)) (ml (18 * s + j)) ∧ (ml (18 * s + j) = 1000000000 ∨ ml (18 * s + j) ≤ 99000)
theorem sameT_of {J : Nat → Nat → Nat} {rb rr ra gA gJ sj sl0 ml0 m20 ml m2 : Nat → Nat} {B : Nat → Nat → Prop} {n tw ways tc ba bb : Nat} (S : setup J n tw ways tc sj) (hR : relR rb rr ra gA gJ) (hB : relB ba bb B) (h : (ml, m2) = m_ord J gA gJ B n tw ways ml0 m20) : sameT n ways (m_fill rb rr ra sj n tc ba bb sl0 (2 ^ n - 1)) ml m2 := by
  have te := tab_eq (sl0 := sl0) S hR hB h
  obtain ⟨hn, htw, hJ, hway, hsj⟩ := S
  obtain ⟨hf, tab⟩ := ord_tab hn (by omega) (by omega) htw h
  refine ⟨hf, fun s j hs hj c => Prod.mk.inj ((tab s j hs hj).1 c), fun s hs j hj hb => ?_⟩
  have t := te s hs j hj hb
  have pl := m_pc_le s
  refine ⟨t.1, t.2.elim Or.inl (fun z => Or.inr (by omega))⟩
theorem of_look {n ways : Nat} {T ml m2 : Nat → Nat} (hn : n ≤ 9) (h : sameT n ways T ml m2) {s : Nat} (hs : s < 2 ^ n) (h0 : ¬ s = 0) : isCap (m_of T s (2 * n)) (m_look ml m2 s).1 ∧ ((m_look ml m2 s).1 = 1000000000 ∨ (m_look ml m2 s).1 ≤ 99000) ∧ (m_look ml m2 s) = kf (fun _ => True) (fun i => ml (18 * s + i)) (fun i => m2 (18 * s + i)) (1000000000, 1000000000) (2 * n) := by
  obtain ⟨hf, hout, hin⟩ := h
  have key : ∀ i, i ≤ 2 * n → relU (m_of T s i) (kf (fun _ => True) (fun i => ml (18 * s + i)) (fun i => m2 (18 * s + i)) (1000000000, 1000000000) i).1 0 ∧ ((kf (fun _ => True) (fun i => ml (18 * s + i)) (fun i => m2 (18 * s + i)) (1000000000, 1000000000) i).1 = 1000000000 ∨ (kf (fun _ => True) (fun i => ml (18 * s + i)) (fun i => m2 (18 * s + i)) (1000000000, 1000000000) i).1 ≤ 99000) := by
    intro i
    induction i with
    | zero => intro _; exact ⟨Or.inl ⟨rfl, rfl⟩, Or.inl rfl⟩
    | succ i ih =>
      intro hi
      obtain ⟨ih1, ih2⟩ := ih (by omega)
      have top := kf_top (ok := fun _ => True) (c1 := fun i => ml (18 * s + i)) (c2 := fun i => m2 (18 * s + i)) (q0 := (1000000000, 1000000000)) (N := 1000000000) (Nat.le_refl _) (Nat.le_refl _) i
      rw [kf, cif_t trivial, m_of, kk_fst]
      rw [Nat.shiftRight_eq_div_pow i 1, Nat.pow_one]
      by_cases hb : s.testBit (i / 2) = true
      · rw [if_neg ((ln_bit1 _ _).mpr hb)]
        obtain ⟨a, b⟩ := hin s hs i (by omega) hb
        unfold relU isCap at *
        omega
      · rw [if_pos ((ln_bit0 _ _).mpr (by cases q : s.testBit (i / 2) with | false => rfl | true => exact absurd q hb))]
        have f := (hout s i hs (by omega) (fun q => hb q.1)).1
        rw [f, Nat.min_eq_left top.1]
        exact ⟨ih1, ih2⟩
  have tail : ∀ i, 2 * n ≤ i → i ≤ 18 → kf (fun _ => True) (fun i => ml (18 * s + i)) (fun i => m2 (18 * s + i)) (1000000000, 1000000000) i = kf (fun _ => True) (fun i => ml (18 * s + i)) (fun i => m2 (18 * s + i)) (1000000000, 1000000000) (2 * n) := by
    intro i
    induction i with
    | zero => intro h1 _; rw [show 2 * n = 0 by omega]
    | succ i ih =>
      intro h1 h2
      by_cases e : 2 * n = i + 1
      · rw [e]
      · have top := kf_top (ok := fun _ => True) (c1 := fun i => ml (18 * s + i)) (c2 := fun i => m2 (18 * s + i)) (q0 := (1000000000, 1000000000)) (N := 1000000000) (Nat.le_refl _) (Nat.le_refl _) i
        have f := (hout s i hs (by omega) (fun q => by have := bitsn hs q.1; omega)).1
        rw [kf, cif_t trivial, kk_far (N := 1000000000) top.1 top.2 (by show 1000000000 ≤ ml (18 * s + i); rw [f]; exact Nat.le_refl _)]
        exact ih (by omega) (by omega)
  have e : m_look ml m2 s = kf (fun _ => True) (fun i => ml (18 * s + i)) (fun i => m2 (18 * s + i)) (1000000000, 1000000000) (2 * n) := by
    unfold m_look
    rw [if_neg h0, lk_kf h0, tail 18 (by omega) (Nat.le_refl _)]
  obtain ⟨a, b⟩ := key (2 * n) (Nat.le_refl _)
  rw [← e] at a b
  refine ⟨?_, b, e⟩
  unfold relU at a
  unfold isCap
  omega
theorem costs_at {T ss0 : Nat → Nat} {n : Nat} : ∀ K s, s ≤ K → m_costs T n ss0 K s = if s = 0 then 0 else m_of T s (2 * n)
  | 0, s, h => by
    have e : s = 0 := by omega
    subst e
    rw [if_pos rfl, m_costs, upN_s]
  | K + 1, s, h => by
    rw [m_costs]
    by_cases e : s = K + 1
    · subst e; rw [upN_s, if_neg (by omega)]
    · rw [upN_n e]; exact costs_at K s (by omega)
/-- the costs of the sets, both ways -/
def sameC (n : Nat) (ss ml m2 : Nat → Nat) : Prop := ∀ s, s < 2 ^ n → isCap (ss s) (m_look ml m2 s).1 ∧ ((m_look ml m2 s).1 = 1000000000 ∨ (m_look ml m2 s).1 ≤ 99000)
theorem sameC_of {n ways : Nat} {T ml m2 ss0 ss : Nat → Nat} (hn : n ≤ 9) (h : sameT n ways T ml m2) (hs : ss = m_costs T n ss0 (2 ^ n - 1)) : sameC n ss ml m2 := by
  intro s hlt
  rw [hs, costs_at (2 ^ n - 1) s (by omega)]
  by_cases e : s = 0
  · subst e
    rw [if_pos rfl]
    unfold m_look
    rw [if_pos rfl]
    exact ⟨Or.inr ⟨by decide, rfl⟩, Or.inr (by decide)⟩
  · rw [if_neg e]
    obtain ⟨a, b, -⟩ := of_look hn h hlt e
    exact ⟨a, b⟩
theorem told_cap {v w : Nat} (h : isCap v w) : (if v < 1000000 then nI v else (-1)) = m_told w := by
  unfold m_told
  rcases h with ⟨rfl, rfl⟩ | ⟨a, rfl⟩
  · rw [if_neg (by decide), if_pos rfl]
  · rw [if_pos a, if_neg (by omega)]
theorem all_sub {n s : Nat} (hs : s ≤ 2 ^ n - 1) : nclr (2 ^ n - 1) s = 2 ^ n - 1 - s := by
  have hp := ln_one_two_pow n
  apply Nat.eq_of_testBit_eq
  intro i
  rw [nclr_t, Nat.testBit_two_pow_sub_one, show 2 ^ n - 1 - s = 2 ^ n - (s + 1) by omega, Nat.testBit_two_pow_sub_succ (by omega)]
/-- the books: both ways -/
theorem part_prt {n : Nat} {ss ml m2 : Nat → Nat} {S : Nat → Prop} (h : sameC n ss ml m2) (pt : Nat) (hS : ∀ s, S s) : ∀ k, k ≤ (2 ^ n - 1) / 2 → isCap (m_part ss n k).1 (m_prt ml m2 n S pt k).1 ∧ ((m_prt ml m2 n S pt k).1 < 1000000000 → (m_part ss n k).2 = (m_prt ml m2 n S pt k).2) ∧ ((m_prt ml m2 n S pt k).1 = 1000000000 ∨ (m_prt ml m2 n S pt k).1 ≤ 198000)
  | 0, _ => ⟨Or.inl ⟨rfl, rfl⟩, fun q => absurd q (by show ¬ 1000000000 < 1000000000; decide), Or.inl rfl⟩
  | k + 1, hk => by
    obtain ⟨i1, i2, i3⟩ := part_prt (S := S) h pt hS k (by omega)
    obtain ⟨a1, a2⟩ := h (2 * (k + 1)) (by omega)
    obtain ⟨b1, b2⟩ := h (2 ^ n - 1 - 2 * (k + 1)) (by omega)
    have e2 : m_two ss n (2 * (k + 1)) = ss (2 * (k + 1)) + ss (2 ^ n - 1 - 2 * (k + 1)) := by unfold m_two; rw [all_sub (by omega)]
    rw [m_part, m_prt, e2]
    generalize m_part ss n k = P at *
    generalize m_prt ml m2 n S pt k = Q at *
    generalize (m_look ml m2 (2 * (k + 1))).1 = x at *
    generalize (m_look ml m2 (2 ^ n - 1 - 2 * (k + 1))).1 = y at *
    by_cases c : x < 1000000000 ∧ y < 1000000000 ∧ x + y < Q.1
    · rw [cif_t ⟨hS _, c⟩]
      have lt : ss (2 * (k + 1)) + ss (2 ^ n - 1 - 2 * (k + 1)) < P.1 := by unfold isCap at *; omega
      rw [if_pos lt]
      refine ⟨?_, fun _ => rfl, Or.inr ?_⟩
      · show isCap (ss (2 * (k + 1)) + ss (2 ^ n - 1 - 2 * (k + 1))) (x + y); unfold isCap at *; omega
      · show x + y ≤ 198000; omega
    · rw [cif_f (fun q => c q.2)]
      have nlt : ¬ ss (2 * (k + 1)) + ss (2 ^ n - 1 - 2 * (k + 1)) < P.1 := by unfold isCap at *; omega
      rw [if_neg nlt]
      exact ⟨i1, i2, i3⟩
theorem moved_prt {n : Nat} {ss ml m2 : Nat → Nat} {S : Nat → Prop} {other leaf : Nat} (h : sameC n ss ml m2) (pt : Nat) (hS : ∀ s, S s ↔ ¬ ((s ^^^ other) >>> leaf) &&& 1 = 0) : ∀ k, k ≤ (2 ^ n - 1) / 2 → isCap (m_moved ss n other leaf k) (m_prt ml m2 n S pt k).1 ∧ ((m_prt ml m2 n S pt k).1 = 1000000000 ∨ (m_prt ml m2 n S pt k).1 ≤ 198000)
  | 0, _ => ⟨Or.inl ⟨rfl, rfl⟩, Or.inl rfl⟩
  | k + 1, hk => by
    obtain ⟨i1, i3⟩ := moved_prt (S := S) h pt hS k (by omega)
    obtain ⟨a1, a2⟩ := h (2 * (k + 1)) (by omega)
    obtain ⟨b1, b2⟩ := h (2 ^ n - 1 - 2 * (k + 1)) (by omega)
    have e2 : m_two ss n (2 * (k + 1)) = ss (2 * (k + 1)) + ss (2 ^ n - 1 - 2 * (k + 1)) := by unfold m_two; rw [all_sub (by omega)]
    rw [m_moved, m_prt, e2]
    have hs := hS (2 * (k + 1))
    generalize m_moved ss n other leaf k = P at *
    generalize m_prt ml m2 n S pt k = Q at *
    generalize (m_look ml m2 (2 * (k + 1))).1 = x at *
    generalize (m_look ml m2 (2 ^ n - 1 - 2 * (k + 1))).1 = y at *
    by_cases d : ((2 * (k + 1) ^^^ other) >>> leaf) &&& 1 = 0
    · rw [if_pos d, cif_f (fun q => (hs.mp q.1) d)]
      exact ⟨i1, i3⟩
    · rw [if_neg d]
      by_cases c : x < 1000000000 ∧ y < 1000000000 ∧ x + y < Q.1
      · rw [cif_t ⟨hs.mpr d, c⟩]
        refine ⟨?_, Or.inr ?_⟩
        · show isCap (min P (ss (2 * (k + 1)) + ss (2 ^ n - 1 - 2 * (k + 1)))) (x + y); unfold isCap at *; omega
        · show x + y ≤ 198000; omega
      · rw [cif_f (fun q => c q.2)]
        refine ⟨?_, i3⟩
        unfold isCap at *; omega
