/-! THE MATHEMATICS, 6: what is kept, by its properties -/
theorem kf_fst {ok : Nat → Prop} {c1 c2 : Nat → Nat} {q0 : Nat × Nat} : ∀ m i, i < m → ok i → (kf ok c1 c2 q0 m).1 ≤ c1 i
  | 0, _, h, _ => absurd h (Nat.not_lt_zero _)
  | m + 1, i, h, o => by
    rcases Nat.lt_or_ge i m with q | q
    · have ih := kf_fst (c1 := c1) (c2 := c2) (q0 := q0) m i q o
      by_cases om : ok m
      · rw [kf, cif_t om, kk_fst]; omega
      · rw [kf, cif_f om]; exact ih
    · have e : i = m := by omega
      subst e
      rw [kf, cif_t o, kk_fst]; omega
theorem kf_att {ok : Nat → Prop} {c1 c2 : Nat → Nat} {q0 : Nat × Nat} : ∀ m, (kf ok c1 c2 q0 m).1 = q0.1 ∨ ∃ i, i < m ∧ ok i ∧ c1 i = (kf ok c1 c2 q0 m).1
  | 0 => Or.inl rfl
  | m + 1 => by
    by_cases om : ok m
    · rw [kf, cif_t om, kk_fst]
      rcases kf_att (ok := ok) (c1 := c1) (c2 := c2) (q0 := q0) m with h | ⟨i, h1, h2, h3⟩
      · by_cases c : c1 m < (kf ok c1 c2 q0 m).1
        · exact Or.inr ⟨m, Nat.lt_succ_self _, om, by omega⟩
        · exact Or.inl (by omega)
      · by_cases c : c1 m < (kf ok c1 c2 q0 m).1
        · exact Or.inr ⟨m, Nat.lt_succ_self _, om, by omega⟩
        · exact Or.inr ⟨i, by omega, h2, by omega⟩
    · rw [kf, cif_f om]
      rcases kf_att (ok := ok) (c1 := c1) (c2 := c2) (q0 := q0) m with h | ⟨i, h1, h2, h3⟩
      · exact Or.inl h
      · exact Or.inr ⟨i, by omega, h2, h3⟩
theorem kk_snd_le {q : Nat × Nat} {a b : Nat} (h : q.1 ≤ q.2) : (kk q a b).2 ≤ q.2 := by
  unfold kk
  split
  · show min b q.1 ≤ q.2; omega
  · show min q.2 a ≤ q.2; omega
theorem kf_snd1 {ok : Nat → Prop} {c1 c2 : Nat → Nat} {q0 : Nat × Nat} (h0 : q0.1 ≤ q0.2) : ∀ m, (∀ k, k < m → c1 k ≤ c2 k) → ∀ i, i < m → ok i → (kf ok c1 c2 q0 m).2 ≤ c2 i
  | 0, _, _, h, _ => absurd h (Nat.not_lt_zero _)
  | m + 1, hc, i, h, o => by
    have le := kf_le' (ok := ok) (c1 := c1) (c2 := c2) h0 m (fun k hk => hc k (by omega))
    rcases Nat.lt_or_ge i m with q | q
    · have ih := kf_snd1 (ok := ok) h0 m (fun k hk => hc k (by omega)) i q o
      by_cases om : ok m
      · rw [kf, cif_t om]; exact Nat.le_trans (kk_snd_le le) ih
      · rw [kf, cif_f om]; exact ih
    · have e : i = m := by omega
      subst e
      have hci := hc i (Nat.lt_succ_self _)
      rw [kf, cif_t o]
      unfold kk
      split
      · show min (c2 i) (kf ok c1 c2 q0 i).1 ≤ c2 i; omega
      · show min (kf ok c1 c2 q0 i).2 (c1 i) ≤ c2 i; omega
theorem kf_snd2 {ok : Nat → Prop} {c1 c2 : Nat → Nat} {q0 : Nat × Nat} (h0 : q0.1 ≤ q0.2) : ∀ m, (∀ k, k < m → c1 k ≤ c2 k) → ∀ i p, i < m → p < m → i ≠ p → ok i → ok p → c1 p ≤ c1 i → (kf ok c1 c2 q0 m).2 ≤ c1 i
  | 0, _, _, _, h, _, _, _, _, _ => absurd h (Nat.not_lt_zero _)
  | m + 1, hc, i, p, hi, hp, hne, oi, op, hle => by
    have le := kf_le' (ok := ok) (c1 := c1) (c2 := c2) h0 m (fun k hk => hc k (by omega))
    rcases Nat.lt_or_ge i m with qi | qi
    · rcases Nat.lt_or_ge p m with qp | qp
      · have ih := kf_snd2 (ok := ok) h0 m (fun k hk => hc k (by omega)) i p qi qp hne oi op hle
        by_cases om : ok m
        · rw [kf, cif_t om]; exact Nat.le_trans (kk_snd_le le) ih
        · rw [kf, cif_f om]; exact ih
      · have e : p = m := by omega
        subst e
        have f := kf_fst (c1 := c1) (c2 := c2) (q0 := q0) p i qi oi
        rw [kf, cif_t op]
        unfold kk
        split
        · show min (c2 p) (kf ok c1 c2 q0 p).1 ≤ c1 i; omega
        · show min (kf ok c1 c2 q0 p).2 (c1 p) ≤ c1 i; omega
    · have e : i = m := by omega
      subst e
      have f := kf_fst (c1 := c1) (c2 := c2) (q0 := q0) i p (by omega) op
      rw [kf, cif_t oi]
      unfold kk
      split
      · show min (c2 i) (kf ok c1 c2 q0 i).1 ≤ c1 i; omega
      · show min (kf ok c1 c2 q0 i).2 (c1 i) ≤ c1 i; omega
/-- never, or at most M -/
def upto (M x : Nat) : Prop := x = 1000000000 ∨ x ≤ M
theorem kf_upto {ok : Nat → Prop} {c1 c2 : Nat → Nat} {M : Nat} : ∀ m, (∀ k, k < m → ok k → (1000000000 ≤ c1 k ∨ c1 k ≤ M) ∧ (1000000000 ≤ c2 k ∨ c2 k ≤ M)) → upto M (kf ok c1 c2 (1000000000, 1000000000) m).1 ∧ upto M (kf ok c1 c2 (1000000000, 1000000000) m).2
  | 0, _ => ⟨Or.inl rfl, Or.inl rfl⟩
  | m + 1, h => by
    obtain ⟨a, b⟩ := kf_upto (ok := ok) m (fun k hk o => h k (by omega) o)
    have top := kf_top (ok := ok) (c1 := c1) (c2 := c2) (q0 := (1000000000, 1000000000)) (N := 1000000000) (Nat.le_refl _) (Nat.le_refl _) m
    by_cases om : ok m
    · obtain ⟨d, e⟩ := h m (Nat.lt_succ_self _) om
      rw [kf, cif_t om]
      generalize kf ok c1 c2 (1000000000, 1000000000) m = q at *
      unfold kk upto at *
      split
      · refine ⟨?_, ?_⟩
        · show c1 m = 1000000000 ∨ c1 m ≤ M; omega
        · show min (c2 m) q.1 = 1000000000 ∨ min (c2 m) q.1 ≤ M; omega
      · refine ⟨a, ?_⟩
        show min q.2 (c1 m) = 1000000000 ∨ min q.2 (c1 m) ≤ M; omega
    · rw [kf, cif_f om]; exact ⟨a, b⟩
theorem upto_mono {M N x : Nat} (h : upto M x) (hl : M ≤ N) : upto N x := h.elim Or.inl (fun z => Or.inr (Nat.le_trans z hl))
theorem tab_bd {J : Nat → Nat → Nat} {gA gJ ml0 m20 ml m2 : Nat → Nat} {B : Nat → Nat → Prop} {n tw ways : Nat} (hn : n ≤ 9) (hw : ways ≤ 2) (hw1 : 1 ≤ ways) (htw : tw ≤ 999) (hJ : ∀ a b, J a b ≤ 10000) (h : (ml, m2) = m_ord J gA gJ B n tw ways ml0 m20) :
    ∀ s, s < 2 ^ n → ∀ j, j < 18 → upto (m_pc s * 11000) (ml (18 * s + j)) ∧ upto (m_pc s * 11000) (m2 (18 * s + j)) := by
  have hp9 := ln_p9 hn
  obtain ⟨hfine, tab⟩ := ord_tab hn hw hw1 htw h
  intro s
  induction s using Nat.strongRecOn with
  | _ s ih =>
    intro hs j hj
    obtain ⟨R1, R2, R3⟩ := tab s j hs hj
    by_cases c : s.testBit (j / 2) = true ∧ j % 2 < ways
    · have hl : j / 2 < n := bitsn hs c.1
      have hpc := pc_clr s (by omega) (j / 2) (by omega) c.1
      have ht : (j % 2) * tw ≤ 999 := Nat.le_trans (Nat.mul_le_mul (show j % 2 ≤ 1 by omega) htw) (by decide)
      by_cases z : nclr s (2 ^ (j / 2)) = 0
      · have e := R2 (nclr_zero c.1 z) c.2
        rw [(Prod.mk.inj e).1, (Prod.mk.inj e).2]
        exact ⟨Or.inr (by omega), Or.inl rfl⟩
      · have e := R3 c.1 c.2 z
        have hlt := nclr_bit_lt c.1
        have IH := ih (nclr s (2 ^ (j / 2))) hlt (by omega)
        have u := kf_upto (ok := fun i => i % 2 < ways ∧ m_may gA gJ n (nclr s (2 ^ (j / 2))) (i / 2) (j / 2) ∧ ¬ B (i / 2) (j / 2)) (c1 := cR J tw ml (nclr s (2 ^ (j / 2))) j) (c2 := cR J tw m2 (nclr s (2 ^ (j / 2))) j) (M := m_pc s * 11000) (2 * n) (fun k hk _ => by
          obtain ⟨a, b⟩ := IH k (by omega)
          have jj := hJ k j
          unfold cR
          unfold upto at a b
          constructor <;> omega)
        rw [← e] at u
        exact u
    · have e := R1 c
      rw [(Prod.mk.inj e).1, (Prod.mk.inj e).2]
      exact ⟨Or.inl rfl, Or.inl rfl⟩
/-! THE MATHEMATICS, 7: one pick of the trace -/
/-- how the class's costs at a place and the reference's go together -/
def actP (T sj : Nat → Nat) (ends set b tail : Nat) (ok : Nat → Prop) (c1 : Nat → Nat) (off i : Nat) : Prop := (((ends >>> (i >>> 1)) &&& 1 = 0 → False) ∧ ok i ∧ m_cost T sj set b tail i = c1 i + off ∧ c1 i + off < 1000000) ∨ ((((ends >>> (i >>> 1)) &&& 1 = 0 → False) → 1000000 ≤ m_cost T sj set b tail i) ∧ (ok i → 1000000000 ≤ c1 i))
def goodP (T sj : Nat → Nat) (ends set b tail : Nat) (ok : Nat → Prop) (c1 : Nat → Nat) (off i : Nat) : Prop := ((ends >>> (i >>> 1)) &&& 1 = 0 → False) ∧ ok i ∧ m_cost T sj set b tail i = c1 i + off ∧ c1 i + off < 1000000
theorem pick_kf {T sj : Nat → Nat} {ends set b tail sx off : Nat} {ok : Nat → Prop} {c1 c2 : Nat → Nat} (hsx : sx ≤ 1000000) : ∀ m, (∀ i, i < m → actP T sj ends set b tail ok c1 off i) → (∀ i, i < m → c1 i ≤ c2 i) →
    (m_pick T sj ends set b tail sx m).2.2 ≤ 1000000 ∧ min (m_pick T sj ends set b tail sx m).2.2 (m_pick T sj ends set b tail sx m).2.1 = min sx (m_pick T sj ends set b tail sx m).2.1 ∧
    (((m_pick T sj ends set b tail sx m).2.1 = 1000000 ∧ (kf ok c1 c2 (1000000000, 1000000000) m) = (1000000000, 1000000000) ∧ (m_pick T sj ends set b tail sx m).2.2 = sx) ∨
     ((m_pick T sj ends set b tail sx m).2.1 < 1000000 ∧ (kf ok c1 c2 (1000000000, 1000000000) m).1 + off = (m_pick T sj ends set b tail sx m).2.1 ∧ (m_pick T sj ends set b tail sx m).1 < m ∧ goodP T sj ends set b tail ok c1 off (m_pick T sj ends set b tail sx m).1 ∧ c1 (m_pick T sj ends set b tail sx m).1 = (kf ok c1 c2 (1000000000, 1000000000) m).1 ∧ (∀ i, i < (m_pick T sj ends set b tail sx m).1 → ok i → (kf ok c1 c2 (1000000000, 1000000000) m).1 < c1 i) ∧
       min (m_pick T sj ends set b tail sx m).2.2 (min 1000000 (c2 (m_pick T sj ends set b tail sx m).1 + off)) = min sx (min 1000000 ((kf ok c1 c2 (1000000000, 1000000000) m).2 + off))))
  | 0, _, _ => ⟨hsx, rfl, Or.inl ⟨rfl, rfl, rfl⟩⟩
  | m + 1, ha, hc => by
    have ih := pick_kf (T := T) (sj := sj) (ends := ends) (set := set) (b := b) (tail := tail) (off := off) (ok := ok) (c1 := c1) (c2 := c2) hsx m (fun i hi => ha i (by omega)) (fun i hi => hc i (by omega))
    have top := kf_top (ok := ok) (c1 := c1) (c2 := c2) (q0 := (1000000000, 1000000000)) (N := 1000000000) (Nat.le_refl _) (Nat.le_refl _) m
    have am := ha m (Nat.lt_succ_self _)
    have cm := hc m (Nat.lt_succ_self _)
    have fst := kf_fst (ok := ok) (c1 := c1) (c2 := c2) (q0 := (1000000000, 1000000000)) m
    rw [m_pick, kf]
    generalize hP : m_pick T sj ends set b tail sx m = P at *
    generalize hQ : kf ok c1 c2 (1000000000, 1000000000) m = Q at *
    obtain ⟨i1, i2, i3⟩ := ih
    rcases am with ⟨g1, g2, g3, g4⟩ | ⟨g1, g2⟩
    · -- both count it
      rw [if_neg (fun q => g1 q), cif_t g2, m_pst, g3]
      by_cases lt : c1 m + off < P.2.1
      · rw [if_pos lt]
        have lt2 : c1 m < Q.1 := by
          rcases i3 with ⟨a1, a2, -⟩ | ⟨a1, a2, -⟩
          · rw [a2]; show c1 m < 1000000000; omega
          · omega
        have eQ : kk Q (c1 m) (c2 m) = (c1 m, min (c2 m) Q.1) := by unfold kk; rw [if_pos lt2]
        rw [eQ]
        refine ⟨by show min P.2.2 P.2.1 ≤ 1000000; omega, by show min (min P.2.2 P.2.1) (c1 m + off) = min sx (c1 m + off); omega, Or.inr ⟨by show c1 m + off < 1000000; exact g4, rfl, Nat.lt_succ_self _, ⟨g1, g2, g3, g4⟩, rfl, ?_, ?_⟩⟩
        · intro i hi oi
          have := fst i hi oi
          show c1 m < c1 i
          omega
        · show min (min P.2.2 P.2.1) (min 1000000 (c2 m + off)) = min sx (min 1000000 (min (c2 m) Q.1 + off))
          rcases i3 with ⟨a1, a2, a3⟩ | ⟨a1, a2, -⟩
          · rw [a2]; show min (min P.2.2 P.2.1) (min 1000000 (c2 m + off)) = min sx (min 1000000 (min (c2 m) 1000000000 + off)); omega
          · omega
      · rw [if_neg lt]
        rcases i3 with ⟨a1, a2, a3⟩ | ⟨a1, a2, a4, a5, a6, a7, a8⟩
        · exact absurd (show c1 m + off < P.2.1 by omega) lt
        · have nlt : ¬ c1 m < Q.1 := by omega
          have eQ : kk Q (c1 m) (c2 m) = (Q.1, min Q.2 (c1 m)) := by unfold kk; rw [if_neg nlt]
          rw [eQ]
          refine ⟨by show min P.2.2 (c1 m + off) ≤ 1000000; omega, by show min (min P.2.2 (c1 m + off)) P.2.1 = min sx P.2.1; omega, Or.inr ⟨a1, a2, by show P.1 < m + 1; omega, a5, a6, a7, ?_⟩⟩
          show min (min P.2.2 (c1 m + off)) (min 1000000 (c2 P.1 + off)) = min sx (min 1000000 (min Q.2 (c1 m) + off))
          omega
    · -- neither does
      have eQ : cif (ok m) (kk Q (c1 m) (c2 m)) Q = Q := by
        by_cases o : ok m
        · rw [cif_t o]; exact kk_far (N := 1000000000) top.1 top.2 (g2 o)
        · rw [cif_f o]
      rw [eQ]
      by_cases e : (ends >>> (m >>> 1)) &&& 1 = 0
      · rw [if_pos e]
        refine ⟨i1, i2, i3.elim Or.inl (fun z => Or.inr ⟨z.1, z.2.1, by have := z.2.2.1; omega, z.2.2.2⟩)⟩
      · have far := g1 (fun q => e q)
        rw [if_neg e, m_pst, if_neg (by rcases i3 with ⟨a1, -⟩ | ⟨a1, -⟩ <;> omega)]
        have en : min P.2.2 (m_cost T sj set b tail m) = P.2.2 := by omega
        rw [en]
        refine ⟨i1, i2, i3.elim Or.inl (fun z => Or.inr ⟨z.1, z.2.1, by show P.1 < m + 1; have := z.2.2.1; omega, z.2.2.2⟩)⟩
