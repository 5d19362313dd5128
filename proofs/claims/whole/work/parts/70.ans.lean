/-! THE ANSWERS: what the class keeps answers as the reference does -/
theorem m_joins_out {n : Nat} {J : Nat → Nat → Nat} {sj : Nat → Nat} {a : Nat} : ∀ k q, (q < a * 18 ∨ a * 18 + k ≤ q) → m_joins n J sj a k q = sj q
  | 0, _, _ => rfl
  | k + 1, q, h => by rw [m_joins, upN_n (by omega)]; exact m_joins_out k q (by omega)
theorem m_joins_in {n : Nat} {J : Nat → Nat → Nat} {sj : Nat → Nat} {a b : Nat} : ∀ k, b < k → m_joins n J sj a k (a * 18 + b) = J a b
  | 0, h => absurd h (Nat.not_lt_zero _)
  | k + 1, h => by
    rw [m_joins]
    by_cases e : b = k
    · subst e; rw [upN_s]
    · rw [upN_n (by omega)]; exact m_joins_in k (by omega)
theorem m_prep_at {n : Nat} {J : Nat → Nat → Nat} {sj : Nat → Nat} {a b : Nat} (hn : n ≤ 9) (hb : b < 2 * n) : ∀ k, a < k → m_prep n J sj k (a * 18 + b) = J a b
  | 0, h => absurd h (Nat.not_lt_zero _)
  | k + 1, h => by
    rw [m_prep]
    by_cases e : a = k
    · subst e; exact m_joins_in _ hb
    · rw [m_joins_out _ _ (by omega)]; exact m_prep_at hn hb k (by omega)
theorem so_at {T sj ra so0 : Nat → Nat} {n tc : Nat} : ∀ K, K ≤ n → ∀ k, k < K → (m_trace T sj ra so0 n tc 1000000 K).2.2.2.1 (n - 1 - k) = (m_trace T sj ra so0 n tc 1000000 (k + 1)).2.1
  | 0, _, _, h => absurd h (Nat.not_lt_zero _)
  | K + 1, hK, k, h => by
    by_cases e : k = K
    · subst e
      show upN _ (n - 1 - k) _ (n - 1 - k) = _
      rw [upN_s]
      rfl
    · show upN _ (n - 1 - K) _ (n - 1 - k) = _
      rw [upN_n (by omega)]
      exact so_at K (by omega) k (by omega)
theorem relB_no : relB 18 18 (fun a b => nI a = (-1) ∧ nI b = (-1)) := fun a b ha hb => ⟨fun q => absurd q.1 (ln_nm1 (by omega)), fun q => by omega⟩
theorem relB_at {a0 b0 : Nat} (ha : a0 < 9) (hb : b0 < 9) : relB a0 b0 (fun a b => nI a = nI a0 ∧ nI b = nI b0) := fun a b h1 h2 => ⟨fun q => ⟨(nI_eq (by omega) (by omega)).mp q.1, (nI_eq (by omega) (by omega)).mp q.2⟩, fun q => by rw [q.1, q.2]; exact ⟨rfl, rfl⟩⟩
/-- the state's own bounds -/
def okS (n mt : Nat) (fb fe fs fz : Nat → Nat) : Prop := n ≤ 9 ∧ mt < 2 ∧ (∀ k, fb k ≤ 99) ∧ (∀ k, fe k ≤ 99) ∧ (∀ k, fs k ≤ 99) ∧ (∀ k, fz k ≤ 999) ∧ (fz 0 ≤ 9 ∧ fz 1 ≤ 9)
theorem setup_of {n mt : Nat} {fb fe fc fd fs fz sj0 : Nat → Nat} {fw : Nat → Int32} (h : okS n mt fb fe fs fz) : setup (m_join fb fe fw fc fd fs fz) n (fz 4) (if mt = 0 then 1 else 2) (if mt = 0 then 1000000 else fz 4) (m_prep n (m_join fb fe fw fc fd fs fz) sj0 (2 * n)) := by
  obtain ⟨h1, h2, h3, h4, h5, h6, h7⟩ := h
  refine ⟨h1, h6 4, fun a b => m_join_le fb fe fw fc fd fs fz a b h3 h4 h5 h6 h7, ?_, fun a b ha hb => m_prep_at h1 hb _ ha⟩
  by_cases e : mt = 0
  · rw [if_pos e, if_pos e]; exact Or.inl ⟨rfl, rfl⟩
  · rw [if_neg e, if_neg e]; exact Or.inr ⟨rfl, rfl⟩
/-- what is fresh, held against the reference's rows -/
theorem fresh_eq {n mt : Nat} {fb fe fc fd fs fz rb rr ra gA gJ : Nat → Nat} {fw : Nat → Int32} {sn st sb sx bc bo : Nat} {sj ss so ml0 m20 ml m2 : Nat → Nat} (hS : okS n mt fb fe fs fz) (hR : relR rb rr ra gA gJ)
    (F : m_fresh (m_join fb fe fw fc fd fs fz) n (if mt = 0 then 1000000 else fz 4) rb rr ra sn st sb sx sj ss so bc bo)
    (h : (ml, m2) = m_ord (m_join fb fe fw fc fd fs fz) gA gJ (fun a b => nI a = (-1) ∧ nI b = (-1)) n (fz 4) (if mt = 0 then 1 else 2) ml0 m20) :
    isCap sb (m_look ml m2 (2 ^ n - 1)).1 ∧ isCap sx (m_look ml m2 (2 ^ n - 1)).2 ∧ ((m_look ml m2 (2 ^ n - 1)).1 = 1000000000 ∨ (m_look ml m2 (2 ^ n - 1)).1 ≤ 99000) ∧ sameC n ss ml m2 ∧ (bc, bo) = m_part ss n ((2 ^ n - 1) / 2) ∧
    ((m_look ml m2 (2 ^ n - 1)).1 < 1000000000 → pathP (m_join fb fe fw fc fd fs fz) (fz 4) n gA gJ ml (m_look ml m2 (2 ^ n - 1)).1 so) ∧
    (∀ a0 b0 d slq mlB0 m2B0 mlB m2B, a0 < n → b0 < n → d ≤ 1000 → sb < 1000000 → (mlB, m2B) = m_ord (m_join fb fe fw fc fd fs fz) gA gJ (fun a b => nI a = nI a0 ∧ nI b = nI b0) n (fz 4) (if mt = 0 then 1 else 2) mlB0 m2B0 →
      ((m_in so n a0 b0 ∧ (sb + d < sx ∨ sb + d < m_of (m_fill rb rr ra sj n (if mt = 0 then 1000000 else fz 4) a0 b0 slq (2 ^ n - 1)) (2 ^ n - 1) (2 * n))) ↔ ((m_look mlB m2B (2 ^ n - 1)).1 = 1000000000 ∨ sb + d < (m_look mlB m2B (2 ^ n - 1)).1))) := by
  obtain ⟨-, -, sj0, sl0, ss0, so0, slz, e1, e2, e3, e4, e5, e6, e7⟩ := F
  have S0 := setup_of (fc := fc) (fd := fd) (fw := fw) (sj0 := sj0) hS
  rw [← e1] at S0
  obtain ⟨hn, htw, hJ, hway, hsj⟩ := id S0
  have hp9 := ln_p9 hn
  have hp1 := ln_one_two_pow n
  have same := sameT_of (sl0 := sl0) S0 hR relB_no h
  rw [← e2] at same
  have sc := sameC_of hn same e3
  have c0 := sc (2 ^ n - 1) (by omega)
  rw [← e4] at c0
  have up := look_upto hn (by omega) (by omega) htw hJ h same
  have nB : ∀ a b, a < 9 → b < 9 → ¬ (nI a = (-1) ∧ nI b = (-1)) := fun a b ha _ q => ln_nm1 (by omega) q.1
  have fin : (m_look ml m2 (2 ^ n - 1)).1 < 1000000000 → sb < 1000000 ∧ (m_look ml m2 (2 ^ n - 1)).1 ≤ 99000 ∧ (m_look ml m2 (2 ^ n - 1)).1 = sb := fun q => by
    have a := c0.1
    have b := c0.2
    unfold isCap at a
    omega
  have pf : (m_look ml m2 (2 ^ n - 1)).1 ≤ 99000 → _ := fun q => pathF_of (so0 := so0) S0 hR relB_no h same q
  have hso : sb < 1000000 → ∀ p, p < n → so p = (m_trace slz sj ra so0 n (if mt = 0 then 1000000 else fz 4) 1000000 (n - p)).2.1 := fun q p hp => by
    obtain ⟨a1, a2, a3, et⟩ := e5 q
    have z := so_at (T := slz) (sj := sj) (ra := ra) (so0 := so0) (n := n) (tc := if mt = 0 then 1000000 else fz 4) n (Nat.le_refl _) (n - 1 - p) (by omega)
    rw [← et, show n - 1 - (n - 1 - p) = p by omega, show n - 1 - p + 1 = n - p by omega] at z
    exact z
  have sxE : isCap sx (m_look ml m2 (2 ^ n - 1)).2 := by
    rcases Nat.lt_or_ge sb 1000000 with q | q
    · obtain ⟨a1, a2, a3, et⟩ := e5 q
      have z := next_eq (so0 := so0) S0 hR relB_no h same (by have a := c0.1; have b := c0.2; unfold isCap at a; omega)
      rw [← et] at z
      exact z
    · have z := e6 q
      have a := c0.1
      unfold isCap at a ⊢
      omega
  refine ⟨c0.1, sxE, c0.2, sc, e7, fun q => ?_, fun a0 b0 d slq mlB0 m2B0 mlB m2B ha hb hd hsb hB => ?_⟩
  · obtain ⟨f1, f2, f3⟩ := fin q
    exact pathP_of hn (pf f2) f2 same.2.1 (fun k hk z => by
      obtain ⟨off, I⟩ := trace_inv (so0 := so0) S0 hR relB_no h same f2 k hk
      have := I.2.2.2.2.2.2.2.1
      try dsimp only at z
      omega) (hso f1)
  · have sameB := sameT_of (sl0 := slq) S0 hR (relB_at (a0 := a0) (b0 := b0) (by omega) (by omega)) hB
    have f2 : (m_look ml m2 (2 ^ n - 1)).1 ≤ 99000 := by have a := c0.1; have b := c0.2; unfold isCap at a; omega
    have f3 : (m_look ml m2 (2 ^ n - 1)).1 = sb := by have a := c0.1; unfold isCap at a; omega
    have n0 : ¬ 2 ^ n - 1 = 0 := by
      have : 2 ^ 1 ≤ 2 ^ n := Nat.pow_le_pow_right (by decide) (by omega)
      omega
    have look := of_look hn same (s := 2 ^ n - 1) (by omega) n0
    have lookB := of_look hn sameB (s := 2 ^ n - 1) (by omega) n0
    have F := pf f2
    obtain ⟨g1, g2, g3, g4, g5, g6, g7, g8⟩ := F.2 0 (by omega)
    have hs := hso hsb
    have capB := lookB.1
    have capS := sxE
    have F0 : ∀ k, k < n → (fun k => (m_trace slz sj ra so0 n (if mt = 0 then 1000000 else fz 4) 1000000 k).1) 0 = 2 ^ n - 1 := fun _ _ => rfl
    constructor
    · rintro ⟨⟨K, hK, p1, p2⟩, hor⟩
      have sy := sure_yes (K := n - K - 2) hn (by omega) (by omega) htw nB h hB (relB_at (a0 := a0) (b0 := b0) (by omega) (by omega)) F (by omega) ⟨by
        have := hs K (by omega); rw [shr1] at p1; rw [show n - K - 2 + 2 = n - K by omega, ← this]; exact p1, by
        have := hs (K + 1) (by omega); rw [shr1] at p2; rw [show n - K - 2 + 1 = n - (K + 1) by omega, ← this]; exact p2⟩ (n - K - 2) 0 (by omega)
      have u2le : (m_look ml m2 (2 ^ n - 1)).2 ≤ (m_look mlB m2B (2 ^ n - 1)).1 := by
        rw [lookB.2.2]
        rcases kf_att (ok := fun _ => True) (c1 := fun i => mlB (18 * (2 ^ n - 1) + i)) (c2 := fun i => m2B (18 * (2 ^ n - 1) + i)) (q0 := (1000000000, 1000000000)) (2 * n) with y | ⟨i, y1, -, y3⟩
        · rw [y]; exact up.2.2.2
        · rw [← y3, look.2.2]
          have g70 := (g7 rfl).1
          by_cases e : i = (m_trace slz sj ra so0 n (if mt = 0 then 1000000 else fz 4) 1000000 1).2.1
          · have s1 := kf_snd1 (ok := fun _ => True) (c1 := fun i => ml (18 * (2 ^ n - 1) + i)) (c2 := fun i => m2 (18 * (2 ^ n - 1) + i)) (q0 := (1000000000, 1000000000)) (Nat.le_refl _) (2 * n) (fun k hk => (same.1 (18 * (2 ^ n - 1) + k) (by omega)).1) i y1 trivial
            refine Nat.le_trans s1 ?_
            rw [e]
            exact sy
          · have s2 := kf_snd2 (ok := fun _ => True) (c1 := fun i => ml (18 * (2 ^ n - 1) + i)) (c2 := fun i => m2 (18 * (2 ^ n - 1) + i)) (q0 := (1000000000, 1000000000)) (Nat.le_refl _) (2 * n) (fun k hk => (same.1 (18 * (2 ^ n - 1) + k) (by omega)).1) i (m_trace slz sj ra so0 n (if mt = 0 then 1000000 else fz 4) 1000000 1).2.1 y1 g2 e trivial trivial (by
              show ml (18 * (2 ^ n - 1) + (m_trace slz sj ra so0 n (if mt = 0 then 1000000 else fz 4) 1000000 1).2.1) ≤ ml (18 * (2 ^ n - 1) + i)
              have f := kf_fst (ok := fun _ => True) (c1 := fun i => ml (18 * (2 ^ n - 1) + i)) (c2 := fun i => m2 (18 * (2 ^ n - 1) + i)) (q0 := (1000000000, 1000000000)) (2 * n) i y1 trivial
              rw [← look.2.2] at f
              exact Nat.le_trans (Nat.le_of_eq g70) f)
            exact Nat.le_trans s2 (lower hn (by omega) (by omega) htw nB h hB (2 ^ n - 1) (by omega) i (by omega))
      unfold isCap at capB capS
      omega
    · intro hor
      have hin : m_in so n a0 b0 := by
        apply Classical.byContradiction
        intro no
        have sn := sure_no hn (by omega) (by omega) htw h hB (relB_at (a0 := a0) (b0 := b0) (by omega) (by omega)) F (fun k hk z => no ⟨n - k - 2, by omega, by
          have := hs (n - k - 2) (by omega); rw [shr1, this, show n - (n - k - 2) = k + 2 by omega]; exact z.1, by
          have := hs (n - k - 2 + 1) (by omega); rw [shr1, this, show n - (n - k - 2 + 1) = k + 1 by omega]; exact z.2⟩) (n - 1) 0 (by omega) (by omega)
        have f := kf_fst (ok := fun _ => True) (c1 := fun i => mlB (18 * (2 ^ n - 1) + i)) (c2 := fun i => m2B (18 * (2 ^ n - 1) + i)) (q0 := (1000000000, 1000000000)) (2 * n) _ g2 trivial
        rw [← lookB.2.2] at f
        have g70 := (g7 rfl).1
        have z1 : (m_look mlB m2B (2 ^ n - 1)).1 ≤ (m_look ml m2 (2 ^ n - 1)).1 := Nat.le_trans f (Nat.le_trans sn (Nat.le_of_eq g70))
        omega
      refine ⟨hin, Or.inr ?_⟩
      unfold isCap at capB
      omega
