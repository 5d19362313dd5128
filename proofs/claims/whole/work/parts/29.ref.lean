/-! THE REFERENCE AS FUNCTIONS -/
theorem in_isN {x : Int32} {k : Nat} (hk : k < 2147483647) : (¬ x < nI 0 ∧ ¬ nI k < x) ↔ isN x (k + 1) := by
  constructor
  · intro h; exact isN_y h.1 h.2 (by omega)
  · rintro ⟨j, hj, rfl⟩
    exact ⟨fun q => nI_pos (by omega) q, fun q => by have := (nI_ltI (by omega) (by omega)).mp q; omega⟩
theorem in_leaf {x : Int32} {n : Nat} (hn : n ≤ 9) : (¬ x < nI 0 ∧ ¬ nI n - nI 1 < x) ↔ isN x n := by
  rcases Nat.eq_zero_or_pos n with q | q
  · subst q
    constructor
    · intro h
      exfalso
      obtain ⟨j, hj, rfl⟩ := nI_of h.1
      exact h.2 (by
        show (nI 0 - nI 1 : Int32) < nI j
        rw [show (nI 0 - nI 1 : Int32) = (-1) from by decide]
        exact Int32.lt_iff_toInt_lt.mpr (by rw [nI_toInt hj, show (-1 : Int32).toInt = -1 from by decide]; omega))
    · rintro ⟨j, hj, -⟩; omega
  · rw [pk_sub q]
    have h := in_isN (x := x) (k := n - 1) (by omega)
    rw [show n - 1 + 1 = n by omega] at h
    exact h
theorem in_word {x : Int32} : (¬ x < (-1) ∧ ¬ nI 99 < x) ↔ (x = (-1) ∨ isN x 100) := by
  constructor
  · intro h
    by_cases e : x = (-1)
    · exact Or.inl e
    · refine Or.inr (isN_y (k := 99) (fun q => ?_) h.2 (by decide))
      have h1 : ¬ x.toInt < -1 := fun z => h.1 (Int32.lt_iff_toInt_lt.mpr (by rw [show (-1 : Int32).toInt = -1 from by decide]; exact z))
      have h2 : x.toInt < 0 := Int32.lt_iff_toInt_lt.mp q
      exact e (Int32.toInt_inj.mp (by rw [show (-1 : Int32).toInt = -1 from by decide]; omega))
  · rintro (rfl | ⟨j, hj, rfl⟩)
    · exact ⟨by decide, by decide⟩
    · exact ⟨fun q => by have := Int32.lt_iff_toInt_lt.mp q; rw [nI_toInt (by omega), show (-1 : Int32).toInt = -1 from by decide] at this; omega, fun q => by have := (nI_ltI (by decide) (by omega)).mp q; omega⟩
theorem m_dist_c (x y : Nat) : m_dist x y = m_dist y x := by unfold m_dist; omega
theorem xor1_e {a t : Nat} (h : t < 2) : (2 * a + t) ^^^ 1 = 2 * a + 1 - t := by
  rcases (show t = 0 ∨ t = 1 by omega) with rfl | rfl
  · apply Nat.eq_of_testBit_eq
    intro i
    rw [Nat.testBit_xor]
    cases i with
    | zero => simp [Nat.testBit_zero]
    | succ i => simp [Nat.testBit_succ]; congr 1; omega
  · apply Nat.eq_of_testBit_eq
    intro i
    rw [Nat.testBit_xor]
    cases i with
    | zero => simp [Nat.testBit_zero]
    | succ i => simp [Nat.testBit_succ]; congr 1; omega
theorem shr1_e {a t : Nat} (h : t < 2) : (2 * a + t) >>> 1 = a := by rw [Nat.shiftRight_eq_div_pow]; omega
/-- whole's sum ahead of the stains -/
def m_w0 (fb fe : Nat → Nat) (fw : Nat → Int32) (fc fd fz : Nat → Nat) (q1 q2 q3 q4 : Nat) : Nat :=
  fz 0 * m_dist (fe (2 * q1 + 1 - q2)) (fb (2 * q3 + q4)) + (if fw (2 * q1 + 1 - q2) = (-1) then 0 else if fw (2 * q1 + 1 - q2) = nI (fb (2 * q3 + q4)) then 0 else fz 2) + (if fd (2 * q1 + 1 - q2) = fc (2 * q3 + q4) then 0 else fz 3)
theorem m_w0_full (fb fe : Nat → Nat) (fw : Nat → Int32) (fc fd fs fz : Nat → Nat) (q1 q2 q3 q4 : Nat) (h2 : q2 < 2) (h4 : q4 < 2) : m_w0 fb fe fw fc fd fz q1 q2 q3 q4 + fz 1 * m_sap fs q1 q3 3 = m_full fb fe fw fc fd fs fz (2 * q1 + q2) (2 * q3 + q4) := by
  unfold m_w0 m_full
  rw [xor1_e h2, shr1_e h2, shr1_e h4, m_dist_c]
/-- may leaf l stand right behind last, with set ahead -/
def m_may (gA gJ : Nat → Nat) (n set last l : Nat) : Prop := ∀ k, k < n → ¬ (set >>> k) &&& 1 = 0 → gA (9 * l + k) = 0 ∧ gJ (9 * l + k) = 0 ∧ (gJ (9 * k + l) = 0 ∨ k = last)
def m_keepL (ml : Nat → Nat) (q c : Nat) : Nat → Nat := if c < ml q then upN ml q c else ml
def m_keepS (ml m2 : Nat → Nat) (q c : Nat) : Nat → Nat := if c < ml q then upN m2 q (ml q) else if c < m2 q then upN m2 q c else m2
def m_kp (p : (Nat → Nat) × (Nat → Nat)) (q c : Nat) : (Nat → Nat) × (Nat → Nat) := (m_keepL p.1 q c, m_keepS p.1 p.2 q c)
/-- one step: the two costs kept at a place -/
def m_kp2 (p : (Nat → Nat) × (Nat → Nat)) (q one two more : Nat) : (Nat → Nat) × (Nat → Nat) := if two < 1000000000 then m_kp (m_kp p q (one + more)) q (two + more) else m_kp p q (one + more)
def m_goT (J : Nat → Nat → Nat) (tw set last turn one two l : Nat) (p : (Nat → Nat) × (Nat → Nat)) : Nat → (Nat → Nat) × (Nat → Nat)
  | 0 => p
  | t + 1 => m_kp2 (m_goT J tw set last turn one two l p t) (18 * (set ||| 2 ^ l) + 2 * l + t) one two (J (2 * last + turn) (2 * l + t) + t * tw)
/-- what bars: B last l says that l may not stand right behind last -/
noncomputable def m_go (J : Nat → Nat → Nat) (gA gJ : Nat → Nat) (B : Nat → Nat → Prop) (n tw ways set last turn one two : Nat) (p : (Nat → Nat) × (Nat → Nat)) : Nat → (Nat → Nat) × (Nat → Nat)
  | 0 => p
  | l + 1 => cif ((set >>> l) &&& 1 = 0 ∧ m_may gA gJ n set last l ∧ ¬ B last l) (m_goT J tw set last turn one two l (m_go J gA gJ B n tw ways set last turn one two p l) ways) (m_go J gA gJ B n tw ways set last turn one two p l)
/-- a set's last leaf and its turns gone through -/
noncomputable def m_orT (J : Nat → Nat → Nat) (gA gJ : Nat → Nat) (B : Nat → Nat → Prop) (n tw ways set last : Nat) (p : (Nat → Nat) × (Nat → Nat)) : Nat → (Nat → Nat) × (Nat → Nat)
  | 0 => p
  | t + 1 =>
    if (m_orT J gA gJ B n tw ways set last p t).1 (18 * set + 2 * last + t) < 1000000000 then
      m_go J gA gJ B n tw ways set last t ((m_orT J gA gJ B n tw ways set last p t).1 (18 * set + 2 * last + t)) ((m_orT J gA gJ B n tw ways set last p t).2 (18 * set + 2 * last + t)) (m_orT J gA gJ B n tw ways set last p t) n
    else m_orT J gA gJ B n tw ways set last p t
noncomputable def m_orL (J : Nat → Nat → Nat) (gA gJ : Nat → Nat) (B : Nat → Nat → Prop) (n tw ways set : Nat) (p : (Nat → Nat) × (Nat → Nat)) : Nat → (Nat → Nat) × (Nat → Nat)
  | 0 => p
  | l + 1 => m_orT J gA gJ B n tw ways set l (m_orL J gA gJ B n tw ways set p l) ways
/-- the sets 1 .. k gone through -/
noncomputable def m_or (J : Nat → Nat → Nat) (gA gJ : Nat → Nat) (B : Nat → Nat → Prop) (n tw ways : Nat) (p : (Nat → Nat) × (Nat → Nat)) : Nat → (Nat → Nat) × (Nat → Nat)
  | 0 => p
  | k + 1 => m_orL J gA gJ B n tw ways (k + 1) (m_or J gA gJ B n tw ways p k) n
/-- the rows at the start: never, for the first k places -/
def m_nev (f : Nat → Nat) : Nat → (Nat → Nat)
  | 0 => f
  | k + 1 => upN (m_nev f k) k 1000000000
def m_baT (tw l : Nat) (f : Nat → Nat) : Nat → (Nat → Nat)
  | 0 => f
  | t + 1 => upN (m_baT tw l f t) (18 * 2 ^ l + 2 * l + t) (t * tw)
def m_ba (tw ways : Nat) (f : Nat → Nat) : Nat → (Nat → Nat)
  | 0 => f
  | l + 1 => m_baT tw l (m_ba tw ways f l) ways
noncomputable def m_ord (J : Nat → Nat → Nat) (gA gJ : Nat → Nat) (B : Nat → Nat → Prop) (n tw ways : Nat) (ml m2 : Nat → Nat) : (Nat → Nat) × (Nat → Nat) := m_or J gA gJ B n tw ways (m_ba tw ways (m_nev ml (18 * 2 ^ n)) n, m_nev m2 (18 * 2 ^ n)) (2 ^ n - 1)
/-- looks: the least and the second of a set, over the first i of its stands -/
def m_lkS (a b : Nat) (q : Nat × Nat) : Nat × Nat := if a < q.1 then (a, if b < q.1 then b else q.1) else if a < q.2 then (q.1, a) else q
def m_lk (ml m2 : Nat → Nat) (set : Nat) : Nat → Nat × Nat
  | 0 => (if set = 0 then 0 else 1000000000, 1000000000)
  | i + 1 => m_lkS (ml (18 * set + i)) (m2 (18 * set + i)) (m_lk ml m2 set i)
def m_look (ml m2 : Nat → Nat) (set : Nat) : Nat × Nat := if set = 0 then (0, 1000000000) else m_lk ml m2 set 18
def m_told (v : Nat) : Int32 := if v = 1000000000 then (-1) else nI v
/-- parts, over the sets 2 .. 2 k: best, parted; S says which sets count -/
noncomputable def m_prt (ml m2 : Nat → Nat) (n : Nat) (S : Nat → Prop) (pt : Nat) : Nat → Nat × Nat
  | 0 => (1000000000, pt)
  | k + 1 => cif (S (2 * (k + 1)) ∧ (m_look ml m2 (2 * (k + 1))).1 < 1000000000 ∧ (m_look ml m2 (2 ^ n - 1 - 2 * (k + 1))).1 < 1000000000 ∧ (m_look ml m2 (2 * (k + 1))).1 + (m_look ml m2 (2 ^ n - 1 - 2 * (k + 1))).1 < (m_prt ml m2 n S pt k).1)
      ((m_look ml m2 (2 * (k + 1))).1 + (m_look ml m2 (2 ^ n - 1 - 2 * (k + 1))).1, 2 * (k + 1)) (m_prt ml m2 n S pt k)
theorem or9 {a l : Nat} (h : a < 512) (hl : l < 9) : a ||| 2 ^ l < 512 := Nat.or_lt_two_pow (n := 9) h (Nat.lt_of_lt_of_le (Nat.pow_lt_pow_right (by decide) hl) (by decide))
theorem or_step {J : Nat → Nat → Nat} {gA gJ : Nat → Nat} {B : Nat → Nat → Prop} {n tw ways set lf : Nat} {p0 q q2 : (Nat → Nat) × (Nat → Nat)} (hs : 1 ≤ set) (h : q = m_or J gA gJ B n tw ways p0 (set - 1)) (h2 : q2 = m_orL J gA gJ B n tw ways set q lf) (e : lf = n) : q2 = m_or J gA gJ B n tw ways p0 (set + 1 - 1) := by
  subst e
  obtain ⟨k, rfl⟩ : ∃ k, set = k + 1 := ⟨set - 1, by omega⟩
  rw [Nat.add_sub_cancel] at h ⊢
  rw [m_or, ← h]
  exact h2
theorem orL_step {J : Nat → Nat → Nat} {gA gJ : Nat → Nat} {B : Nat → Nat → Prop} {n tw ways set lf t : Nat} {p0 q q2 : (Nat → Nat) × (Nat → Nat)} (h : q = m_orL J gA gJ B n tw ways set p0 lf) (h2 : q2 = m_orT J gA gJ B n tw ways set lf q t) (e : t = ways) : q2 = m_orL J gA gJ B n tw ways set p0 (lf + 1) := by
  subst e
  rw [m_orL, ← h]
  exact h2
theorem lk_end {ml m2 : Nat → Nat} {set i a b : Nat} (h : (a, b) = m_lk ml m2 set i) (hi : i = 18) (hs : 0 < i → ¬ set = 0) : (a, b) = m_look ml m2 set := by
  subst hi
  unfold m_look
  rw [if_neg (hs (by decide))]
  exact h
theorem prt_no {a b c : Prop} {k lf q2 : Nat} (hq : lf < 18) (h1 : ¬ ((2 * (k + 1)) >>> lf) &&& 1 = 1 → q2 = 2) (h2 : ((2 * (k + 1)) >>> lf) &&& 1 = 1 → ¬ q2 = 2) : ¬ ((lf < 18 → (((2 * (k + 1)) >>> lf) &&& 1 = 1 ↔ q2 = 2)) ∧ a ∧ b ∧ c) := fun q => by
  have z := q.1 hq
  by_cases y : ((2 * (k + 1)) >>> lf) &&& 1 = 1
  · exact h2 y (z.mp y)
  · exact y (z.mpr (h1 y))
theorem prt_skip {ml m2 : Nat → Nat} {n pt k : Nat} {S : Nat → Prop} {bs pv u1 u2 v1 v2 : Nat} (h : (bs, pv) = m_prt ml m2 n S pt k) (h1 : (u1, u2) = m_look ml m2 (2 * (k + 1))) (h2 : (v1, v2) = m_look ml m2 (2 ^ n - 1 - 2 * (k + 1))) (hn : 1000000000 ≤ u1 ∨ 1000000000 ≤ v1 ∨ bs ≤ u1 + v1) : (bs, pv) = m_prt ml m2 n S pt (k + 1) := by
  rw [m_prt, cif_f (fun q => ?_)]
  · exact h
  · rw [← h1, ← h2, ← h] at q
    have a := q.2.1
    have b := q.2.2.1
    have c := q.2.2.2
    dsimp only at a b c
    omega
theorem prt_take {ml m2 : Nat → Nat} {n pt k : Nat} {S : Nat → Prop} {bs pv u1 u2 v1 v2 : Nat} (h : (bs, pv) = m_prt ml m2 n S pt k) (h1 : (u1, u2) = m_look ml m2 (2 * (k + 1))) (h2 : (v1, v2) = m_look ml m2 (2 ^ n - 1 - 2 * (k + 1))) (hS : S (2 * (k + 1))) (a : u1 < 1000000000) (b : v1 < 1000000000) (c : u1 + v1 < bs) : (u1 + v1, 2 * (k + 1)) = m_prt ml m2 n S pt (k + 1) := by
  rw [m_prt, cif_t ?_, ← h1, ← h2]
  rw [← h1, ← h2, ← h]
  exact ⟨hS, a, b, c⟩
