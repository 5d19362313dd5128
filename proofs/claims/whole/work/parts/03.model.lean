/-! THE CLASS AND THE REFERENCE AS FUNCTIONS over natural numbers: what each method does to its rows -/
def m_dist (x y : Nat) : Nat := (x - y) + (y - x)
/-- what a join costs before the gap is looked at: stands a and behind it b -/
def m_full (fb fe : Nat → Nat) (fw : Nat → Int32) (fc fd fs fz : Nat → Nat) (a b : Nat) : Nat :=
  fz 0 * m_dist (fb b) (fe (a ^^^ 1)) + (if fw (a ^^^ 1) = (-1) then 0 else if fw (a ^^^ 1) = nI (fb b) then 0 else fz 2) + (if fd (a ^^^ 1) = fc b then 0 else fz 3) + fz 1 * (m_dist (fs (3 * (a >>> 1))) (fs (3 * (b >>> 1))) + m_dist (fs (3 * (a >>> 1) + 1)) (fs (3 * (b >>> 1) + 1)) + m_dist (fs (3 * (a >>> 1) + 2)) (fs (3 * (b >>> 1) + 2)))
def m_over (fz : Nat → Nat) (c : Nat) : Prop := 0 < fz 5 ∧ fz 5 < c
/-- what a join costs -/
def m_join (fb fe : Nat → Nat) (fw : Nat → Int32) (fc fd fs fz : Nat → Nat) (a b : Nat) : Nat :=
  if 0 < fz 5 ∧ fz 5 < m_full fb fe fw fc fd fs fz a b then fz 5 else m_full fb fe fw fc fd fs fz a b
/-! the class -/
def m_pc (x : Nat) : Nat := x % 2 + x / 2 % 2 + x / 4 % 2 + x / 8 % 2 + x / 16 % 2 + x / 32 % 2 + x / 64 % 2 + x / 128 % 2 + x / 256 % 2
def m_nbr (ra : Nat → Nat) (leaf rest : Nat) : Nat := if ra leaf &&& rest = 0 then rest else if m_pc (ra leaf &&& rest) = 1 then ra leaf &&& rest else 0
def m_up (sl sj : Nat → Nat) (rest ahead stand : Nat) : Nat → Nat
  | 0 => 1000000
  | i + 1 => if (ahead >>> i) &&& 1 = 0 then m_up sl sj rest ahead stand i else min (min (m_up sl sj rest ahead stand i) (sl (rest * 18 + 2 * i) + sj (2 * i * 18 + stand))) (sl (rest * 18 + 2 * i + 1) + sj (2 * i * 18 + stand + 18))
theorem m_up_le (sl sj : Nat → Nat) (rest ahead stand : Nat) : ∀ i, m_up sl sj rest ahead stand i ≤ 1000000
  | 0 => Nat.le_refl _
  | i + 1 => by
    have ih := m_up_le sl sj rest ahead stand i
    rw [m_up]
    split
    · exact ih
    · omega
def m_upx (sl sj : Nat → Nat) (n rest ahead stand : Nat) : Nat := if rest = 0 then 0 else m_up sl sj rest ahead stand n
theorem m_upx_le (sl sj : Nat → Nat) (n rest ahead stand : Nat) : m_upx sl sj n rest ahead stand ≤ 1000000 := by
  unfold m_upx
  split
  · exact Nat.zero_le _
  · exact m_up_le _ _ _ _ _ _
def m_plain (rb rr sl sj : Nat → Nat) (n set leaf ahead : Nat) : Nat := if (rb leaf ||| rr leaf) &&& nclr set (2 ^ leaf) = 0 then m_upx sl sj n (nclr set (2 ^ leaf)) ahead (2 * leaf) else 1000000
def m_turn (rb rr sl sj : Nat → Nat) (n st set leaf ahead : Nat) : Nat := if (rb leaf ||| rr leaf) &&& nclr set (2 ^ leaf) = 0 then (if st < 1000000 then min 1000000 (m_upx sl sj n (nclr set (2 ^ leaf)) ahead (2 * leaf + 1) + st) else 1000000) else 1000000
def m_last (rb rr sl sj : Nat → Nat) (n st set leaf ahead : Nat) : Nat → Nat := upN (upN sl (set * 18 + 2 * leaf) (m_plain rb rr sl sj n set leaf ahead)) (set * 18 + 2 * leaf + 1) (m_turn rb rr sl sj n st set leaf ahead)
/-- the leaves that may be right ahead, without a banned one (18: none is banned) -/
def m_ahead (ra : Nat → Nat) (ba bb leaf rest : Nat) : Nat := if leaf = bb then nclr (m_nbr ra leaf rest) (2 ^ ba) else m_nbr ra leaf rest
def m_fillS (rb rr ra sj : Nat → Nat) (n st ba bb set : Nat) (sl : Nat → Nat) : Nat → (Nat → Nat)
  | 0 => sl
  | i + 1 => if (set >>> i) &&& 1 = 0 then m_fillS rb rr ra sj n st ba bb set sl i else m_last rb rr (m_fillS rb rr ra sj n st ba bb set sl i) sj n st set i (m_ahead ra ba bb i (nclr set (2 ^ i)))
/-- the sets 1 .. k filled -/
def m_fill (rb rr ra sj : Nat → Nat) (n st ba bb : Nat) (sl : Nat → Nat) : Nat → (Nat → Nat)
  | 0 => sl
  | k + 1 => m_fillS rb rr ra sj n st ba bb (k + 1) (m_fill rb rr ra sj n st ba bb sl k) n
def m_of (sl : Nat → Nat) (set : Nat) : Nat → Nat
  | 0 => 1000000
  | i + 1 => if (set >>> (i >>> 1)) &&& 1 = 0 then m_of sl set i else min (m_of sl set i) (sl (set * 18 + i))
theorem m_of_le (sl : Nat → Nat) (set : Nat) : ∀ i, m_of sl set i ≤ 1000000
  | 0 => Nat.le_refl _
  | i + 1 => by
    have ih := m_of_le sl set i
    rw [m_of]
    split
    · exact ih
    · omega
def m_costs (sl : Nat → Nat) (n : Nat) (ss : Nat → Nat) : Nat → (Nat → Nat)
  | 0 => upN ss 0 0
  | k + 1 => upN (m_costs sl n ss k) (k + 1) (m_of sl (k + 1) (2 * n))
/-- the join of a stand and the one behind it (18: none) -/
def m_link (sj : Nat → Nat) (stand behind : Nat) : Nat := if behind < 18 then sj (stand * 18 + behind) else 0
def m_ends (ra : Nat → Nat) (set behind : Nat) : Nat := if behind < 18 then m_nbr ra (behind >>> 1) set else set
def m_cost (sl sj : Nat → Nat) (set behind tail stand : Nat) : Nat := sl (set * 18 + stand) + m_link sj stand behind + tail
/-- the stand that is picked, its cost, the next one's cost -/
def m_pick (sl sj : Nat → Nat) (ends set behind tail sx : Nat) : Nat → Nat × Nat × Nat
  | 0 => (0, 1000000, sx)
  | i + 1 =>
    let q := m_pick sl sj ends set behind tail sx i
    if (ends >>> (i >>> 1)) &&& 1 = 0 then q
    else if m_cost sl sj set behind tail i < q.2.1 then (i, m_cost sl sj set behind tail i, min q.2.2 q.2.1)
    else (q.1, q.2.1, min q.2.2 (m_cost sl sj set behind tail i))
/-- the trace, from its last place on: k places done; set, behind, tail, order, next -/
def m_trace (sl sj ra so : Nat → Nat) (n st sx : Nat) : Nat → Nat × Nat × Nat × (Nat → Nat) × Nat
  | 0 => (2 ^ n - 1, 18, 0, so, sx)
  | k + 1 =>
    let q := m_trace sl sj ra so n st sx k
    let z := m_pick sl sj (m_ends ra q.1 q.2.1) q.1 q.2.1 q.2.2.1 q.2.2.2.2 (2 * n)
    (nclr q.1 (2 ^ (z.1 >>> 1)), z.1, q.2.2.1 + (m_link sj z.1 q.2.1 + (z.1 &&& 1) * st), upN q.2.2.2.1 (n - 1 - k) z.1, z.2.2)
def m_joins (n : Nat) (J : Nat → Nat → Nat) (sj : Nat → Nat) (a : Nat) : Nat → (Nat → Nat)
  | 0 => sj
  | b + 1 => upN (m_joins n J sj a b) (a * 18 + b) (J a b)
def m_prep (n : Nat) (J : Nat → Nat → Nat) (sj : Nat → Nat) : Nat → (Nat → Nat)
  | 0 => sj
  | a + 1 => m_joins n J (m_prep n J sj a) a (2 * n)
def m_two (ss : Nat → Nat) (n set : Nat) : Nat := ss set + ss (nclr (2 ^ n - 1) set)
/-- the books of the sets 2, 4 .. 2 k: cost, other -/
def m_part (ss : Nat → Nat) (n : Nat) : Nat → Nat × Nat
  | 0 => (1000000, 0)
  | k + 1 => if m_two ss n (2 * (k + 1)) < (m_part ss n k).1 then (m_two ss n (2 * (k + 1)), 2 * (k + 1)) else m_part ss n k
def m_moved (ss : Nat → Nat) (n other leaf : Nat) : Nat → Nat
  | 0 => 1000000
  | k + 1 => if ((2 * (k + 1) ^^^ other) >>> leaf) &&& 1 = 0 then m_moved ss n other leaf k else min (m_moved ss n other leaf k) (m_two ss n (2 * (k + 1)))
theorem m_pc_le (x : Nat) : m_pc x ≤ 9 := by unfold m_pc; omega
theorem nclr_le (a m : Nat) : nclr a m ≤ a := by
  apply Nat.le_of_testBit_le
  intro i
  rw [nclr_t]
  cases a.testBit i <;> simp
def ush (x y : Int32) : Int32 := (x.toUInt32 >>> (y.toUInt32 &&& Int32.toUInt32 31)).toInt32
def bcE (x : Int32) : Int32 :=
  let a := x - (ush x (nI 1) &&& nI 1431655765)
  let b := (a &&& nI 858993459) + (ush a (nI 2) &&& nI 858993459)
  let c := (b + ush b (nI 4)) &&& nI 252645135
  let d := c + ush c (nI 8)
  let e := d + ush d (nI 16)
  e &&& nI 63
theorem bcE_ok : ∀ q, q < 512 → bcE (nI q) = nI (m_pc q) := by decide +kernel
def bhN (b : Nat) : Int32 := if b < 18 then nI b else (-1)
theorem bhN_lt {b : Nat} (h : b < 18) : bhN b = nI b := by unfold bhN; rw [if_pos h]
theorem bhN_18 : bhN 18 = (-1) := by decide
theorem m_nbr_lt (ra : Nat → Nat) (leaf rest : Nat) (h : rest < 512) : m_nbr ra leaf rest < 512 := by
  unfold m_nbr
  split
  · exact h
  · split
    · exact Nat.lt_of_le_of_lt Nat.and_le_right h
    · decide
theorem bhN_leaf {i b : Nat} (hi : i < 18) (h : nI i = bhN b) : i = b := by
  unfold bhN at h
  split at h
  · rename_i q; exact (nI_eq (by omega) (by omega)).mp h
  · exact absurd h (ln_nm1 (by omega))
