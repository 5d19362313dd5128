/-! THE CLASS AND THE REFERENCE AS FUNCTIONS over natural numbers: what each method does to its rows -/
def m_sap (fs : Nat → Nat) (a b : Nat) : Nat → Nat
  | 0 => 0
  | k + 1 => m_sap fs a b k + m_dist (fs (3 * a + k)) (fs (3 * b + k))
/-- what a join costs before the gap is looked at: stands a and behind it b -/
def m_full (fb fe : Nat → Nat) (fw : Nat → Int32) (fc fd fs fz : Nat → Nat) (a b : Nat) : Nat :=
  fz 0 * m_dist (fb b) (fe (a ^^^ 1)) + (if fw (a ^^^ 1) = (-1) then 0 else if fw (a ^^^ 1) = nI (fb b) then 0 else fz 2) + (if fd (a ^^^ 1) = fc b then 0 else fz 3) + fz 1 * m_sap fs (a >>> 1) (b >>> 1) 3
def m_over (fz : Nat → Nat) (c : Nat) : Prop := 0 < fz 5 ∧ fz 5 < c
/-- what a join costs -/
def m_join (fb fe : Nat → Nat) (fw : Nat → Int32) (fc fd fs fz : Nat → Nat) (a b : Nat) : Nat :=
  if 0 < fz 5 ∧ fz 5 < m_full fb fe fw fc fd fs fz a b then fz 5 else m_full fb fe fw fc fd fs fz a b
/-! the class -/
def m_pc (x : Nat) : Nat := x % 2 + x / 2 % 2 + x / 4 % 2 + x / 8 % 2 + x / 16 % 2 + x / 32 % 2 + x / 64 % 2 + x / 128 % 2 + x / 256 % 2
def m_nbr (ra : Nat → Nat) (leaf rest : Nat) : Nat := if ra leaf &&& rest = 0 then rest else if m_pc (ra leaf &&& rest) = 1 then ra leaf &&& rest else 0
def m_up (sl sj : Nat → Nat) (rest ahead stand : Nat) : Nat → Nat
  | 0 => 1000000
  | i + 1 => if (ahead >>> i) &&& 1 = 0 then m_up sl sj rest ahead stand i else min (min (m_up sl sj rest ahead stand i) (sl (rest * 18 + 2 * i) + sj (2 * i * 18 + stand))) (sl (rest * 18 + 2 * i + 1) + sj (2 * i * 18 + stand + 18))
theorem m_up_le (sl sj : Nat → Nat) (rest ahead stand : Nat) : ∀ i, m_up sl sj rest ahead stand i ≤ 1000000
  | 0 => Nat.le_refl _
  | i + 1 => by
    have ih := m_up_le sl sj rest ahead stand i
    rw [m_up]
    split
    · exact ih
    · omega
def m_upx (sl sj : Nat → Nat) (n rest ahead stand : Nat) : Nat := if rest = 0 then 0 else m_up sl sj rest ahead stand n
theorem m_upx_le (sl sj : Nat → Nat) (n rest ahead stand : Nat) : m_upx sl sj n rest ahead stand ≤ 1000000 := by
  unfold m_upx
  split
  · exact Nat.zero_le _
  · exact m_up_le _ _ _ _ _ _
def m_plain (rb rr sl sj : Nat → Nat) (n set leaf ahead : Nat) : Nat := if (rb leaf ||| rr leaf) &&& nclr set (2 ^ leaf) = 0 then m_upx sl sj n (nclr set (2 ^ leaf)) ahead (2 * leaf) else 1000000
def m_turn (rb rr sl sj : Nat → Nat) (n st set leaf ahead : Nat) : Nat := if (rb leaf ||| rr leaf) &&& nclr set (2 ^ leaf) = 0 then (if st < 1000000 then min 1000000 (m_upx sl sj n (nclr set (2 ^ leaf)) ahead (2 * leaf + 1) + st) else 1000000) else 1000000
def m_last (rb rr sl sj : Nat → Nat) (n st set leaf ahead : Nat) : Nat → Nat := upN (upN sl (set * 18 + 2 * leaf) (m_plain rb rr sl sj n set leaf ahead)) (set * 18 + 2 * leaf + 1) (m_turn rb rr sl sj n st set leaf ahead)
/-- the leaves that may be right ahead, without a banned one (18: none is banned) -/
def m_ahead (ra : Nat → Nat) (ba bb leaf rest : Nat) : Nat := if leaf = bb then nclr (m_nbr ra leaf rest) (2 ^ ba) else m_nbr ra leaf rest
def m_fillS (rb rr ra sj : Nat → Nat) (n st ba bb set : Nat) (sl : Nat → Nat) : Nat → (Nat → Nat)
  | 0 => sl
  | i + 1 => if (set >>> i) &&& 1 = 0 then m_fillS rb rr ra sj n st ba bb set sl i else m_last rb rr (m_fillS rb rr ra sj n st ba bb set sl i) sj n st set i (m_ahead ra ba bb i (nclr set (2 ^ i)))
/-- the sets 1 .. k filled -/
def m_fill (rb rr ra sj : Nat → Nat) (n st ba bb : Nat) (sl : Nat → Nat) : Nat → (Nat → Nat)
  | 0 => sl
  | k + 1 => m_fillS rb rr ra sj n st ba bb (k + 1) (m_fill rb rr ra sj n st ba bb sl k) n
def m_of (sl : Nat → Nat) (set : Nat) : Nat → Nat
  | 0 => 1000000
  | i + 1 => if (set >>> (i >>> 1)) &&& 1 = 0 then m_of sl set i else min (m_of sl set i) (sl (set * 18 + i))
theorem m_of_le (sl : Nat → Nat) (set : Nat) : ∀ i, m_of sl set i ≤ 1000000
  | 0 => Nat.le_refl _
  | i + 1 => by
    have ih := m_of_le sl set i
    rw [m_of]
    split
    · exact ih
    · omega
def m_costs (sl : Nat → Nat) (n : Nat) (ss : Nat → Nat) : Nat → (Nat → Nat)
  | 0 => upN ss 0 0
  | k + 1 => upN (m_costs sl n ss k) (k + 1) (m_of sl (k + 1) (2 * n))
/-- the join of a stand and the one behind it (18: none) -/
def m_link (sj : Nat → Nat) (stand behind : Nat) : Nat := if behind < 18 then sj (stand * 18 + behind) else 0
def m_ends (ra : Nat → Nat) (set behind : Nat) : Nat := if behind < 18 then m_nbr ra (behind >>> 1) set else set
def m_cost (sl sj : Nat → Nat) (set behind tail stand : Nat) : Nat := sl (set * 18 + stand) + m_link sj stand behind + tail
/-- the stand that is picked, its cost, the next one's cost -/
def m_pst (c i : Nat) (q : Nat × Nat × Nat) : Nat × Nat × Nat := if c < q.2.1 then (i, c, min q.2.2 q.2.1) else (q.1, q.2.1, min q.2.2 c)
def m_pick (sl sj : Nat → Nat) (ends set behind tail sx : Nat) : Nat → Nat × Nat × Nat
  | 0 => (0, 1000000, sx)
  | i + 1 => if (ends >>> (i >>> 1)) &&& 1 = 0 then m_pick sl sj ends set behind tail sx i else m_pst (m_cost sl sj set behind tail i) i (m_pick sl sj ends set behind tail sx i)
def m_tz (sl sj ra : Nat → Nat) (n : Nat) (q : Nat × Nat × Nat × (Nat → Nat) × Nat) : Nat × Nat × Nat := m_pick sl sj (m_ends ra q.1 q.2.1) q.1 q.2.1 q.2.2.1 q.2.2.2.2 (2 * n)
def m_tst (sl sj ra : Nat → Nat) (n st k : Nat) (q : Nat × Nat × Nat × (Nat → Nat) × Nat) : Nat × Nat × Nat × (Nat → Nat) × Nat :=
  (nclr q.1 (2 ^ ((m_tz sl sj ra n q).1 >>> 1)), (m_tz sl sj ra n q).1, q.2.2.1 + (m_link sj (m_tz sl sj ra n q).1 q.2.1 + ((m_tz sl sj ra n q).1 &&& 1) * st), upN q.2.2.2.1 (n - 1 - k) (m_tz sl sj ra n q).1, (m_tz sl sj ra n q).2.2)
/-- the trace, from its last place on: k places done; set, behind, tail, order, next -/
def m_trace (sl sj ra so : Nat → Nat) (n st sx : Nat) : Nat → Nat × Nat × Nat × (Nat → Nat) × Nat
  | 0 => (2 ^ n - 1, 18, 0, so, sx)
  | k + 1 => m_tst sl sj ra n st k (m_trace sl sj ra so n st sx k)
def m_joins (n : Nat) (J : Nat → Nat → Nat) (sj : Nat → Nat) (a : Nat) : Nat → (Nat → Nat)
  | 0 => sj
  | b + 1 => upN (m_joins n J sj a b) (a * 18 + b) (J a b)
def m_prep (n : Nat) (J : Nat → Nat → Nat) (sj : Nat → Nat) : Nat → (Nat → Nat)
  | 0 => sj
  | a + 1 => m_joins n J (m_prep n J sj a) a (2 * n)
def m_two (ss : Nat → Nat) (n set : Nat) : Nat := ss set + ss (nclr (2 ^ n - 1) set)
/-- the books of the sets 2, 4 .. 2 k: cost, other -/
def m_part (ss : Nat → Nat) (n : Nat) : Nat → Nat × Nat
  | 0 => (1000000, 0)
  | k + 1 => if m_two ss n (2 * (k + 1)) < (m_part ss n k).1 then (m_two ss n (2 * (k + 1)), 2 * (k + 1)) else m_part ss n k
def m_moved (ss : Nat → Nat) (n other leaf : Nat) : Nat → Nat
  | 0 => 1000000
  | k + 1 => if ((2 * (k + 1) ^^^ other) >>> leaf) &&& 1 = 0 then m_moved ss n other leaf k else min (m_moved ss n other leaf k) (m_two ss n (2 * (k + 1)))
theorem m_pc_le (x : Nat) : m_pc x ≤ 9 := by unfold m_pc; omega
theorem nclr_le (a m : Nat) : nclr a m ≤ a := by
  have e : nclr a m &&& a = nclr a m := Nat.eq_of_testBit_eq (fun i => by rw [Nat.testBit_and, nclr_t]; cases a.testBit i <;> cases m.testBit i <;> rfl)
  rw [← e]
  exact Nat.and_le_right
def ush (x y : Int32) : Int32 := (x.toUInt32 >>> (y.toUInt32 &&& Int32.toUInt32 31)).toInt32
def bcE (x : Int32) : Int32 :=
  let a := x - (ush x (nI 1) &&& nI 1431655765)
  let b := (a &&& nI 858993459) + (ush a (nI 2) &&& nI 858993459)
  let c := (b + ush b (nI 4)) &&& nI 252645135
  let d := c + ush c (nI 8)
  let e := d + ush d (nI 16)
  e &&& nI 63
theorem bcE_ok : ∀ q, q < 512 → bcE (nI q) = nI (m_pc q) := by decide +kernel
def bhN (b : Nat) : Int32 := if b < 18 then nI b else (-1)
theorem bhN_lt {b : Nat} (h : b < 18) : bhN b = nI b := by unfold bhN; rw [if_pos h]
theorem bhN_18 : bhN 18 = (-1) := by decide
theorem m_nbr_lt (ra : Nat → Nat) (leaf rest : Nat) (h : rest < 512) : m_nbr ra leaf rest < 512 := by
  unfold m_nbr
  split
  · exact h
  · split
    · exact Nat.lt_of_le_of_lt Nat.and_le_right h
    · decide
theorem bhN_leaf {i b : Nat} (hi : i < 18) (h : nI i = bhN b) : i = b := by
  unfold bhN at h
  split at h
  · rename_i q; exact (nI_eq (by omega) (by omega)).mp h
  · exact absurd h (ln_nm1 (by omega))
theorem m_link_le {sj : Nat → Nat} (h : ∀ k, sj k ≤ 10000) (a b : Nat) : m_link sj a b ≤ 10000 := by
  unfold m_link
  split
  · exact h _
  · exact Nat.zero_le _
theorem m_ends_lt (ra : Nat → Nat) (set b : Nat) (h : set < 512) : m_ends ra set b < 512 := by
  unfold m_ends
  split
  · exact m_nbr_lt _ _ _ h
  · exact h
def m_in (so : Nat → Nat) (n a b : Nat) : Prop := ∃ k, k + 1 < n ∧ so k >>> 1 = a ∧ so (k + 1) >>> 1 = b
theorem pl_neg {p : Nat} (hp : p < 2 ^ 30) (h : nI p - nI 1 < 0) : p = 0 := by
  rcases Nat.eq_zero_or_pos p with q | q
  · exact q
  · rw [pk_sub q] at h
    exact absurd h (nI_pos (by omega))
theorem pl_pos {p : Nat} (h : ¬ nI p - nI 1 < 0) : 1 ≤ p := by
  rcases Nat.eq_zero_or_pos p with q | q
  · subst q; exact absurd (by decide) h
  · exact q
theorem xor1_lt {a : Nat} (h : a < 18) : a ^^^ 1 < 18 := by
  have : ∀ a, a < 18 → a ^^^ 1 < 18 := by decide
  exact this a h
theorem m_dist_le {x y B : Nat} (h1 : x ≤ B) (h2 : y ≤ B) : m_dist x y ≤ B := by unfold m_dist; omega
theorem m_full_le (fb fe : Nat → Nat) (fw : Nat → Int32) (fc fd fs fz : Nat → Nat) (a b : Nat) (hb : ∀ k, fb k ≤ 99) (he : ∀ k, fe k ≤ 99) (hs : ∀ k, fs k ≤ 99) (hz : ∀ k, fz k ≤ 999) : m_full fb fe fw fc fd fs fz a b ≤ 500000 := by
  have h1 := Nat.mul_le_mul (hz 0) (m_dist_le (hb b) (he (a ^^^ 1)))
  have h2 : m_sap fs (a >>> 1) (b >>> 1) 3 ≤ 297 := by
    have a0 := m_dist_le (hs (3 * (a >>> 1) + 0)) (hs (3 * (b >>> 1) + 0))
    have a1 := m_dist_le (hs (3 * (a >>> 1) + 1)) (hs (3 * (b >>> 1) + 1))
    have a2 := m_dist_le (hs (3 * (a >>> 1) + 2)) (hs (3 * (b >>> 1) + 2))
    show 0 + m_dist (fs (3 * (a >>> 1) + 0)) (fs (3 * (b >>> 1) + 0)) + m_dist (fs (3 * (a >>> 1) + 1)) (fs (3 * (b >>> 1) + 1)) + m_dist (fs (3 * (a >>> 1) + 2)) (fs (3 * (b >>> 1) + 2)) ≤ 297
    omega
  have h3 := Nat.mul_le_mul (hz 1) h2
  have h4 : (if fw (a ^^^ 1) = (-1) then 0 else if fw (a ^^^ 1) = nI (fb b) then 0 else fz 2) ≤ 999 := by
    have := hz 2
    split
    · omega
    · split <;> omega
  have h5 : (if fd (a ^^^ 1) = fc b then 0 else fz 3) ≤ 999 := by
    have := hz 3
    split <;> omega
  unfold m_full
  omega
theorem m_full_le2 (fb fe : Nat → Nat) (fw : Nat → Int32) (fc fd fs fz : Nat → Nat) (a b : Nat) (hb : ∀ k, fb k ≤ 99) (he : ∀ k, fe k ≤ 99) (hs : ∀ k, fs k ≤ 99) (hz : ∀ k, fz k ≤ 999) (hw : fz 0 ≤ 9 ∧ fz 1 ≤ 9) : m_full fb fe fw fc fd fs fz a b ≤ 10000 := by
  have h1 := Nat.mul_le_mul hw.1 (m_dist_le (hb b) (he (a ^^^ 1)))
  have h2 : m_sap fs (a >>> 1) (b >>> 1) 3 ≤ 297 := by
    have a0 := m_dist_le (hs (3 * (a >>> 1) + 0)) (hs (3 * (b >>> 1) + 0))
    have a1 := m_dist_le (hs (3 * (a >>> 1) + 1)) (hs (3 * (b >>> 1) + 1))
    have a2 := m_dist_le (hs (3 * (a >>> 1) + 2)) (hs (3 * (b >>> 1) + 2))
    show 0 + m_dist (fs (3 * (a >>> 1) + 0)) (fs (3 * (b >>> 1) + 0)) + m_dist (fs (3 * (a >>> 1) + 1)) (fs (3 * (b >>> 1) + 1)) + m_dist (fs (3 * (a >>> 1) + 2)) (fs (3 * (b >>> 1) + 2)) ≤ 297
    omega
  have h3 := Nat.mul_le_mul hw.2 h2
  have h4 : (if fw (a ^^^ 1) = (-1) then 0 else if fw (a ^^^ 1) = nI (fb b) then 0 else fz 2) ≤ 999 := by
    have := hz 2
    split
    · omega
    · split <;> omega
  have h5 : (if fd (a ^^^ 1) = fc b then 0 else fz 3) ≤ 999 := by
    have := hz 3
    split <;> omega
  unfold m_full
  omega
theorem m_join_le (fb fe : Nat → Nat) (fw : Nat → Int32) (fc fd fs fz : Nat → Nat) (a b : Nat) (hb : ∀ k, fb k ≤ 99) (he : ∀ k, fe k ≤ 99) (hs : ∀ k, fs k ≤ 99) (hz : ∀ k, fz k ≤ 999) (hw : fz 0 ≤ 9 ∧ fz 1 ≤ 9) : m_join fb fe fw fc fd fs fz a b ≤ 10000 := by
  have h1 := m_full_le2 fb fe fw fc fd fs fz a b hb he hs hz hw
  have h2 := hz 5
  unfold m_join
  split <;> omega
/-- what is kept of a search: it was made of the state as it stands (whatever lay in the rows before) -/
def m_fresh (J : Nat → Nat → Nat) (n tc : Nat) (rb rr ra : Nat → Nat) (sn st sb sx : Nat) (sj ss so : Nat → Nat) (bc bo : Nat) : Prop :=
  sn = n ∧ st = tc ∧ ∃ sj0 sl0 ss0 so0 slz : Nat → Nat, sj = m_prep n J sj0 (2 * n) ∧ slz = m_fill rb rr ra sj n tc 18 18 sl0 (2 ^ n - 1) ∧ ss = m_costs slz n ss0 (2 ^ n - 1) ∧ sb = ss (2 ^ n - 1) ∧ (sb < 1000000 → ∃ a1 a2 a3, (a1, a2, a3, so, sx) = m_trace slz sj ra so0 n tc 1000000 n) ∧ (1000000 ≤ sb → sx = 1000000) ∧ (bc, bo) = m_part ss n ((2 ^ n - 1) / 2)
theorem m_two_le {ss : Nat → Nat} (h : ∀ k, ss k ≤ 1000000) (n set : Nat) : m_two ss n set ≤ 2000000 := by
  have h1 := h set
  have h2 := h (nclr (2 ^ n - 1) set)
  unfold m_two
  omega
/-! what the public calls do, of both sides -/
noncomputable def cif {α : Type} (C : Prop) (a b : α) : α := @ite α C (Classical.propDecidable C) a b
theorem cif_t {α : Type} {C : Prop} {a b : α} (h : C) : cif C a b = a := by unfold cif; exact if_pos h
theorem cif_f {α : Type} {C : Prop} {a b : α} (h : ¬ C) : cif C a b = b := by unfold cif; exact if_neg h
def tn (x : Int32) : Nat := x.toNatClampNeg
theorem tn_nI {k : Nat} (h : k < 2 ^ 31) : tn (nI k) = k := nI_clamp h
theorem cif_le {C : Prop} {f g : Nat → Nat} {B : Nat} (h1 : ∀ k, f k ≤ B) (h2 : ∀ k, g k ≤ B) : ∀ k, cif C f g k ≤ B := by
  by_cases h : C
  · rw [cif_t h]; exact h1
  · rw [cif_f h]; exact h2
def pc_leaf (n : Nat) (x1 x2 x3 x4 : Int32) : Prop := isN x1 100 ∧ isN x2 100 ∧ isN x3 100 ∧ isN x4 100 ∧ n < 9
def pc_word (n : Nat) (x1 x2 x3 : Int32) : Prop := isN x1 n ∧ isN x2 2 ∧ (x3 = (-1) ∨ isN x3 100)
def pc_cut (n : Nat) (x1 x2 x3 x4 : Int32) : Prop := isN x1 n ∧ isN x2 2 ∧ isN x3 100 ∧ isN x4 100
def pc_stain (n : Nat) (x1 x2 x3 : Int32) : Prop := isN x1 n ∧ isN x2 3 ∧ isN x3 100
def pc_weights (x1 x2 x3 x4 x5 x6 : Int32) : Prop := isN x1 10 ∧ isN x2 10 ∧ isN x3 100 ∧ isN x4 100 ∧ isN x5 100 ∧ isN x6 1000
def pc_pair (n : Nat) (x1 x2 : Int32) : Prop := isN x1 n ∧ isN x2 n ∧ ¬ x1 = x2
def pw_fz (fz : Nat → Nat) (x1 x2 x3 x4 x5 x6 : Int32) : Nat → Nat := upN (upN (upN (upN (upN (upN fz 0 (tn x1)) 1 (tn x2)) 2 (tn x3)) 3 (tn x4)) 4 (tn x5)) 5 (tn x6)
noncomputable def pw_about (n : Nat) (fz : Nat → Nat) (mt : Nat) (x : Int32) : Int32 := if x = 0 then nI n else cif (1 ≤ x ∧ x ≤ 6) (nI (fz (tn x - 1))) (if x = nI 7 then nI mt else (-1))
theorem wbit_lt {s l it : Nat} (h : s < 512) (hl : l < 9) : wbit s l it < 512 := by
  unfold wbit
  split
  · exact Nat.lt_of_le_of_lt (nclr_le _ _) h
  · exact Nat.or_lt_two_pow (n := 9) h (Nat.lt_of_lt_of_le (Nat.pow_lt_pow_right (by decide) hl) (by decide))
theorem pl_dec (p : Nat) : nI p + Int32.ofInt (-1) = nI p - nI 1 := by
  rw [show Int32.ofInt (-1) = -(nI 1) from by decide, ← Int32.sub_eq_add_neg]
theorem m_moved_le (ss : Nat → Nat) (n o l : Nat) : ∀ k, m_moved ss n o l k ≤ 1000000
  | 0 => Nat.le_refl _
  | k + 1 => by
    have ih := m_moved_le ss n o l k
    rw [m_moved]
    split
    · exact ih
    · omega
theorem ab_num {x : Int32} (h1 : ¬ x < nI 1) (h2 : ¬ nI 6 < x) : ∃ k, 1 ≤ k ∧ k ≤ 6 ∧ x = nI k := by
  have h0 : ¬ x < 0 := fun q => h1 (Int32.lt_of_lt_of_le q (by decide))
  obtain ⟨j, hj, rfl⟩ := nI_of h0
  have a1 : ¬ j < 1 := fun q => h1 ((nI_ltI hj (by decide)).mpr q)
  have a2 : ¬ 6 < j := fun q => h2 ((nI_ltI (by decide) hj).mpr q)
  exact ⟨j, by omega, by omega, rfl⟩
theorem ab_in {k : Nat} (h1 : 1 ≤ k) (h2 : k ≤ 6) : (1 : Int32) ≤ nI k ∧ nI k ≤ 6 := ⟨nI_le (a := 1) h1 (by omega), nI_le (b := 6) h2 (by decide)⟩
theorem ab_no1 {x : Int32} (h : 1 ≤ x) (h1 : x < nI 1) : False := (Int32.not_lt.mpr h) h1
theorem ab_no2 {x : Int32} (h : x ≤ 6) (h1 : nI 6 < x) : False := (Int32.not_lt.mpr h) h1
theorem isN_y3 {x : Int32} {k : Nat} (h1 : ¬ x < 0) (h2 : x < nI k) (hk : k < 2 ^ 31) : isN x k := by
  obtain ⟨j, hj, rfl⟩ := nI_of h1
  exact ⟨j, (nI_ltI hj hk).mp h2, rfl⟩
theorem at_nlt {x : Int32} {k : Nat} (h : ¬ x < nI k) (hk : k < 2 ^ 31) : ¬ isN x k := fun ⟨j, hj, e⟩ => by
  subst e; exact h ((nI_ltI (by omega) hk).mpr hj)
theorem at_sw (x : Int32) : x = 0 ∨ x = 1 ∨ x = 2 ∨ (¬ x = 0 ∧ ¬ x = 1 ∧ ¬ x = 2 ∧ (x.toInt < 0 ∨ 2 < x.toInt)) := by
  by_cases h0 : x = 0
  · exact Or.inl h0
  · by_cases h1 : x = 1
    · exact Or.inr (Or.inl h1)
    · by_cases h2 : x = 2
      · exact Or.inr (Or.inr (Or.inl h2))
      · refine Or.inr (Or.inr (Or.inr ⟨h0, h1, h2, ?_⟩))
        have a0 : ¬ x.toInt = 0 := fun q => h0 (Int32.toInt_inj.mp q)
        have a1 : ¬ x.toInt = 1 := fun q => h1 (Int32.toInt_inj.mp q)
        have a2 : ¬ x.toInt = 2 := fun q => h2 (Int32.toInt_inj.mp q)
        omega
