/-! the answers of two, book, doubt, sure, at: one -/
theorem few_part {ss : Nat → Nat} {n bc bo : Nat} (h : n < 2) (e : (bc, bo) = m_part ss n ((2 ^ n - 1) / 2)) : bc = 1000000 := by
  rcases (show n = 0 ∨ n = 1 by omega) with rfl | rfl
  · exact (Prod.mk.inj e).1
  · exact (Prod.mk.inj e).1
theorem two_law {n : Nat} {ss ml m2 : Nat → Nat} {S : Nat → Prop} {bc bo bz pz pt : Nat} (sc : sameC n ss ml m2) (e : (bc, bo) = m_part ss n ((2 ^ n - 1) / 2)) (hS : ∀ s, S s) (h : (bz, pz) = m_prt ml m2 n S pt ((2 ^ n - 1) / 2)) : isCap bc bz ∧ (bz < 1000000000 → bo = pz) := by
  have z := part_prt (S := S) sc pt hS _ (Nat.le_refl _)
  rw [← e, ← h] at z
  exact ⟨z.1, z.2.1⟩
theorem strue : ∀ s : Nat, (fun set => 18 < 18 → ((set >>> 18) &&& 1 = 1 ↔ 0 = 2)) s := fun s q => absurd q (by decide)
theorem bitx {s o l : Nat} : ¬ ((s ^^^ o) >>> l) &&& 1 = 0 ↔ ((s >>> l) &&& 1 = 1 ↔ (if (o >>> l) &&& 1 = 1 then 1 else 2) = 2) := by
  rw [ln_bit1, Nat.testBit_xor]
  have a := ln_bitE s l
  have b := ln_bitE o l
  rw [a, b]
  cases s.testBit l <;> cases o.testBit l <;> simp
theorem doubt_law {n : Nat} {ss ml m2 : Nat → Nat} {bc bo bz pz oz qz d l : Nat} {pt : Nat} (sc : sameC n ss ml m2) (e : (bc, bo) = m_part ss n ((2 ^ n - 1) / 2)) (h : (bz, pz) = m_prt ml m2 n (fun set => 18 < 18 → ((set >>> 18) &&& 1 = 1 ↔ 0 = 2)) pt ((2 ^ n - 1) / 2)) (hb : ¬ bz = 1000000000) (hd : d ≤ 1000) (hl : l < 18)
    (h2 : (oz, qz) = m_prt ml m2 n (fun set => l < 18 → ((set >>> l) &&& 1 = 1 ↔ (if (pz >>> l) &&& 1 = 1 then 1 else 2) = 2)) pz ((2 ^ n - 1) / 2)) : bc < 1000000 ∧ (m_moved ss n bo l ((2 ^ n - 1) / 2) ≤ bc + d ↔ oz ≤ bz + d) := by
  have t := two_law sc e strue h
  have z0 := part_prt (S := fun set => 18 < 18 → ((set >>> 18) &&& 1 = 1 ↔ 0 = 2)) sc pt strue _ (Nat.le_refl _)
  rw [← e, ← h] at z0
  have c := t.1
  have bz9 := z0.2.2
  have eo : bo = pz := t.2 (by dsimp only at bz9; unfold isCap at c; omega)
  have z := moved_prt (S := fun set => l < 18 → ((set >>> l) &&& 1 = 1 ↔ (if (pz >>> l) &&& 1 = 1 then 1 else 2) = 2)) (other := bo) (leaf := l) sc pz (fun s => by rw [eo, bitx]; exact ⟨fun q => q hl, fun q _ => q⟩) _ (Nat.le_refl _)
  rw [← h2] at z
  obtain ⟨z1, z2⟩ := z
  dsimp only at z1 z2 bz9
  unfold isCap at c z1
  constructor
  · omega
  · omega
theorem fresh_bc {J : Nat → Nat → Nat} {n tc : Nat} {rb rr ra : Nat → Nat} {sn st sb sx : Nat} {sj ss so : Nat → Nat} {bc bo : Nat} (F : m_fresh J n tc rb rr ra sn st sb sx sj ss so bc bo) : (bc, bo) = m_part ss n ((2 ^ n - 1) / 2) := by
  obtain ⟨-, -, _, _, _, _, _, -, -, -, -, -, -, e⟩ := F
  exact e
theorem tn_lt {x : Int32} {k : Nat} (h : isN x k) (hk : k ≤ 2 ^ 31) : tn x < k := by
  obtain ⟨j, hj, rfl⟩ := h
  rw [tn_nI (by omega)]; exact hj
theorem isN_tn {x : Int32} {k : Nat} (h : isN x k) (hk : k ≤ 2 ^ 31) : x = nI (tn x) := by
  obtain ⟨j, hj, rfl⟩ := h
  rw [tn_nI (by omega)]
theorem isN3 {x : Int32} : isN x 3 ↔ (x = 0 ∨ x = 1 ∨ x = 2) := by
  constructor
  · rintro ⟨j, hj, rfl⟩
    rcases (show j = 0 ∨ j = 1 ∨ j = 2 by omega) with rfl | rfl | rfl
    · exact Or.inl rfl
    · exact Or.inr (Or.inl rfl)
    · exact Or.inr (Or.inr rfl)
  · rintro (rfl | rfl | rfl)
    · exact ⟨0, by decide, rfl⟩
    · exact ⟨1, by decide, rfl⟩
    · exact ⟨2, by decide, rfl⟩
