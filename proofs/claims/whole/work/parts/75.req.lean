theorem at_law {x : Int32} {S : Nat} {V : Int32} (h : isN x 3) : (if x = 0 then nI (S >>> 1) else if x = 1 then nI (S &&& 1) else if x = 2 then V else (-1)) = (if x = 0 then nI (S / 2) else if x = nI 1 then nI (S % 2) else V) := by
  rw [shr1, and1]
  rcases isN3.mp h with rfl | rfl | rfl
  · exact (if_pos rfl).trans (if_pos rfl).symm
  · exact ((if_neg (by decide)).trans (if_pos rfl)).trans ((if_neg (by decide)).trans (if_pos rfl)).symm
  · exact ((if_neg (by decide)).trans ((if_neg (by decide)).trans (if_pos rfl))).trans ((if_neg (by decide)).trans (if_neg (by decide))).symm
theorem at_no {x a b V : Int32} (h : ¬ isN x 3) : (if x = 0 then a else if x = 1 then b else if x = 2 then V else (-1)) = (-1) := by
  rw [if_neg (fun z => h (isN3.mpr (Or.inl z))), if_neg (fun z => h (isN3.mpr (Or.inr (Or.inl z)))), if_neg (fun z => h (isN3.mpr (Or.inr (Or.inr z))))]
