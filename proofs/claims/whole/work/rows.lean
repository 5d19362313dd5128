section
-- ===== PART A: goes FIRST, ahead of the names: the tables' words, and 'selects' of the private methods out of them =====
/-- a private method of a class that the tables say can be made, by its rows of tables_1 -/
def lw_okq (q : MethodName × Nat) : Prop := (q.1.cls ≠ "java/lang/invoke/MethodHandle" ∧ q.1.cls ≠ "java/lang/invoke/VarHandle") ∧ Cond.instantiable q.1.cls q.2 ∈ tables_1 ∧ Cond.privateMethod q.1 ∈ tables_1 ∧ Cond.instanceMethod q.1 ∈ tables_1
theorem lw_p0 : lw_okq (⟨"LeafOrder", "areTwo", "(II)Z"⟩, 7) := ⟨⟨by decide +kernel, by decide +kernel⟩, List.mem_of_getElem? (i := 11) (by decide +kernel), List.mem_of_getElem? (i := 217) (by decide +kernel), List.mem_of_getElem? (i := 218) (by decide +kernel)⟩
theorem lw_p1 : lw_okq (⟨"LeafOrder$Scale", "fullCost", "(II)I"⟩, 2) := ⟨⟨by decide +kernel, by decide +kernel⟩, List.mem_of_getElem? (i := 59) (by decide +kernel), List.mem_of_getElem? (i := 243) (by decide +kernel), List.mem_of_getElem? (i := 244) (by decide +kernel)⟩
theorem lw_p2 : lw_okq (⟨"LeafOrder$Scale", "isOverGap", "(I)Z"⟩, 2) := ⟨⟨by decide +kernel, by decide +kernel⟩, List.mem_of_getElem? (i := 59) (by decide +kernel), List.mem_of_getElem? (i := 255) (by decide +kernel), List.mem_of_getElem? (i := 256) (by decide +kernel)⟩
theorem lw_p3 : lw_okq (⟨"LeafOrder", "refresh", "()V"⟩, 7) := ⟨⟨by decide +kernel, by decide +kernel⟩, List.mem_of_getElem? (i := 11) (by decide +kernel), List.mem_of_getElem? (i := 263) (by decide +kernel), List.mem_of_getElem? (i := 264) (by decide +kernel)⟩
theorem lw_p4 : lw_okq (⟨"LeafOrder$Search", "fill", "(II)V"⟩, 9) := ⟨⟨by decide +kernel, by decide +kernel⟩, List.mem_of_getElem? (i := 91) (by decide +kernel), List.mem_of_getElem? (i := 277) (by decide +kernel), List.mem_of_getElem? (i := 278) (by decide +kernel)⟩
theorem lw_p5 : lw_okq (⟨"LeafOrder$Search", "fillLast", "(III)V"⟩, 9) := ⟨⟨by decide +kernel, by decide +kernel⟩, List.mem_of_getElem? (i := 91) (by decide +kernel), List.mem_of_getElem? (i := 295) (by decide +kernel), List.mem_of_getElem? (i := 296) (by decide +kernel)⟩
theorem lw_p6 : lw_okq (⟨"LeafOrder$Search", "leastUpTo", "(III)I"⟩, 9) := ⟨⟨by decide +kernel, by decide +kernel⟩, List.mem_of_getElem? (i := 91) (by decide +kernel), List.mem_of_getElem? (i := 303) (by decide +kernel), List.mem_of_getElem? (i := 304) (by decide +kernel)⟩
theorem lw_p7 : lw_okq (⟨"LeafOrder$Search", "leastOf", "(I)I"⟩, 9) := ⟨⟨by decide +kernel, by decide +kernel⟩, List.mem_of_getElem? (i := 91) (by decide +kernel), List.mem_of_getElem? (i := 310) (by decide +kernel), List.mem_of_getElem? (i := 311) (by decide +kernel)⟩
theorem lw_p8 : lw_okq (⟨"LeafOrder$Search", "trace", "()V"⟩, 9) := ⟨⟨by decide +kernel, by decide +kernel⟩, List.mem_of_getElem? (i := 91) (by decide +kernel), List.mem_of_getElem? (i := 314) (by decide +kernel), List.mem_of_getElem? (i := 315) (by decide +kernel)⟩
theorem lw_p9 : lw_okq (⟨"LeafOrder$Search", "pick", "(III)I"⟩, 9) := ⟨⟨by decide +kernel, by decide +kernel⟩, List.mem_of_getElem? (i := 91) (by decide +kernel), List.mem_of_getElem? (i := 318) (by decide +kernel), List.mem_of_getElem? (i := 319) (by decide +kernel)⟩
theorem lw_p10 : lw_okq (⟨"LeafOrder$Search", "linkCost", "(II)I"⟩, 9) := ⟨⟨by decide +kernel, by decide +kernel⟩, List.mem_of_getElem? (i := 91) (by decide +kernel), List.mem_of_getElem? (i := 322) (by decide +kernel), List.mem_of_getElem? (i := 323) (by decide +kernel)⟩
theorem lw_p11 : lw_okq (⟨"LeafOrder$Books", "costOf", "(I)I"⟩, 3) := ⟨⟨by decide +kernel, by decide +kernel⟩, List.mem_of_getElem? (i := 129) (by decide +kernel), List.mem_of_getElem? (i := 332) (by decide +kernel), List.mem_of_getElem? (i := 333) (by decide +kernel)⟩
theorem lw_p12 : lw_okq (⟨"LeafOrder$Search", "isInBest", "(II)Z"⟩, 9) := ⟨⟨by decide +kernel, by decide +kernel⟩, List.mem_of_getElem? (i := 91) (by decide +kernel), List.mem_of_getElem? (i := 360) (by decide +kernel), List.mem_of_getElem? (i := 361) (by decide +kernel)⟩
theorem lw_p13 : lw_okq (⟨"LeafOrderModel", "isLeaf", "(I)Z"⟩, 20) := ⟨⟨by decide +kernel, by decide +kernel⟩, List.mem_of_getElem? (i := 385) (by decide +kernel), List.mem_of_getElem? (i := 464) (by decide +kernel), List.mem_of_getElem? (i := 465) (by decide +kernel)⟩
theorem lw_p14 : lw_okq (⟨"LeafOrderModel", "joins", "(IIII)I"⟩, 20) := ⟨⟨by decide +kernel, by decide +kernel⟩, List.mem_of_getElem? (i := 385) (by decide +kernel), List.mem_of_getElem? (i := 492) (by decide +kernel), List.mem_of_getElem? (i := 493) (by decide +kernel)⟩
theorem lw_p15 : lw_okq (⟨"LeafOrderModel", "isMissing", "(IIII)Z"⟩, 20) := ⟨⟨by decide +kernel, by decide +kernel⟩, List.mem_of_getElem? (i := 385) (by decide +kernel), List.mem_of_getElem? (i := 496) (by decide +kernel), List.mem_of_getElem? (i := 497) (by decide +kernel)⟩
def lw_privs_1 : List (MethodName × Nat) := [(⟨"LeafOrder", "areTwo", "(II)Z"⟩, 7), (⟨"LeafOrder$Scale", "fullCost", "(II)I"⟩, 2), (⟨"LeafOrder$Scale", "isOverGap", "(I)Z"⟩, 2), (⟨"LeafOrder", "refresh", "()V"⟩, 7), (⟨"LeafOrder$Search", "fill", "(II)V"⟩, 9), (⟨"LeafOrder$Search", "fillLast", "(III)V"⟩, 9), (⟨"LeafOrder$Search", "leastUpTo", "(III)I"⟩, 9), (⟨"LeafOrder$Search", "leastOf", "(I)I"⟩, 9), (⟨"LeafOrder$Search", "trace", "()V"⟩, 9), (⟨"LeafOrder$Search", "pick", "(III)I"⟩, 9), (⟨"LeafOrder$Search", "linkCost", "(II)I"⟩, 9), (⟨"LeafOrder$Books", "costOf", "(I)I"⟩, 3), (⟨"LeafOrder$Search", "isInBest", "(II)Z"⟩, 9), (⟨"LeafOrderModel", "isLeaf", "(I)Z"⟩, 20), (⟨"LeafOrderModel", "joins", "(IIII)I"⟩, 20), (⟨"LeafOrderModel", "isMissing", "(IIII)Z"⟩, 20)]
theorem lw_r1 : ∀ q ∈ lw_privs_1, lw_okq q := List.forall_mem_cons.mpr ⟨lw_p0, List.forall_mem_cons.mpr ⟨lw_p1, List.forall_mem_cons.mpr ⟨lw_p2, List.forall_mem_cons.mpr ⟨lw_p3, List.forall_mem_cons.mpr ⟨lw_p4, List.forall_mem_cons.mpr ⟨lw_p5, List.forall_mem_cons.mpr ⟨lw_p6, List.forall_mem_cons.mpr ⟨lw_p7, List.forall_mem_cons.mpr ⟨lw_p8, List.forall_mem_cons.mpr ⟨lw_p9, List.forall_mem_cons.mpr ⟨lw_p10, List.forall_mem_cons.mpr ⟨lw_p11, List.forall_mem_cons.mpr ⟨lw_p12, List.forall_mem_cons.mpr ⟨lw_p13, List.forall_mem_cons.mpr ⟨lw_p14, List.forall_mem_cons.mpr ⟨lw_p15, fun _ h => absurd h List.not_mem_nil⟩⟩⟩⟩⟩⟩⟩⟩⟩⟩⟩⟩⟩⟩⟩⟩
theorem lw_p16 : lw_okq (⟨"LeafOrderModel", "whole", "(IIII)I"⟩, 20) := ⟨⟨by decide +kernel, by decide +kernel⟩, List.mem_of_getElem? (i := 385) (by decide +kernel), List.mem_of_getElem? (i := 500) (by decide +kernel), List.mem_of_getElem? (i := 501) (by decide +kernel)⟩
theorem lw_p17 : lw_okq (⟨"LeafOrderModel", "orders", "()V"⟩, 20) := ⟨⟨by decide +kernel, by decide +kernel⟩, List.mem_of_getElem? (i := 385) (by decide +kernel), List.mem_of_getElem? (i := 511) (by decide +kernel), List.mem_of_getElem? (i := 512) (by decide +kernel)⟩
theorem lw_p18 : lw_okq (⟨"LeafOrderModel", "stands", "(III)I"⟩, 20) := ⟨⟨by decide +kernel, by decide +kernel⟩, List.mem_of_getElem? (i := 385) (by decide +kernel), List.mem_of_getElem? (i := 516) (by decide +kernel), List.mem_of_getElem? (i := 517) (by decide +kernel)⟩
theorem lw_p19 : lw_okq (⟨"LeafOrderModel", "goesOn", "(IIIIII)V"⟩, 20) := ⟨⟨by decide +kernel, by decide +kernel⟩, List.mem_of_getElem? (i := 385) (by decide +kernel), List.mem_of_getElem? (i := 520) (by decide +kernel), List.mem_of_getElem? (i := 521) (by decide +kernel)⟩
theorem lw_p20 : lw_okq (⟨"LeafOrderModel", "mayFollow", "(III)Z"⟩, 20) := ⟨⟨by decide +kernel, by decide +kernel⟩, List.mem_of_getElem? (i := 385) (by decide +kernel), List.mem_of_getElem? (i := 524) (by decide +kernel), List.mem_of_getElem? (i := 525) (by decide +kernel)⟩
theorem lw_p21 : lw_okq (⟨"LeafOrderModel", "keeps", "(II)V"⟩, 20) := ⟨⟨by decide +kernel, by decide +kernel⟩, List.mem_of_getElem? (i := 385) (by decide +kernel), List.mem_of_getElem? (i := 528) (by decide +kernel), List.mem_of_getElem? (i := 529) (by decide +kernel)⟩
theorem lw_p22 : lw_okq (⟨"LeafOrderModel", "all", "()I"⟩, 20) := ⟨⟨by decide +kernel, by decide +kernel⟩, List.mem_of_getElem? (i := 385) (by decide +kernel), List.mem_of_getElem? (i := 532) (by decide +kernel), List.mem_of_getElem? (i := 533) (by decide +kernel)⟩
theorem lw_p23 : lw_okq (⟨"LeafOrderModel", "looks", "(I)V"⟩, 20) := ⟨⟨by decide +kernel, by decide +kernel⟩, List.mem_of_getElem? (i := 385) (by decide +kernel), List.mem_of_getElem? (i := 536) (by decide +kernel), List.mem_of_getElem? (i := 537) (by decide +kernel)⟩
theorem lw_p24 : lw_okq (⟨"LeafOrderModel", "told", "(I)I"⟩, 20) := ⟨⟨by decide +kernel, by decide +kernel⟩, List.mem_of_getElem? (i := 385) (by decide +kernel), List.mem_of_getElem? (i := 540) (by decide +kernel), List.mem_of_getElem? (i := 541) (by decide +kernel)⟩
theorem lw_p25 : lw_okq (⟨"LeafOrderModel", "reads", "()Z"⟩, 20) := ⟨⟨by decide +kernel, by decide +kernel⟩, List.mem_of_getElem? (i := 385) (by decide +kernel), List.mem_of_getElem? (i := 548) (by decide +kernel), List.mem_of_getElem? (i := 549) (by decide +kernel)⟩
theorem lw_p26 : lw_okq (⟨"LeafOrderModel", "parts", "(II)I"⟩, 20) := ⟨⟨by decide +kernel, by decide +kernel⟩, List.mem_of_getElem? (i := 385) (by decide +kernel), List.mem_of_getElem? (i := 565) (by decide +kernel), List.mem_of_getElem? (i := 566) (by decide +kernel)⟩
def lw_privs_2 : List (MethodName × Nat) := [(⟨"LeafOrderModel", "whole", "(IIII)I"⟩, 20), (⟨"LeafOrderModel", "orders", "()V"⟩, 20), (⟨"LeafOrderModel", "stands", "(III)I"⟩, 20), (⟨"LeafOrderModel", "goesOn", "(IIIIII)V"⟩, 20), (⟨"LeafOrderModel", "mayFollow", "(III)Z"⟩, 20), (⟨"LeafOrderModel", "keeps", "(II)V"⟩, 20), (⟨"LeafOrderModel", "all", "()I"⟩, 20), (⟨"LeafOrderModel", "looks", "(I)V"⟩, 20), (⟨"LeafOrderModel", "told", "(I)I"⟩, 20), (⟨"LeafOrderModel", "reads", "()Z"⟩, 20), (⟨"LeafOrderModel", "parts", "(II)I"⟩, 20)]
theorem lw_r2 : ∀ q ∈ lw_privs_2, lw_okq q := List.forall_mem_cons.mpr ⟨lw_p16, List.forall_mem_cons.mpr ⟨lw_p17, List.forall_mem_cons.mpr ⟨lw_p18, List.forall_mem_cons.mpr ⟨lw_p19, List.forall_mem_cons.mpr ⟨lw_p20, List.forall_mem_cons.mpr ⟨lw_p21, List.forall_mem_cons.mpr ⟨lw_p22, List.forall_mem_cons.mpr ⟨lw_p23, List.forall_mem_cons.mpr ⟨lw_p24, List.forall_mem_cons.mpr ⟨lw_p25, List.forall_mem_cons.mpr ⟨lw_p26, fun _ h => absurd h List.not_mem_nil⟩⟩⟩⟩⟩⟩⟩⟩⟩⟩⟩
def lw_privs : List (MethodName × Nat) := lw_privs_1 ++ (lw_privs_2)
def lw_tbl : List Cond := k2_sels lw_privs ++ tables_1
theorem lw_privs_ok : ∀ q ∈ lw_privs, lw_okq q := by
  show ∀ q ∈ lw_privs_1 ++ (lw_privs_2), lw_okq q
  exact List.forall_mem_append.mpr ⟨lw_r1, lw_r2⟩
/-! ===== BEGIN words of one list among another's, by their places ===== -/
theorem goodIn_r {big : List Cond} (ws : List Cond) (ps : List Nat) (hp : ws = ps.filterMap (fun i => big[i]?)) (h : ws.all goodWord = true) : GoodIn big ws := by
  intro w hw
  have h1 := List.all_eq_true.mp h w hw
  rw [hp] at hw
  obtain ⟨i, -, hi⟩ := List.mem_filterMap.mp hw
  have hm : w ∈ big := by first | exact List.mem_of_getElem? hi | exact List.getElem?_mem hi
  exact ⟨hm, good_of_word h1⟩
theorem goodIn_app {big a b : List Cond} (ha : GoodIn big a) (hb : GoodIn big b) : GoodIn big (a ++ b) := fun w h => (List.mem_append.mp h).elim (ha w) (hb w)
theorem goodIn_ca {big a b : List Cond} {c : Cond} (ha : GoodIn big (c :: a)) (hb : GoodIn big b) : GoodIn big (c :: (a ++ b)) := fun w h => (List.mem_cons.mp h).elim (fun e => ha w (List.mem_cons.mpr (Or.inl e))) (fun h => (List.mem_append.mp h).elim (fun h => ha w (List.mem_cons.mpr (Or.inr h))) (hb w))
theorem goodIn_sub {big ws : List Cond} (hm : ∀ w ∈ ws, w ∈ big) (h : ws.all goodWord = true) : GoodIn big ws := fun w hw => ⟨hm w hw, good_of_word (List.all_eq_true.mp h w hw)⟩
/-! ===== END ===== -/

/-! ===== BEGIN printed: names, fields, word lists, decode rows ===== -/
def RX0 : String := "LeafOrder$Books"
def TX0 : u_T := fun k => match k with
  | 0 => ("LeafOrder$Books", "search", "LLeafOrder$Search;", true)
  | 1 => ("LeafOrder$Books", "cost", "I", false)
  | _ => ("LeafOrder$Books", "other", "I", false)
def tyX0 : Nat → FieldType := fun k => match k with
  | 0 => .object "LeafOrder$Search"
  | 1 => .int
  | _ => .int
abbrev wsX00 : List Cond := u_ws RX0 TX0 3
theorem nmX0 : ∀ a, a < 3 → ∀ b, b < 3 → a ≠ b → (TX0 a).2.1 ≠ (TX0 b).2.1 := by decide +kernel
theorem tyX0_ok : ∀ k, k < 3 → parseFieldDescriptor (TX0 k).2.2.1 = some (tyX0 k) := by decide +kernel
abbrev cX0_init : ByteArray := prog_2_method_1_code
def yX0_init : MethodName := ⟨RX0, "<init>", "(LLeafOrder$Search;)V"⟩
abbrev cX0_part : ByteArray := prog_2_method_2_code
def yX0_part : MethodName := ⟨RX0, "part", "()V"⟩
abbrev cX0_leastWithMoved : ByteArray := prog_2_method_3_code
def yX0_leastWithMoved : MethodName := ⟨RX0, "leastWithMoved", "(I)I"⟩
abbrev cX0_costOf : ByteArray := prog_2_method_4_code
def yX0_costOf : MethodName := ⟨RX0, "costOf", "(I)I"⟩
def RX1 : String := "LeafOrder$Leaves"
def TX1 : u_T := fun k => match k with
  | 0 => ("LeafOrder$Leaves", "count", "I", false)
  | 1 => ("LeafOrder$Leaves", "begins", "[I", true)
  | 2 => ("LeafOrder$Leaves", "ends", "[I", true)
  | 3 => ("LeafOrder$Leaves", "words", "[I", true)
  | 4 => ("LeafOrder$Leaves", "cutBegins", "[I", true)
  | 5 => ("LeafOrder$Leaves", "cutEnds", "[I", true)
  | _ => ("LeafOrder$Leaves", "stains", "[I", true)
def tyX1 : Nat → FieldType := fun k => match k with
  | 0 => .int
  | 1 => .array .int
  | 2 => .array .int
  | 3 => .array .int
  | 4 => .array .int
  | 5 => .array .int
  | _ => .array .int
abbrev wsX10 : List Cond := u_ws RX1 TX1 7
theorem nmX1 : ∀ a, a < 7 → ∀ b, b < 7 → a ≠ b → (TX1 a).2.1 ≠ (TX1 b).2.1 := by decide +kernel
theorem tyX1_ok : ∀ k, k < 7 → parseFieldDescriptor (TX1 k).2.2.1 = some (tyX1 k) := by decide +kernel
abbrev cX1_init : ByteArray := prog_3_method_1_code
def yX1_init : MethodName := ⟨RX1, "<init>", "()V"⟩
abbrev cX1_add : ByteArray := prog_3_method_2_code
def yX1_add : MethodName := ⟨RX1, "add", "(IIII)I"⟩
abbrev cX1_has : ByteArray := prog_3_method_3_code
def yX1_has : MethodName := ⟨RX1, "has", "(I)Z"⟩
abbrev cX1_hasSide : ByteArray := prog_3_method_4_code
def yX1_hasSide : MethodName := ⟨RX1, "hasSide", "(II)Z"⟩
abbrev cX1_stainsApart : ByteArray := prog_3_method_5_code
def yX1_stainsApart : MethodName := ⟨RX1, "stainsApart", "(II)I"⟩
def RX2 : String := "LeafOrder$Rules"
def TX2 : u_T := fun k => match k with
  | 0 => ("LeafOrder$Rules", "behind", "[I", true)
  | 1 => ("LeafOrder$Rules", "rightBehind", "[I", true)
  | _ => ("LeafOrder$Rules", "rightAhead", "[I", true)
def tyX2 : Nat → FieldType := fun k => match k with
  | 0 => .array .int
  | 1 => .array .int
  | _ => .array .int
abbrev wsX20 : List Cond := u_ws RX2 TX2 3
theorem nmX2 : ∀ a, a < 3 → ∀ b, b < 3 → a ≠ b → (TX2 a).2.1 ≠ (TX2 b).2.1 := by decide +kernel
theorem tyX2_ok : ∀ k, k < 3 → parseFieldDescriptor (TX2 k).2.2.1 = some (tyX2 k) := by decide +kernel
abbrev cX2_init : ByteArray := prog_4_method_1_code
def yX2_init : MethodName := ⟨RX2, "<init>", "()V"⟩
abbrev cX2_putAhead : ByteArray := prog_4_method_2_code
def yX2_putAhead : MethodName := ⟨RX2, "putAhead", "(IIZ)V"⟩
abbrev cX2_putJoined : ByteArray := prog_4_method_3_code
def yX2_putJoined : MethodName := ⟨RX2, "putJoined", "(IIZ)V"⟩
abbrev cX2_mayComeAfter : ByteArray := prog_4_method_4_code
def yX2_mayComeAfter : MethodName := ⟨RX2, "mayComeAfter", "(II)Z"⟩
abbrev cX2_neighboursOf : ByteArray := prog_4_method_5_code
def yX2_neighboursOf : MethodName := ⟨RX2, "neighboursOf", "(II)I"⟩
abbrev cX2_withBit : ByteArray := prog_4_method_6_code
def yX2_withBit : MethodName := ⟨RX2, "withBit", "(IIZ)I"⟩
def RX3 : String := "LeafOrder$Scale"
def TX3 : u_T := fun k => match k with
  | 0 => ("LeafOrder$Scale", "pile", "LLeafOrder$Leaves;", true)
  | _ => ("LeafOrder$Scale", "sizes", "[I", true)
def tyX3 : Nat → FieldType := fun k => match k with
  | 0 => .object "LeafOrder$Leaves"
  | _ => .array .int
abbrev wsX30 : List Cond := u_ws RX3 TX3 2
theorem nmX3 : ∀ a, a < 2 → ∀ b, b < 2 → a ≠ b → (TX3 a).2.1 ≠ (TX3 b).2.1 := by decide +kernel
theorem tyX3_ok : ∀ k, k < 2 → parseFieldDescriptor (TX3 k).2.2.1 = some (tyX3 k) := by decide +kernel
abbrev cX3_init : ByteArray := prog_5_method_1_code
def yX3_init : MethodName := ⟨RX3, "<init>", "(LLeafOrder$Leaves;)V"⟩
abbrev cX3_joinCost : ByteArray := prog_5_method_2_code
def yX3_joinCost : MethodName := ⟨RX3, "joinCost", "(II)I"⟩
abbrev cX3_isMissing : ByteArray := prog_5_method_3_code
def yX3_isMissing : MethodName := ⟨RX3, "isMissing", "(II)Z"⟩
abbrev cX3_isOverGap : ByteArray := prog_5_method_4_code
def yX3_isOverGap : MethodName := ⟨RX3, "isOverGap", "(I)Z"⟩
abbrev cX3_fullCost : ByteArray := prog_5_method_5_code
def yX3_fullCost : MethodName := ⟨RX3, "fullCost", "(II)I"⟩
def RX4 : String := "LeafOrder$Search"
def TX4 : u_T := fun k => match k with
  | 0 => ("LeafOrder$Search", "rules", "LLeafOrder$Rules;", true)
  | 1 => ("LeafOrder$Search", "joins", "[I", true)
  | 2 => ("LeafOrder$Search", "least", "[I", true)
  | 3 => ("LeafOrder$Search", "setCosts", "[I", true)
  | 4 => ("LeafOrder$Search", "order", "[I", true)
  | 5 => ("LeafOrder$Search", "count", "I", false)
  | 6 => ("LeafOrder$Search", "turnCost", "I", false)
  | 7 => ("LeafOrder$Search", "bestCost", "I", false)
  | _ => ("LeafOrder$Search", "nextCost", "I", false)
def tyX4 : Nat → FieldType := fun k => match k with
  | 0 => .object "LeafOrder$Rules"
  | 1 => .array .int
  | 2 => .array .int
  | 3 => .array .int
  | 4 => .array .int
  | 5 => .int
  | 6 => .int
  | 7 => .int
  | _ => .int
abbrev wsX40 : List Cond := u_ws RX4 TX4 9
theorem nmX4 : ∀ a, a < 9 → ∀ b, b < 9 → a ≠ b → (TX4 a).2.1 ≠ (TX4 b).2.1 := by decide +kernel
theorem tyX4_ok : ∀ k, k < 9 → parseFieldDescriptor (TX4 k).2.2.1 = some (tyX4 k) := by decide +kernel
abbrev cX4_init : ByteArray := prog_6_method_1_code
def yX4_init : MethodName := ⟨RX4, "<init>", "(LLeafOrder$Rules;)V"⟩
abbrev cX4_prepare : ByteArray := prog_6_method_2_code
def yX4_prepare : MethodName := ⟨RX4, "prepare", "(LLeafOrder$Scale;Z)V"⟩
abbrev cX4_solve : ByteArray := prog_6_method_3_code
def yX4_solve : MethodName := ⟨RX4, "solve", "()V"⟩
abbrev cX4_isSure : ByteArray := prog_6_method_4_code
def yX4_isSure : MethodName := ⟨RX4, "isSure", "(III)Z"⟩
abbrev cX4_all : ByteArray := prog_6_method_5_code
def yX4_all : MethodName := ⟨RX4, "all", "()I"⟩
abbrev cX4_fill : ByteArray := prog_6_method_6_code
def yX4_fill : MethodName := ⟨RX4, "fill", "(II)V"⟩
abbrev cX4_fillLast : ByteArray := prog_6_method_7_code
def yX4_fillLast : MethodName := ⟨RX4, "fillLast", "(III)V"⟩
abbrev cX4_leastUpTo : ByteArray := prog_6_method_8_code
def yX4_leastUpTo : MethodName := ⟨RX4, "leastUpTo", "(III)I"⟩
abbrev cX4_leastOf : ByteArray := prog_6_method_9_code
def yX4_leastOf : MethodName := ⟨RX4, "leastOf", "(I)I"⟩
abbrev cX4_trace : ByteArray := prog_6_method_10_code
def yX4_trace : MethodName := ⟨RX4, "trace", "()V"⟩
abbrev cX4_pick : ByteArray := prog_6_method_11_code
def yX4_pick : MethodName := ⟨RX4, "pick", "(III)I"⟩
abbrev cX4_linkCost : ByteArray := prog_6_method_12_code
def yX4_linkCost : MethodName := ⟨RX4, "linkCost", "(II)I"⟩
abbrev cX4_isInBest : ByteArray := prog_6_method_13_code
def yX4_isInBest : MethodName := ⟨RX4, "isInBest", "(II)Z"⟩
def RX5 : String := "LeafOrder"
def TX5 : u_T := fun k => match k with
  | 0 => ("LeafOrder", "pile", "LLeafOrder$Leaves;", true)
  | 1 => ("LeafOrder", "scale", "LLeafOrder$Scale;", true)
  | 2 => ("LeafOrder", "rules", "LLeafOrder$Rules;", true)
  | 3 => ("LeafOrder", "search", "LLeafOrder$Search;", true)
  | 4 => ("LeafOrder", "books", "LLeafOrder$Books;", true)
  | 5 => ("LeafOrder", "mayTurn", "Z", false)
  | _ => ("LeafOrder", "stale", "Z", false)
def tyX5 : Nat → FieldType := fun k => match k with
  | 0 => .object "LeafOrder$Leaves"
  | 1 => .object "LeafOrder$Scale"
  | 2 => .object "LeafOrder$Rules"
  | 3 => .object "LeafOrder$Search"
  | 4 => .object "LeafOrder$Books"
  | 5 => .boolean
  | _ => .boolean
abbrev wsX50 : List Cond := u_ws RX5 TX5 7
theorem nmX5 : ∀ a, a < 7 → ∀ b, b < 7 → a ≠ b → (TX5 a).2.1 ≠ (TX5 b).2.1 := by decide +kernel
theorem tyX5_ok : ∀ k, k < 7 → parseFieldDescriptor (TX5 k).2.2.1 = some (tyX5 k) := by decide +kernel
abbrev cX5_init : ByteArray := prog_1_method_1_code
def yX5_init : MethodName := ⟨RX5, "<init>", "()V"⟩
abbrev cX5_leaf : ByteArray := prog_1_method_2_code
def yX5_leaf : MethodName := ⟨RX5, "leaf", "(IIII)I"⟩
abbrev cX5_catchword : ByteArray := prog_1_method_3_code
def yX5_catchword : MethodName := ⟨RX5, "catchword", "(III)Z"⟩
abbrev cX5_cut : ByteArray := prog_1_method_4_code
def yX5_cut : MethodName := ⟨RX5, "cut", "(IIII)Z"⟩
abbrev cX5_stain : ByteArray := prog_1_method_5_code
def yX5_stain : MethodName := ⟨RX5, "stain", "(III)Z"⟩
abbrev cX5_weights : ByteArray := prog_1_method_6_code
def yX5_weights : MethodName := ⟨RX5, "weights", "(IIIIII)Z"⟩
abbrev cX5_turnable : ByteArray := prog_1_method_7_code
def yX5_turnable : MethodName := ⟨RX5, "turnable", "(Z)V"⟩
abbrev cX5_must : ByteArray := prog_1_method_8_code
def yX5_must : MethodName := ⟨RX5, "must", "(IIZZ)Z"⟩
abbrev cX5_join : ByteArray := prog_1_method_9_code
def yX5_join : MethodName := ⟨RX5, "join", "(IZIZ)I"⟩
abbrev cX5_best : ByteArray := prog_1_method_10_code
def yX5_best : MethodName := ⟨RX5, "best", "()I"⟩
abbrev cX5_at : ByteArray := prog_1_method_11_code
def yX5_at : MethodName := ⟨RX5, "at", "(II)I"⟩
abbrev cX5_next : ByteArray := prog_1_method_12_code
def yX5_next : MethodName := ⟨RX5, "next", "()I"⟩
abbrev cX5_sure : ByteArray := prog_1_method_13_code
def yX5_sure : MethodName := ⟨RX5, "sure", "(III)I"⟩
abbrev cX5_two : ByteArray := prog_1_method_14_code
def yX5_two : MethodName := ⟨RX5, "two", "()I"⟩
abbrev cX5_book : ByteArray := prog_1_method_15_code
def yX5_book : MethodName := ⟨RX5, "book", "(I)I"⟩
abbrev cX5_doubt : ByteArray := prog_1_method_16_code
def yX5_doubt : MethodName := ⟨RX5, "doubt", "(II)I"⟩
abbrev cX5_about : ByteArray := prog_1_method_17_code
def yX5_about : MethodName := ⟨RX5, "about", "(I)I"⟩
abbrev cX5_areTwo : ByteArray := prog_1_method_18_code
def yX5_areTwo : MethodName := ⟨RX5, "areTwo", "(II)Z"⟩
abbrev cX5_refresh : ByteArray := prog_1_method_19_code
def yX5_refresh : MethodName := ⟨RX5, "refresh", "()V"⟩
abbrev cX5_standOf : ByteArray := prog_1_method_20_code
def yX5_standOf : MethodName := ⟨RX5, "standOf", "(IZ)I"⟩
abbrev cX5_costOrNone : ByteArray := prog_1_method_21_code
def yX5_costOrNone : MethodName := ⟨RX5, "costOrNone", "(I)I"⟩
abbrev cX5_isMark : ByteArray := prog_1_method_22_code
def yX5_isMark : MethodName := ⟨RX5, "isMark", "(I)Z"⟩
abbrev cX5_isWithin : ByteArray := prog_1_method_23_code
def yX5_isWithin : MethodName := ⟨RX5, "isWithin", "(II)Z"⟩
def RX6 : String := "LeafOrderModel"
def TX6 : u_T := fun k => match k with
  | 0 => ("LeafOrderModel", "leaves", "I", false)
  | 1 => ("LeafOrderModel", "begin", "[I", true)
  | 2 => ("LeafOrderModel", "end", "[I", true)
  | 3 => ("LeafOrderModel", "word", "[I", true)
  | 4 => ("LeafOrderModel", "cutBegin", "[I", true)
  | 5 => ("LeafOrderModel", "cutEnd", "[I", true)
  | 6 => ("LeafOrderModel", "stain", "[I", true)
  | 7 => ("LeafOrderModel", "weight", "[I", true)
  | 8 => ("LeafOrderModel", "mayTurn", "Z", false)
  | 9 => ("LeafOrderModel", "isAhead", "[Z", true)
  | 10 => ("LeafOrderModel", "isJoined", "[Z", true)
  | 11 => ("LeafOrderModel", "least", "[I", true)
  | 12 => ("LeafOrderModel", "second", "[I", true)
  | 13 => ("LeafOrderModel", "barredA", "I", false)
  | 14 => ("LeafOrderModel", "barredB", "I", false)
  | 15 => ("LeafOrderModel", "setLeast", "I", false)
  | 16 => ("LeafOrderModel", "setSecond", "I", false)
  | 17 => ("LeafOrderModel", "place", "[I", true)
  | 18 => ("LeafOrderModel", "turned", "[I", true)
  | _ => ("LeafOrderModel", "parted", "I", false)
def tyX6 : Nat → FieldType := fun k => match k with
  | 0 => .int
  | 1 => .array .int
  | 2 => .array .int
  | 3 => .array .int
  | 4 => .array .int
  | 5 => .array .int
  | 6 => .array .int
  | 7 => .array .int
  | 8 => .boolean
  | 9 => .array .boolean
  | 10 => .array .boolean
  | 11 => .array .int
  | 12 => .array .int
  | 13 => .int
  | 14 => .int
  | 15 => .int
  | 16 => .int
  | 17 => .array .int
  | 18 => .array .int
  | _ => .int
abbrev wsX60 : List Cond := u_ws RX6 TX6 20
theorem nmX6 : ∀ a, a < 20 → ∀ b, b < 20 → a ≠ b → (TX6 a).2.1 ≠ (TX6 b).2.1 := by decide +kernel
theorem tyX6_ok : ∀ k, k < 20 → parseFieldDescriptor (TX6 k).2.2.1 = some (tyX6 k) := by decide +kernel
abbrev cX6_init : ByteArray := prog_8_method_1_code
def yX6_init : MethodName := ⟨RX6, "<init>", "()V"⟩
abbrev cX6_in : ByteArray := prog_8_method_2_code
def yX6_in : MethodName := ⟨RX6, "in", "(III)Z"⟩
abbrev cX6_isLeaf : ByteArray := prog_8_method_3_code
def yX6_isLeaf : MethodName := ⟨RX6, "isLeaf", "(I)Z"⟩
abbrev cX6_leaf : ByteArray := prog_8_method_4_code
def yX6_leaf : MethodName := ⟨RX6, "leaf", "(IIII)I"⟩
abbrev cX6_catchword : ByteArray := prog_8_method_5_code
def yX6_catchword : MethodName := ⟨RX6, "catchword", "(III)Z"⟩
abbrev cX6_cut : ByteArray := prog_8_method_6_code
def yX6_cut : MethodName := ⟨RX6, "cut", "(IIII)Z"⟩
abbrev cX6_stain : ByteArray := prog_8_method_7_code
def yX6_stain : MethodName := ⟨RX6, "stain", "(III)Z"⟩
abbrev cX6_weights : ByteArray := prog_8_method_8_code
def yX6_weights : MethodName := ⟨RX6, "weights", "(IIIIII)Z"⟩
abbrev cX6_turnable : ByteArray := prog_8_method_9_code
def yX6_turnable : MethodName := ⟨RX6, "turnable", "(Z)V"⟩
abbrev cX6_must : ByteArray := prog_8_method_10_code
def yX6_must : MethodName := ⟨RX6, "must", "(IIZZ)Z"⟩
abbrev cX6_apart : ByteArray := prog_8_method_11_code
def yX6_apart : MethodName := ⟨RX6, "apart", "(II)I"⟩
abbrev cX6_whole : ByteArray := prog_8_method_12_code
def yX6_whole : MethodName := ⟨RX6, "whole", "(IIII)I"⟩
abbrev cX6_isMissing : ByteArray := prog_8_method_13_code
def yX6_isMissing : MethodName := ⟨RX6, "isMissing", "(IIII)Z"⟩
abbrev cX6_joins : ByteArray := prog_8_method_14_code
def yX6_joins : MethodName := ⟨RX6, "joins", "(IIII)I"⟩
abbrev cX6_join : ByteArray := prog_8_method_15_code
def yX6_join : MethodName := ⟨RX6, "join", "(IZIZ)I"⟩
abbrev cX6_mayFollow : ByteArray := prog_8_method_16_code
def yX6_mayFollow : MethodName := ⟨RX6, "mayFollow", "(III)Z"⟩
abbrev cX6_keeps : ByteArray := prog_8_method_17_code
def yX6_keeps : MethodName := ⟨RX6, "keeps", "(II)V"⟩
abbrev cX6_stands : ByteArray := prog_8_method_18_code
def yX6_stands : MethodName := ⟨RX6, "stands", "(III)I"⟩
abbrev cX6_orders : ByteArray := prog_8_method_19_code
def yX6_orders : MethodName := ⟨RX6, "orders", "()V"⟩
abbrev cX6_goesOn : ByteArray := prog_8_method_20_code
def yX6_goesOn : MethodName := ⟨RX6, "goesOn", "(IIIIII)V"⟩
abbrev cX6_looks : ByteArray := prog_8_method_21_code
def yX6_looks : MethodName := ⟨RX6, "looks", "(I)V"⟩
abbrev cX6_told : ByteArray := prog_8_method_22_code
def yX6_told : MethodName := ⟨RX6, "told", "(I)I"⟩
abbrev cX6_all : ByteArray := prog_8_method_23_code
def yX6_all : MethodName := ⟨RX6, "all", "()I"⟩
abbrev cX6_best : ByteArray := prog_8_method_24_code
def yX6_best : MethodName := ⟨RX6, "best", "()I"⟩
abbrev cX6_reads : ByteArray := prog_8_method_25_code
def yX6_reads : MethodName := ⟨RX6, "reads", "()Z"⟩
abbrev cX6_at : ByteArray := prog_8_method_26_code
def yX6_at : MethodName := ⟨RX6, "at", "(II)I"⟩
abbrev cX6_next : ByteArray := prog_8_method_27_code
def yX6_next : MethodName := ⟨RX6, "next", "()I"⟩
abbrev cX6_sure : ByteArray := prog_8_method_28_code
def yX6_sure : MethodName := ⟨RX6, "sure", "(III)I"⟩
abbrev cX6_parts : ByteArray := prog_8_method_29_code
def yX6_parts : MethodName := ⟨RX6, "parts", "(II)I"⟩
abbrev cX6_two : ByteArray := prog_8_method_30_code
def yX6_two : MethodName := ⟨RX6, "two", "()I"⟩
abbrev cX6_book : ByteArray := prog_8_method_31_code
def yX6_book : MethodName := ⟨RX6, "book", "(I)I"⟩
abbrev cX6_doubt : ByteArray := prog_8_method_32_code
def yX6_doubt : MethodName := ⟨RX6, "doubt", "(II)I"⟩
abbrev cX6_about : ByteArray := prog_8_method_33_code
def yX6_about : MethodName := ⟨RX6, "about", "(I)I"⟩
def RJ6 : String := "java/lang/Integer"
def TJ6 : u_T := fun k => match k with
  | _ => ("", "", "", false)
def tyJ6 : Nat → FieldType := fun k => match k with
  | _ => .int
abbrev wsJ60 : List Cond := u_ws RJ6 TJ6 0
theorem nmJ6 : ∀ a, a < 0 → ∀ b, b < 0 → a ≠ b → (TJ6 a).2.1 ≠ (TJ6 b).2.1 := by decide +kernel
theorem tyJ6_ok : ∀ k, k < 0 → parseFieldDescriptor (TJ6 k).2.2.1 = some (tyJ6 k) := by decide +kernel
abbrev cJ6_bitCount_0f7a4 : ByteArray := prog_9_method_49_code
def yJ6_bitCount_0f7a4 : MethodName := ⟨RJ6, "bitCount", "(I)I"⟩
def RJ9 : String := "java/lang/Math"
def TJ9 : u_T := fun k => match k with
  | _ => ("", "", "", false)
def tyJ9 : Nat → FieldType := fun k => match k with
  | _ => .int
abbrev wsJ90 : List Cond := u_ws RJ9 TJ9 0
theorem nmJ9 : ∀ a, a < 0 → ∀ b, b < 0 → a ≠ b → (TJ9 a).2.1 ≠ (TJ9 b).2.1 := by decide +kernel
theorem tyJ9_ok : ∀ k, k < 0 → parseFieldDescriptor (TJ9 k).2.2.1 = some (tyJ9 k) := by decide +kernel
abbrev cJ9_abs_0f7a4 : ByteArray := prog_10_method_59_code
def yJ9_abs_0f7a4 : MethodName := ⟨RJ9, "abs", "(I)I"⟩
abbrev cJ9_min_7cf53 : ByteArray := prog_10_method_69_code
def yJ9_min_7cf53 : MethodName := ⟨RJ9, "min", "(II)I"⟩
def RL : String := "LeafOrderLaw"
abbrev cL_law : ByteArray := code
def yL_law : MethodName := ⟨RL, "law", "([I)Z"⟩
def wsX0_init : List Cond := .code yX0_init cX0_init 2 none :: ([.methodLink RX0 3 objectInit, .instanceMethod objectInit, .code objectInit ⟨#[0xb1]⟩ 1 none, .fieldLink RX0 9 "LeafOrder$Books" "search" "LLeafOrder$Search;"] ++ wsX00)
def wsX4_all : List Cond := .code yX4_all cX4_all 1 (some .int) :: ([.fieldLink RX4 40 "LeafOrder$Search" "count" "I"] ++ wsX40)
def wsX0_costOf : List Cond := .code yX0_costOf cX0_costOf 2 (some .int) :: ([.fieldLink RX0 9 "LeafOrder$Books" "search" "LLeafOrder$Search;", .fieldLink RX0 39 "LeafOrder$Search" "setCosts" "[I", .methodLink RX0 23 yX4_all, .instanceMethod yX4_all, .selects RX4 yX4_all yX4_all, .initialized RX4, .code yX4_all cX4_all 1 (some .int), .fieldLink RX4 40 "LeafOrder$Search" "count" "I"] ++ wsX00 ++ wsX40)
def wsX0_part : List Cond := .code yX0_part cX0_part 3 none :: ([.constant RX0 15 (1000000), .fieldLink RX0 16 "LeafOrder$Books" "cost" "I", .fieldLink RX0 20 "LeafOrder$Books" "other" "I", .fieldLink RX0 9 "LeafOrder$Books" "search" "LLeafOrder$Search;", .methodLink RX0 23 yX4_all, .instanceMethod yX4_all, .selects RX4 yX4_all yX4_all, .initialized RX4, .code yX4_all cX4_all 1 (some .int), .fieldLink RX4 40 "LeafOrder$Search" "count" "I", .methodLink RX0 29 yX0_costOf, .instanceMethod yX0_costOf, .selects RX0 yX0_costOf yX0_costOf, .initialized RX0, .code yX0_costOf cX0_costOf 2 (some .int), .fieldLink RX0 39 "LeafOrder$Search" "setCosts" "[I"] ++ wsX00 ++ wsX40)
def wsX0_leastWithMoved : List Cond := .code yX0_leastWithMoved cX0_leastWithMoved 4 (some .int) :: ([.constant RX0 15 (1000000), .fieldLink RX0 9 "LeafOrder$Books" "search" "LLeafOrder$Search;", .fieldLink RX0 20 "LeafOrder$Books" "other" "I", .methodLink RX0 33 Lib.Math.min.name, .static Lib.Math.min.name, .initialized "java/lang/Math", .code Lib.Math.min.name Lib.Math.min.code 2 (some .int), .methodLink RX0 23 yX4_all, .instanceMethod yX4_all, .selects RX4 yX4_all yX4_all, .initialized RX4, .code yX4_all cX4_all 1 (some .int), .fieldLink RX4 40 "LeafOrder$Search" "count" "I", .methodLink RX0 29 yX0_costOf, .instanceMethod yX0_costOf, .selects RX0 yX0_costOf yX0_costOf, .initialized RX0, .code yX0_costOf cX0_costOf 2 (some .int), .fieldLink RX0 39 "LeafOrder$Search" "setCosts" "[I"] ++ wsX00 ++ wsX40)
def wsX1_init : List Cond := .code yX1_init cX1_init 1 none :: ([.methodLink RX1 3 objectInit, .instanceMethod objectInit, .code objectInit ⟨#[0xb1]⟩ 1 none, .arrayClass .int, .fieldLink RX1 9 "LeafOrder$Leaves" "begins" "[I", .fieldLink RX1 15 "LeafOrder$Leaves" "ends" "[I", .fieldLink RX1 18 "LeafOrder$Leaves" "words" "[I", .fieldLink RX1 21 "LeafOrder$Leaves" "cutBegins" "[I", .fieldLink RX1 24 "LeafOrder$Leaves" "cutEnds" "[I", .fieldLink RX1 27 "LeafOrder$Leaves" "stains" "[I"] ++ wsX10)
def wsX1_add : List Cond := .code yX1_add cX1_add 6 (some .int) :: ([.fieldLink RX1 30 "LeafOrder$Leaves" "count" "I", .fieldLink RX1 9 "LeafOrder$Leaves" "begins" "[I", .fieldLink RX1 15 "LeafOrder$Leaves" "ends" "[I", .fieldLink RX1 18 "LeafOrder$Leaves" "words" "[I"] ++ wsX10)
def wsX1_has : List Cond := .code yX1_has cX1_has 2 (some .boolean) :: ([.fieldLink RX1 30 "LeafOrder$Leaves" "count" "I"] ++ wsX10)
def wsX5_isWithin : List Cond := .code yX5_isWithin cX5_isWithin 2 (some .boolean) :: ([])
def wsX1_hasSide : List Cond := .code yX1_hasSide cX1_hasSide 3 (some .boolean) :: ([.methodLink RX1 34 yX1_has, .instanceMethod yX1_has, .selects RX1 yX1_has yX1_has, .initialized RX1, .code yX1_has cX1_has 2 (some .boolean), .fieldLink RX1 30 "LeafOrder$Leaves" "count" "I", .static yX5_isWithin, .initialized RX5, .code yX5_isWithin cX5_isWithin 2 (some .boolean)] ++ wsX10)
def wsX1_stainsApart : List Cond := .code yX1_stainsApart cX1_stainsApart 5 (some .int) :: ([.fieldLink RX1 27 "LeafOrder$Leaves" "stains" "[I", .methodLink RX1 42 Lib.Math.abs.name, .static Lib.Math.abs.name, .initialized "java/lang/Math", .code Lib.Math.abs.name Lib.Math.abs.code 1 (some .int)] ++ wsX10)
def wsX2_init : List Cond := .code yX2_init cX2_init 1 none :: ([.methodLink RX2 3 objectInit, .instanceMethod objectInit, .code objectInit ⟨#[0xb1]⟩ 1 none, .arrayClass .int, .fieldLink RX2 9 "LeafOrder$Rules" "behind" "[I", .fieldLink RX2 15 "LeafOrder$Rules" "rightBehind" "[I", .fieldLink RX2 18 "LeafOrder$Rules" "rightAhead" "[I"] ++ wsX20)
def wsX2_withBit : List Cond := .code yX2_withBit cX2_withBit 3 (some .int) :: ([])
def wsX2_putAhead : List Cond := .code yX2_putAhead cX2_putAhead 4 none :: ([.fieldLink RX2 9 "LeafOrder$Rules" "behind" "[I", .methodLink RX2 21 yX2_withBit, .static yX2_withBit, .initialized RX2, .code yX2_withBit cX2_withBit 3 (some .int)] ++ wsX20)
def wsX2_putJoined : List Cond := .code yX2_putJoined cX2_putJoined 4 none :: ([.fieldLink RX2 15 "LeafOrder$Rules" "rightBehind" "[I", .fieldLink RX2 18 "LeafOrder$Rules" "rightAhead" "[I", .methodLink RX2 21 yX2_withBit, .static yX2_withBit, .initialized RX2, .code yX2_withBit cX2_withBit 3 (some .int)] ++ wsX20)
def wsX2_mayComeAfter : List Cond := .code yX2_mayComeAfter cX2_mayComeAfter 3 (some .boolean) :: ([.fieldLink RX2 9 "LeafOrder$Rules" "behind" "[I", .fieldLink RX2 15 "LeafOrder$Rules" "rightBehind" "[I"] ++ wsX20)
def wsJ6_bitCount_0f7a4 : List Cond := .code yJ6_bitCount_0f7a4 cJ6_bitCount_0f7a4 1 (some .int) :: ([.constant RJ6 265 (1431655765), .constant RJ6 266 (858993459), .constant RJ6 267 (252645135)])
def wsX2_neighboursOf : List Cond := .code yX2_neighboursOf cX2_neighboursOf 4 (some .int) :: ([.fieldLink RX2 18 "LeafOrder$Rules" "rightAhead" "[I", .methodLink RX2 25 yJ6_bitCount_0f7a4, .static yJ6_bitCount_0f7a4, .initialized RJ6, .code yJ6_bitCount_0f7a4 cJ6_bitCount_0f7a4 1 (some .int), .constant RJ6 265 (1431655765), .constant RJ6 266 (858993459), .constant RJ6 267 (252645135)] ++ wsX20)
def wsX3_init : List Cond := .code yX3_init cX3_init 2 none :: ([.methodLink RX3 3 objectInit, .instanceMethod objectInit, .code objectInit ⟨#[0xb1]⟩ 1 none, .arrayClass .int, .fieldLink RX3 9 "LeafOrder$Scale" "sizes" "[I", .fieldLink RX3 15 "LeafOrder$Scale" "pile" "LLeafOrder$Leaves;"] ++ wsX30)
def wsX3_fullCost : List Cond := .code yX3_fullCost cX3_fullCost 8 (some .int) :: ([.fieldLink RX3 15 "LeafOrder$Scale" "pile" "LLeafOrder$Leaves;", .fieldLink RX3 27 "LeafOrder$Leaves" "begins" "[I", .fieldLink RX3 32 "LeafOrder$Leaves" "words" "[I", .fieldLink RX3 9 "LeafOrder$Scale" "sizes" "[I", .fieldLink RX3 35 "LeafOrder$Leaves" "ends" "[I", .methodLink RX3 38 Lib.Math.abs.name, .static Lib.Math.abs.name, .initialized "java/lang/Math", .code Lib.Math.abs.name Lib.Math.abs.code 1 (some .int), .fieldLink RX3 44 "LeafOrder$Leaves" "cutEnds" "[I", .fieldLink RX3 47 "LeafOrder$Leaves" "cutBegins" "[I", .methodLink RX3 50 yX1_stainsApart, .instanceMethod yX1_stainsApart, .selects RX1 yX1_stainsApart yX1_stainsApart, .initialized RX1, .code yX1_stainsApart cX1_stainsApart 5 (some .int), .fieldLink RX1 27 "LeafOrder$Leaves" "stains" "[I", .methodLink RX1 42 Lib.Math.abs.name] ++ wsX30 ++ wsX10)
def wsX3_isOverGap : List Cond := .code yX3_isOverGap cX3_isOverGap 2 (some .boolean) :: ([.fieldLink RX3 9 "LeafOrder$Scale" "sizes" "[I"] ++ wsX30)
def wsX3_joinCost_r1 : List Cond := [Cond.fieldLink RX3 9 "LeafOrder$Scale" "sizes" "[I", Cond.methodLink RX3 19 yX3_fullCost, Cond.instanceMethod yX3_fullCost, Cond.selects RX3 yX3_fullCost yX3_fullCost, Cond.initialized RX3, Cond.code yX3_fullCost cX3_fullCost 8 (some .int), Cond.fieldLink RX3 15 "LeafOrder$Scale" "pile" "LLeafOrder$Leaves;", Cond.fieldLink RX3 27 "LeafOrder$Leaves" "begins" "[I", Cond.fieldLink RX3 32 "LeafOrder$Leaves" "words" "[I", Cond.fieldLink RX3 35 "LeafOrder$Leaves" "ends" "[I", Cond.methodLink RX3 38 Lib.Math.abs.name, Cond.static Lib.Math.abs.name, Cond.initialized "java/lang/Math", Cond.code Lib.Math.abs.name Lib.Math.abs.code 1 (some .int), Cond.fieldLink RX3 44 "LeafOrder$Leaves" "cutEnds" "[I", Cond.fieldLink RX3 47 "LeafOrder$Leaves" "cutBegins" "[I", Cond.methodLink RX3 50 yX1_stainsApart, Cond.instanceMethod yX1_stainsApart, Cond.selects RX1 yX1_stainsApart yX1_stainsApart, Cond.initialized RX1, Cond.code yX1_stainsApart cX1_stainsApart 5 (some .int), Cond.fieldLink RX1 27 "LeafOrder$Leaves" "stains" "[I", Cond.methodLink RX1 42 Lib.Math.abs.name, Cond.methodLink RX3 23 yX3_isOverGap]
def wsX3_joinCost_r2 : List Cond := [Cond.instanceMethod yX3_isOverGap, Cond.selects RX3 yX3_isOverGap yX3_isOverGap, Cond.code yX3_isOverGap cX3_isOverGap 2 (some .boolean)]
def wsX3_joinCost : List Cond := .code yX3_joinCost cX3_joinCost 4 (some .int) :: ((wsX3_joinCost_r1 ++ wsX3_joinCost_r2) ++ wsX30 ++ wsX10)
def wsX3_isMissing_r1 : List Cond := [Cond.methodLink RX3 19 yX3_fullCost, Cond.instanceMethod yX3_fullCost, Cond.selects RX3 yX3_fullCost yX3_fullCost, Cond.initialized RX3, Cond.code yX3_fullCost cX3_fullCost 8 (some .int), Cond.fieldLink RX3 15 "LeafOrder$Scale" "pile" "LLeafOrder$Leaves;", Cond.fieldLink RX3 27 "LeafOrder$Leaves" "begins" "[I", Cond.fieldLink RX3 32 "LeafOrder$Leaves" "words" "[I", Cond.fieldLink RX3 9 "LeafOrder$Scale" "sizes" "[I", Cond.fieldLink RX3 35 "LeafOrder$Leaves" "ends" "[I", Cond.methodLink RX3 38 Lib.Math.abs.name, Cond.static Lib.Math.abs.name, Cond.initialized "java/lang/Math", Cond.code Lib.Math.abs.name Lib.Math.abs.code 1 (some .int), Cond.fieldLink RX3 44 "LeafOrder$Leaves" "cutEnds" "[I", Cond.fieldLink RX3 47 "LeafOrder$Leaves" "cutBegins" "[I", Cond.methodLink RX3 50 yX1_stainsApart, Cond.instanceMethod yX1_stainsApart, Cond.selects RX1 yX1_stainsApart yX1_stainsApart, Cond.initialized RX1, Cond.code yX1_stainsApart cX1_stainsApart 5 (some .int), Cond.fieldLink RX1 27 "LeafOrder$Leaves" "stains" "[I", Cond.methodLink RX1 42 Lib.Math.abs.name, Cond.methodLink RX3 23 yX3_isOverGap]
def wsX3_isMissing_r2 : List Cond := [Cond.instanceMethod yX3_isOverGap, Cond.selects RX3 yX3_isOverGap yX3_isOverGap, Cond.code yX3_isOverGap cX3_isOverGap 2 (some .boolean)]
def wsX3_isMissing : List Cond := .code yX3_isMissing cX3_isMissing 3 (some .boolean) :: ((wsX3_isMissing_r1 ++ wsX3_isMissing_r2) ++ wsX30 ++ wsX10)
def wsX4_init : List Cond := .code yX4_init cX4_init 2 none :: ([.methodLink RX4 3 objectInit, .instanceMethod objectInit, .code objectInit ⟨#[0xb1]⟩ 1 none, .arrayClass .int, .fieldLink RX4 9 "LeafOrder$Search" "joins" "[I", .fieldLink RX4 15 "LeafOrder$Search" "least" "[I", .fieldLink RX4 18 "LeafOrder$Search" "setCosts" "[I", .fieldLink RX4 21 "LeafOrder$Search" "order" "[I", .fieldLink RX4 24 "LeafOrder$Search" "rules" "LLeafOrder$Rules;"] ++ wsX40)
def wsX4_prepare_r1 : List Cond := [Cond.fieldLink RX4 28 "LeafOrder$Scale" "pile" "LLeafOrder$Leaves;", Cond.fieldLink RX4 34 "LeafOrder$Leaves" "count" "I", Cond.fieldLink RX4 40 "LeafOrder$Search" "count" "I", Cond.fieldLink RX4 41 "LeafOrder$Scale" "sizes" "[I", Cond.constant RX4 44 (1000000), Cond.fieldLink RX4 45 "LeafOrder$Search" "turnCost" "I", Cond.fieldLink RX4 9 "LeafOrder$Search" "joins" "[I", Cond.methodLink RX4 48 yX3_joinCost, Cond.instanceMethod yX3_joinCost, Cond.selects RX3 yX3_joinCost yX3_joinCost, Cond.initialized RX3, Cond.code yX3_joinCost cX3_joinCost 4 (some .int), Cond.fieldLink RX3 9 "LeafOrder$Scale" "sizes" "[I", Cond.methodLink RX3 19 yX3_fullCost, Cond.instanceMethod yX3_fullCost, Cond.selects RX3 yX3_fullCost yX3_fullCost, Cond.code yX3_fullCost cX3_fullCost 8 (some .int), Cond.fieldLink RX3 15 "LeafOrder$Scale" "pile" "LLeafOrder$Leaves;", Cond.fieldLink RX3 27 "LeafOrder$Leaves" "begins" "[I", Cond.fieldLink RX3 32 "LeafOrder$Leaves" "words" "[I", Cond.fieldLink RX3 35 "LeafOrder$Leaves" "ends" "[I", Cond.methodLink RX3 38 Lib.Math.abs.name, Cond.static Lib.Math.abs.name, Cond.initialized "java/lang/Math"]
def wsX4_prepare_r2 : List Cond := [Cond.code Lib.Math.abs.name Lib.Math.abs.code 1 (some .int), Cond.fieldLink RX3 44 "LeafOrder$Leaves" "cutEnds" "[I", Cond.fieldLink RX3 47 "LeafOrder$Leaves" "cutBegins" "[I", Cond.methodLink RX3 50 yX1_stainsApart, Cond.instanceMethod yX1_stainsApart, Cond.selects RX1 yX1_stainsApart yX1_stainsApart, Cond.initialized RX1, Cond.code yX1_stainsApart cX1_stainsApart 5 (some .int), Cond.fieldLink RX1 27 "LeafOrder$Leaves" "stains" "[I", Cond.methodLink RX1 42 Lib.Math.abs.name, Cond.methodLink RX3 23 yX3_isOverGap, Cond.instanceMethod yX3_isOverGap, Cond.selects RX3 yX3_isOverGap yX3_isOverGap, Cond.code yX3_isOverGap cX3_isOverGap 2 (some .boolean)]
def wsX4_prepare : List Cond := .code yX4_prepare cX4_prepare 5 none :: ((wsX4_prepare_r1 ++ wsX4_prepare_r2) ++ wsX30 ++ wsX10 ++ wsX40)
def wsX4_leastUpTo : List Cond := .code yX4_leastUpTo cX4_leastUpTo 9 (some .int) :: ([.constant RX4 44 (1000000), .fieldLink RX4 40 "LeafOrder$Search" "count" "I", .fieldLink RX4 15 "LeafOrder$Search" "least" "[I", .fieldLink RX4 9 "LeafOrder$Search" "joins" "[I", .methodLink RX4 93 Lib.Math.min.name, .static Lib.Math.min.name, .initialized "java/lang/Math", .code Lib.Math.min.name Lib.Math.min.code 2 (some .int)] ++ wsX40)
def wsX4_fillLast : List Cond := .code yX4_fillLast cX4_fillLast 8 none :: ([.constant RX4 44 (1000000), .fieldLink RX4 24 "LeafOrder$Search" "rules" "LLeafOrder$Rules;", .fieldLink RX4 45 "LeafOrder$Search" "turnCost" "I", .methodLink RX4 93 Lib.Math.min.name, .static Lib.Math.min.name, .initialized "java/lang/Math", .code Lib.Math.min.name Lib.Math.min.code 2 (some .int), .fieldLink RX4 15 "LeafOrder$Search" "least" "[I", .methodLink RX4 86 yX2_mayComeAfter, .instanceMethod yX2_mayComeAfter, .selects RX2 yX2_mayComeAfter yX2_mayComeAfter, .initialized RX2, .code yX2_mayComeAfter cX2_mayComeAfter 3 (some .boolean), .fieldLink RX2 9 "LeafOrder$Rules" "behind" "[I", .fieldLink RX2 15 "LeafOrder$Rules" "rightBehind" "[I", .methodLink RX4 89 yX4_leastUpTo, .instanceMethod yX4_leastUpTo, .selects RX4 yX4_leastUpTo yX4_leastUpTo, .initialized RX4, .code yX4_leastUpTo cX4_leastUpTo 9 (some .int), .fieldLink RX4 40 "LeafOrder$Search" "count" "I", .fieldLink RX4 9 "LeafOrder$Search" "joins" "[I"] ++ wsX40 ++ wsX20)
def wsX4_fill_r1 : List Cond := [Cond.fieldLink RX4 40 "LeafOrder$Search" "count" "I", Cond.fieldLink RX4 24 "LeafOrder$Search" "rules" "LLeafOrder$Rules;", Cond.methodLink RX4 56 yX4_all, Cond.instanceMethod yX4_all, Cond.selects RX4 yX4_all yX4_all, Cond.initialized RX4, Cond.code yX4_all cX4_all 1 (some .int), Cond.methodLink RX4 77 yX2_neighboursOf, Cond.instanceMethod yX2_neighboursOf, Cond.selects RX2 yX2_neighboursOf yX2_neighboursOf, Cond.initialized RX2, Cond.code yX2_neighboursOf cX2_neighboursOf 4 (some .int), Cond.fieldLink RX2 18 "LeafOrder$Rules" "rightAhead" "[I", Cond.methodLink RX2 25 yJ6_bitCount_0f7a4, Cond.static yJ6_bitCount_0f7a4, Cond.initialized RJ6, Cond.code yJ6_bitCount_0f7a4 cJ6_bitCount_0f7a4 1 (some .int), Cond.constant RJ6 265 (1431655765), Cond.constant RJ6 266 (858993459), Cond.constant RJ6 267 (252645135), Cond.methodLink RX4 82 yX4_fillLast, Cond.instanceMethod yX4_fillLast, Cond.selects RX4 yX4_fillLast yX4_fillLast, Cond.code yX4_fillLast cX4_fillLast 8 none]
def wsX4_fill_r2 : List Cond := [Cond.constant RX4 44 (1000000), Cond.fieldLink RX4 45 "LeafOrder$Search" "turnCost" "I", Cond.methodLink RX4 93 Lib.Math.min.name, Cond.static Lib.Math.min.name, Cond.initialized "java/lang/Math", Cond.code Lib.Math.min.name Lib.Math.min.code 2 (some .int), Cond.fieldLink RX4 15 "LeafOrder$Search" "least" "[I", Cond.methodLink RX4 86 yX2_mayComeAfter, Cond.instanceMethod yX2_mayComeAfter, Cond.selects RX2 yX2_mayComeAfter yX2_mayComeAfter, Cond.code yX2_mayComeAfter cX2_mayComeAfter 3 (some .boolean), Cond.fieldLink RX2 9 "LeafOrder$Rules" "behind" "[I", Cond.fieldLink RX2 15 "LeafOrder$Rules" "rightBehind" "[I", Cond.methodLink RX4 89 yX4_leastUpTo, Cond.instanceMethod yX4_leastUpTo, Cond.selects RX4 yX4_leastUpTo yX4_leastUpTo, Cond.code yX4_leastUpTo cX4_leastUpTo 9 (some .int), Cond.fieldLink RX4 9 "LeafOrder$Search" "joins" "[I"]
def wsX4_fill : List Cond := .code yX4_fill cX4_fill 7 none :: ((wsX4_fill_r1 ++ wsX4_fill_r2) ++ wsX40 ++ wsX20)
def wsX4_leastOf : List Cond := .code yX4_leastOf cX4_leastOf 4 (some .int) :: ([.constant RX4 44 (1000000), .fieldLink RX4 40 "LeafOrder$Search" "count" "I", .fieldLink RX4 15 "LeafOrder$Search" "least" "[I", .methodLink RX4 93 Lib.Math.min.name, .static Lib.Math.min.name, .initialized "java/lang/Math", .code Lib.Math.min.name Lib.Math.min.code 2 (some .int)] ++ wsX40)
def wsX4_linkCost : List Cond := .code yX4_linkCost cX4_linkCost 3 (some .int) :: ([.fieldLink RX4 9 "LeafOrder$Search" "joins" "[I"] ++ wsX40)
def wsX4_pick_r1 : List Cond := [Cond.fieldLink RX4 24 "LeafOrder$Search" "rules" "LLeafOrder$Rules;", Cond.constant RX4 44 (1000000), Cond.fieldLink RX4 40 "LeafOrder$Search" "count" "I", Cond.fieldLink RX4 15 "LeafOrder$Search" "least" "[I", Cond.fieldLink RX4 67 "LeafOrder$Search" "nextCost" "I", Cond.methodLink RX4 93 Lib.Math.min.name, Cond.static Lib.Math.min.name, Cond.initialized "java/lang/Math", Cond.code Lib.Math.min.name Lib.Math.min.code 2 (some .int), Cond.methodLink RX4 77 yX2_neighboursOf, Cond.instanceMethod yX2_neighboursOf, Cond.selects RX2 yX2_neighboursOf yX2_neighboursOf, Cond.initialized RX2, Cond.code yX2_neighboursOf cX2_neighboursOf 4 (some .int), Cond.fieldLink RX2 18 "LeafOrder$Rules" "rightAhead" "[I", Cond.methodLink RX2 25 yJ6_bitCount_0f7a4, Cond.static yJ6_bitCount_0f7a4, Cond.initialized RJ6, Cond.code yJ6_bitCount_0f7a4 cJ6_bitCount_0f7a4 1 (some .int), Cond.constant RJ6 265 (1431655765), Cond.constant RJ6 266 (858993459), Cond.constant RJ6 267 (252645135), Cond.methodLink RX4 101 yX4_linkCost, Cond.instanceMethod yX4_linkCost]
def wsX4_pick_r2 : List Cond := [Cond.selects RX4 yX4_linkCost yX4_linkCost, Cond.initialized RX4, Cond.code yX4_linkCost cX4_linkCost 3 (some .int), Cond.fieldLink RX4 9 "LeafOrder$Search" "joins" "[I"]
def wsX4_pick : List Cond := .code yX4_pick cX4_pick 9 (some .int) :: ((wsX4_pick_r1 ++ wsX4_pick_r2) ++ wsX40 ++ wsX20)
def wsX4_trace_r1 : List Cond := [Cond.fieldLink RX4 40 "LeafOrder$Search" "count" "I", Cond.fieldLink RX4 21 "LeafOrder$Search" "order" "[I", Cond.fieldLink RX4 45 "LeafOrder$Search" "turnCost" "I", Cond.methodLink RX4 56 yX4_all, Cond.instanceMethod yX4_all, Cond.selects RX4 yX4_all yX4_all, Cond.initialized RX4, Cond.code yX4_all cX4_all 1 (some .int), Cond.methodLink RX4 98 yX4_pick, Cond.instanceMethod yX4_pick, Cond.selects RX4 yX4_pick yX4_pick, Cond.code yX4_pick cX4_pick 9 (some .int), Cond.fieldLink RX4 24 "LeafOrder$Search" "rules" "LLeafOrder$Rules;", Cond.constant RX4 44 (1000000), Cond.fieldLink RX4 15 "LeafOrder$Search" "least" "[I", Cond.fieldLink RX4 67 "LeafOrder$Search" "nextCost" "I", Cond.methodLink RX4 93 Lib.Math.min.name, Cond.static Lib.Math.min.name, Cond.initialized "java/lang/Math", Cond.code Lib.Math.min.name Lib.Math.min.code 2 (some .int), Cond.methodLink RX4 77 yX2_neighboursOf, Cond.instanceMethod yX2_neighboursOf, Cond.selects RX2 yX2_neighboursOf yX2_neighboursOf, Cond.initialized RX2]
def wsX4_trace_r2 : List Cond := [Cond.code yX2_neighboursOf cX2_neighboursOf 4 (some .int), Cond.fieldLink RX2 18 "LeafOrder$Rules" "rightAhead" "[I", Cond.methodLink RX2 25 yJ6_bitCount_0f7a4, Cond.static yJ6_bitCount_0f7a4, Cond.initialized RJ6, Cond.code yJ6_bitCount_0f7a4 cJ6_bitCount_0f7a4 1 (some .int), Cond.constant RJ6 265 (1431655765), Cond.constant RJ6 266 (858993459), Cond.constant RJ6 267 (252645135), Cond.methodLink RX4 101 yX4_linkCost, Cond.instanceMethod yX4_linkCost, Cond.selects RX4 yX4_linkCost yX4_linkCost, Cond.code yX4_linkCost cX4_linkCost 3 (some .int), Cond.fieldLink RX4 9 "LeafOrder$Search" "joins" "[I"]
def wsX4_trace : List Cond := .code yX4_trace cX4_trace 6 none :: ((wsX4_trace_r1 ++ wsX4_trace_r2) ++ wsX40 ++ wsX20)
def wsX4_solve_r1 : List Cond := [Cond.fieldLink RX4 18 "LeafOrder$Search" "setCosts" "[I", Cond.fieldLink RX4 64 "LeafOrder$Search" "bestCost" "I", Cond.constant RX4 44 (1000000), Cond.fieldLink RX4 67 "LeafOrder$Search" "nextCost" "I", Cond.methodLink RX4 52 yX4_fill, Cond.instanceMethod yX4_fill, Cond.selects RX4 yX4_fill yX4_fill, Cond.initialized RX4, Cond.code yX4_fill cX4_fill 7 none, Cond.fieldLink RX4 40 "LeafOrder$Search" "count" "I", Cond.fieldLink RX4 24 "LeafOrder$Search" "rules" "LLeafOrder$Rules;", Cond.methodLink RX4 56 yX4_all, Cond.instanceMethod yX4_all, Cond.selects RX4 yX4_all yX4_all, Cond.code yX4_all cX4_all 1 (some .int), Cond.methodLink RX4 77 yX2_neighboursOf, Cond.instanceMethod yX2_neighboursOf, Cond.selects RX2 yX2_neighboursOf yX2_neighboursOf, Cond.initialized RX2, Cond.code yX2_neighboursOf cX2_neighboursOf 4 (some .int), Cond.fieldLink RX2 18 "LeafOrder$Rules" "rightAhead" "[I", Cond.methodLink RX2 25 yJ6_bitCount_0f7a4, Cond.static yJ6_bitCount_0f7a4, Cond.initialized RJ6]
def wsX4_solve_r2 : List Cond := [Cond.code yJ6_bitCount_0f7a4 cJ6_bitCount_0f7a4 1 (some .int), Cond.constant RJ6 265 (1431655765), Cond.constant RJ6 266 (858993459), Cond.constant RJ6 267 (252645135), Cond.methodLink RX4 82 yX4_fillLast, Cond.instanceMethod yX4_fillLast, Cond.selects RX4 yX4_fillLast yX4_fillLast, Cond.code yX4_fillLast cX4_fillLast 8 none, Cond.fieldLink RX4 45 "LeafOrder$Search" "turnCost" "I", Cond.methodLink RX4 93 Lib.Math.min.name, Cond.static Lib.Math.min.name, Cond.initialized "java/lang/Math", Cond.code Lib.Math.min.name Lib.Math.min.code 2 (some .int), Cond.fieldLink RX4 15 "LeafOrder$Search" "least" "[I", Cond.methodLink RX4 86 yX2_mayComeAfter, Cond.instanceMethod yX2_mayComeAfter, Cond.selects RX2 yX2_mayComeAfter yX2_mayComeAfter, Cond.code yX2_mayComeAfter cX2_mayComeAfter 3 (some .boolean), Cond.fieldLink RX2 9 "LeafOrder$Rules" "behind" "[I", Cond.fieldLink RX2 15 "LeafOrder$Rules" "rightBehind" "[I", Cond.methodLink RX4 89 yX4_leastUpTo, Cond.instanceMethod yX4_leastUpTo, Cond.selects RX4 yX4_leastUpTo yX4_leastUpTo, Cond.code yX4_leastUpTo cX4_leastUpTo 9 (some .int)]
def wsX4_solve_r3 : List Cond := [Cond.fieldLink RX4 9 "LeafOrder$Search" "joins" "[I", Cond.methodLink RX4 60 yX4_leastOf, Cond.instanceMethod yX4_leastOf, Cond.selects RX4 yX4_leastOf yX4_leastOf, Cond.code yX4_leastOf cX4_leastOf 4 (some .int), Cond.methodLink RX4 70 yX4_trace, Cond.instanceMethod yX4_trace, Cond.selects RX4 yX4_trace yX4_trace, Cond.code yX4_trace cX4_trace 6 none, Cond.fieldLink RX4 21 "LeafOrder$Search" "order" "[I", Cond.methodLink RX4 98 yX4_pick, Cond.instanceMethod yX4_pick, Cond.selects RX4 yX4_pick yX4_pick, Cond.code yX4_pick cX4_pick 9 (some .int), Cond.methodLink RX4 101 yX4_linkCost, Cond.instanceMethod yX4_linkCost, Cond.selects RX4 yX4_linkCost yX4_linkCost, Cond.code yX4_linkCost cX4_linkCost 3 (some .int)]
def wsX4_solve : List Cond := .code yX4_solve cX4_solve 2 none :: ((wsX4_solve_r1 ++ (wsX4_solve_r2 ++ wsX4_solve_r3)) ++ wsX40 ++ wsX20)
def wsX4_isInBest : List Cond := .code yX4_isInBest cX4_isInBest 4 (some .boolean) :: ([.fieldLink RX4 40 "LeafOrder$Search" "count" "I", .fieldLink RX4 21 "LeafOrder$Search" "order" "[I"] ++ wsX40)
def wsX4_isSure_r1 : List Cond := [Cond.fieldLink RX4 67 "LeafOrder$Search" "nextCost" "I", Cond.fieldLink RX4 64 "LeafOrder$Search" "bestCost" "I", Cond.methodLink RX4 73 yX4_isInBest, Cond.instanceMethod yX4_isInBest, Cond.selects RX4 yX4_isInBest yX4_isInBest, Cond.initialized RX4, Cond.code yX4_isInBest cX4_isInBest 4 (some .boolean), Cond.fieldLink RX4 40 "LeafOrder$Search" "count" "I", Cond.fieldLink RX4 21 "LeafOrder$Search" "order" "[I", Cond.methodLink RX4 52 yX4_fill, Cond.instanceMethod yX4_fill, Cond.selects RX4 yX4_fill yX4_fill, Cond.code yX4_fill cX4_fill 7 none, Cond.fieldLink RX4 24 "LeafOrder$Search" "rules" "LLeafOrder$Rules;", Cond.methodLink RX4 56 yX4_all, Cond.instanceMethod yX4_all, Cond.selects RX4 yX4_all yX4_all, Cond.code yX4_all cX4_all 1 (some .int), Cond.methodLink RX4 77 yX2_neighboursOf, Cond.instanceMethod yX2_neighboursOf, Cond.selects RX2 yX2_neighboursOf yX2_neighboursOf, Cond.initialized RX2, Cond.code yX2_neighboursOf cX2_neighboursOf 4 (some .int), Cond.fieldLink RX2 18 "LeafOrder$Rules" "rightAhead" "[I"]
def wsX4_isSure_r2 : List Cond := [Cond.methodLink RX2 25 yJ6_bitCount_0f7a4, Cond.static yJ6_bitCount_0f7a4, Cond.initialized RJ6, Cond.code yJ6_bitCount_0f7a4 cJ6_bitCount_0f7a4 1 (some .int), Cond.constant RJ6 265 (1431655765), Cond.constant RJ6 266 (858993459), Cond.constant RJ6 267 (252645135), Cond.methodLink RX4 82 yX4_fillLast, Cond.instanceMethod yX4_fillLast, Cond.selects RX4 yX4_fillLast yX4_fillLast, Cond.code yX4_fillLast cX4_fillLast 8 none, Cond.constant RX4 44 (1000000), Cond.fieldLink RX4 45 "LeafOrder$Search" "turnCost" "I", Cond.methodLink RX4 93 Lib.Math.min.name, Cond.static Lib.Math.min.name, Cond.initialized "java/lang/Math", Cond.code Lib.Math.min.name Lib.Math.min.code 2 (some .int), Cond.fieldLink RX4 15 "LeafOrder$Search" "least" "[I", Cond.methodLink RX4 86 yX2_mayComeAfter, Cond.instanceMethod yX2_mayComeAfter, Cond.selects RX2 yX2_mayComeAfter yX2_mayComeAfter, Cond.code yX2_mayComeAfter cX2_mayComeAfter 3 (some .boolean), Cond.fieldLink RX2 9 "LeafOrder$Rules" "behind" "[I", Cond.fieldLink RX2 15 "LeafOrder$Rules" "rightBehind" "[I"]
def wsX4_isSure_r3 : List Cond := [Cond.methodLink RX4 89 yX4_leastUpTo, Cond.instanceMethod yX4_leastUpTo, Cond.selects RX4 yX4_leastUpTo yX4_leastUpTo, Cond.code yX4_leastUpTo cX4_leastUpTo 9 (some .int), Cond.fieldLink RX4 9 "LeafOrder$Search" "joins" "[I", Cond.methodLink RX4 60 yX4_leastOf, Cond.instanceMethod yX4_leastOf, Cond.selects RX4 yX4_leastOf yX4_leastOf, Cond.code yX4_leastOf cX4_leastOf 4 (some .int)]
def wsX4_isSure : List Cond := .code yX4_isSure cX4_isSure 4 (some .boolean) :: ((wsX4_isSure_r1 ++ (wsX4_isSure_r2 ++ wsX4_isSure_r3)) ++ wsX40 ++ wsX20)
def wsX5_init_r1 : List Cond := [Cond.methodLink RX5 3 objectInit, Cond.instanceMethod objectInit, Cond.code objectInit ⟨#[0xb1]⟩ 1 none, Cond.classLink RX5 9 RX1, Cond.instantiable RX1 7, Cond.initialized RX1, Cond.fieldLink RX5 12 "LeafOrder" "pile" "LLeafOrder$Leaves;", Cond.classLink RX5 16 RX3, Cond.instantiable RX3 2, Cond.initialized RX3, Cond.fieldLink RX5 21 "LeafOrder" "scale" "LLeafOrder$Scale;", Cond.classLink RX5 25 RX2, Cond.instantiable RX2 3, Cond.initialized RX2, Cond.fieldLink RX5 28 "LeafOrder" "rules" "LLeafOrder$Rules;", Cond.classLink RX5 32 RX4, Cond.instantiable RX4 9, Cond.initialized RX4, Cond.fieldLink RX5 37 "LeafOrder" "search" "LLeafOrder$Search;", Cond.classLink RX5 41 RX0, Cond.instantiable RX0 3, Cond.initialized RX0, Cond.fieldLink RX5 46 "LeafOrder" "books" "LLeafOrder$Books;", Cond.fieldLink RX5 50 "LeafOrder" "mayTurn" "Z"]
def wsX5_init_r2 : List Cond := [Cond.fieldLink RX5 54 "LeafOrder" "stale" "Z", Cond.instanceMethod yX1_init, Cond.code yX1_init cX1_init 1 none, Cond.methodLink RX1 3 objectInit, Cond.arrayClass .int, Cond.fieldLink RX1 9 "LeafOrder$Leaves" "begins" "[I", Cond.fieldLink RX1 15 "LeafOrder$Leaves" "ends" "[I", Cond.fieldLink RX1 18 "LeafOrder$Leaves" "words" "[I", Cond.fieldLink RX1 21 "LeafOrder$Leaves" "cutBegins" "[I", Cond.fieldLink RX1 24 "LeafOrder$Leaves" "cutEnds" "[I", Cond.fieldLink RX1 27 "LeafOrder$Leaves" "stains" "[I", Cond.methodLink RX5 18 yX3_init, Cond.instanceMethod yX3_init, Cond.code yX3_init cX3_init 2 none, Cond.methodLink RX3 3 objectInit, Cond.fieldLink RX3 9 "LeafOrder$Scale" "sizes" "[I", Cond.fieldLink RX3 15 "LeafOrder$Scale" "pile" "LLeafOrder$Leaves;", Cond.instanceMethod yX2_init, Cond.code yX2_init cX2_init 1 none, Cond.methodLink RX2 3 objectInit, Cond.fieldLink RX2 9 "LeafOrder$Rules" "behind" "[I", Cond.fieldLink RX2 15 "LeafOrder$Rules" "rightBehind" "[I", Cond.fieldLink RX2 18 "LeafOrder$Rules" "rightAhead" "[I", Cond.methodLink RX5 34 yX4_init]
def wsX5_init_r3 : List Cond := [Cond.instanceMethod yX4_init, Cond.code yX4_init cX4_init 2 none, Cond.methodLink RX4 3 objectInit, Cond.fieldLink RX4 9 "LeafOrder$Search" "joins" "[I", Cond.fieldLink RX4 15 "LeafOrder$Search" "least" "[I", Cond.fieldLink RX4 18 "LeafOrder$Search" "setCosts" "[I", Cond.fieldLink RX4 21 "LeafOrder$Search" "order" "[I", Cond.fieldLink RX4 24 "LeafOrder$Search" "rules" "LLeafOrder$Rules;", Cond.methodLink RX5 43 yX0_init, Cond.instanceMethod yX0_init, Cond.code yX0_init cX0_init 2 none, Cond.methodLink RX0 3 objectInit, Cond.fieldLink RX0 9 "LeafOrder$Books" "search" "LLeafOrder$Search;"]
def wsX5_init : List Cond := .code yX5_init cX5_init 1 none :: ((wsX5_init_r1 ++ (wsX5_init_r2 ++ wsX5_init_r3)) ++ wsX10 ++ wsX50 ++ wsX30 ++ wsX20 ++ wsX40 ++ wsX00)
def wsX5_isMark : List Cond := .code yX5_isMark cX5_isMark 1 (some .boolean) :: ([.methodLink RX5 86 yX5_isWithin, .static yX5_isWithin, .initialized RX5, .code yX5_isWithin cX5_isWithin 2 (some .boolean)])
def wsX5_leaf : List Cond := .code yX5_leaf cX5_leaf 6 (some .int) :: ([.fieldLink RX5 12 "LeafOrder" "pile" "LLeafOrder$Leaves;", .fieldLink RX5 61 "LeafOrder$Leaves" "count" "I", .fieldLink RX5 54 "LeafOrder" "stale" "Z", .methodLink RX5 57 yX5_isMark, .static yX5_isMark, .initialized RX5, .code yX5_isMark cX5_isMark 1 (some .boolean), .methodLink RX5 86 yX5_isWithin, .static yX5_isWithin, .code yX5_isWithin cX5_isWithin 2 (some .boolean), .methodLink RX5 65 yX1_add, .instanceMethod yX1_add, .selects RX1 yX1_add yX1_add, .initialized RX1, .code yX1_add cX1_add 6 (some .int), .fieldLink RX1 30 "LeafOrder$Leaves" "count" "I", .fieldLink RX1 9 "LeafOrder$Leaves" "begins" "[I", .fieldLink RX1 15 "LeafOrder$Leaves" "ends" "[I", .fieldLink RX1 18 "LeafOrder$Leaves" "words" "[I"] ++ wsX50 ++ wsX10)
def wsX5_catchword : List Cond := .code yX5_catchword cX5_catchword 4 (some .boolean) :: ([.fieldLink RX5 12 "LeafOrder" "pile" "LLeafOrder$Leaves;", .fieldLink RX5 73 "LeafOrder$Leaves" "words" "[I", .fieldLink RX5 54 "LeafOrder" "stale" "Z", .methodLink RX5 69 yX1_hasSide, .instanceMethod yX1_hasSide, .selects RX1 yX1_hasSide yX1_hasSide, .initialized RX1, .code yX1_hasSide cX1_hasSide 3 (some .boolean), .methodLink RX1 34 yX1_has, .instanceMethod yX1_has, .selects RX1 yX1_has yX1_has, .code yX1_has cX1_has 2 (some .boolean), .fieldLink RX1 30 "LeafOrder$Leaves" "count" "I", .static yX5_isWithin, .initialized RX5, .code yX5_isWithin cX5_isWithin 2 (some .boolean), .methodLink RX5 57 yX5_isMark, .static yX5_isMark, .code yX5_isMark cX5_isMark 1 (some .boolean), .methodLink RX5 86 yX5_isWithin] ++ wsX50 ++ wsX10)
def wsX5_cut : List Cond := .code yX5_cut cX5_cut 5 (some .boolean) :: ([.fieldLink RX5 12 "LeafOrder" "pile" "LLeafOrder$Leaves;", .fieldLink RX5 77 "LeafOrder$Leaves" "cutBegins" "[I", .fieldLink RX5 80 "LeafOrder$Leaves" "cutEnds" "[I", .fieldLink RX5 54 "LeafOrder" "stale" "Z", .methodLink RX5 69 yX1_hasSide, .instanceMethod yX1_hasSide, .selects RX1 yX1_hasSide yX1_hasSide, .initialized RX1, .code yX1_hasSide cX1_hasSide 3 (some .boolean), .methodLink RX1 34 yX1_has, .instanceMethod yX1_has, .selects RX1 yX1_has yX1_has, .code yX1_has cX1_has 2 (some .boolean), .fieldLink RX1 30 "LeafOrder$Leaves" "count" "I", .static yX5_isWithin, .initialized RX5, .code yX5_isWithin cX5_isWithin 2 (some .boolean), .methodLink RX5 57 yX5_isMark, .static yX5_isMark, .code yX5_isMark cX5_isMark 1 (some .boolean), .methodLink RX5 86 yX5_isWithin] ++ wsX50 ++ wsX10)
def wsX5_stain : List Cond := .code yX5_stain cX5_stain 4 (some .boolean) :: ([.fieldLink RX5 12 "LeafOrder" "pile" "LLeafOrder$Leaves;", .fieldLink RX5 89 "LeafOrder$Leaves" "stains" "[I", .fieldLink RX5 54 "LeafOrder" "stale" "Z", .methodLink RX5 83 yX1_has, .instanceMethod yX1_has, .selects RX1 yX1_has yX1_has, .initialized RX1, .code yX1_has cX1_has 2 (some .boolean), .fieldLink RX1 30 "LeafOrder$Leaves" "count" "I", .methodLink RX5 86 yX5_isWithin, .static yX5_isWithin, .initialized RX5, .code yX5_isWithin cX5_isWithin 2 (some .boolean), .methodLink RX5 57 yX5_isMark, .static yX5_isMark, .code yX5_isMark cX5_isMark 1 (some .boolean)] ++ wsX50 ++ wsX10)
def wsX5_weights : List Cond := .code yX5_weights cX5_weights 8 (some .boolean) :: ([.fieldLink RX5 21 "LeafOrder" "scale" "LLeafOrder$Scale;", .fieldLink RX5 92 "LeafOrder$Scale" "sizes" "[I", .fieldLink RX5 54 "LeafOrder" "stale" "Z", .methodLink RX5 86 yX5_isWithin, .static yX5_isWithin, .initialized RX5, .code yX5_isWithin cX5_isWithin 2 (some .boolean)] ++ wsX50 ++ wsX30)
def wsX5_turnable : List Cond := .code yX5_turnable cX5_turnable 2 none :: ([.fieldLink RX5 50 "LeafOrder" "mayTurn" "Z", .fieldLink RX5 54 "LeafOrder" "stale" "Z"] ++ wsX50)
def wsX5_areTwo : List Cond := .code yX5_areTwo cX5_areTwo 3 (some .boolean) :: ([.fieldLink RX5 12 "LeafOrder" "pile" "LLeafOrder$Leaves;", .methodLink RX5 83 yX1_has, .instanceMethod yX1_has, .selects RX1 yX1_has yX1_has, .initialized RX1, .code yX1_has cX1_has 2 (some .boolean), .fieldLink RX1 30 "LeafOrder$Leaves" "count" "I"] ++ wsX50 ++ wsX10)
def wsX5_must_r1 : List Cond := [Cond.fieldLink RX5 28 "LeafOrder" "rules" "LLeafOrder$Rules;", Cond.fieldLink RX5 54 "LeafOrder" "stale" "Z", Cond.methodLink RX5 95 yX5_areTwo, Cond.instanceMethod yX5_areTwo, Cond.selects RX5 yX5_areTwo yX5_areTwo, Cond.initialized RX5, Cond.code yX5_areTwo cX5_areTwo 3 (some .boolean), Cond.fieldLink RX5 12 "LeafOrder" "pile" "LLeafOrder$Leaves;", Cond.methodLink RX5 83 yX1_has, Cond.instanceMethod yX1_has, Cond.selects RX1 yX1_has yX1_has, Cond.initialized RX1, Cond.code yX1_has cX1_has 2 (some .boolean), Cond.fieldLink RX1 30 "LeafOrder$Leaves" "count" "I", Cond.methodLink RX5 98 yX2_putJoined, Cond.instanceMethod yX2_putJoined, Cond.selects RX2 yX2_putJoined yX2_putJoined, Cond.initialized RX2, Cond.code yX2_putJoined cX2_putJoined 4 none, Cond.fieldLink RX2 15 "LeafOrder$Rules" "rightBehind" "[I", Cond.fieldLink RX2 18 "LeafOrder$Rules" "rightAhead" "[I", Cond.methodLink RX2 21 yX2_withBit, Cond.static yX2_withBit, Cond.code yX2_withBit cX2_withBit 3 (some .int)]
def wsX5_must_r2 : List Cond := [Cond.methodLink RX5 102 yX2_putAhead, Cond.instanceMethod yX2_putAhead, Cond.selects RX2 yX2_putAhead yX2_putAhead, Cond.code yX2_putAhead cX2_putAhead 4 none, Cond.fieldLink RX2 9 "LeafOrder$Rules" "behind" "[I"]
def wsX5_must : List Cond := .code yX5_must cX5_must 5 (some .boolean) :: ((wsX5_must_r1 ++ wsX5_must_r2) ++ wsX50 ++ wsX10 ++ wsX20)
def wsX5_standOf : List Cond := .code yX5_standOf cX5_standOf 2 (some .int) :: ([])
def wsX5_join_r1 : List Cond := [Cond.fieldLink RX5 50 "LeafOrder" "mayTurn" "Z", Cond.fieldLink RX5 21 "LeafOrder" "scale" "LLeafOrder$Scale;", Cond.methodLink RX5 95 yX5_areTwo, Cond.instanceMethod yX5_areTwo, Cond.selects RX5 yX5_areTwo yX5_areTwo, Cond.initialized RX5, Cond.code yX5_areTwo cX5_areTwo 3 (some .boolean), Cond.fieldLink RX5 12 "LeafOrder" "pile" "LLeafOrder$Leaves;", Cond.methodLink RX5 83 yX1_has, Cond.instanceMethod yX1_has, Cond.selects RX1 yX1_has yX1_has, Cond.initialized RX1, Cond.code yX1_has cX1_has 2 (some .boolean), Cond.fieldLink RX1 30 "LeafOrder$Leaves" "count" "I", Cond.methodLink RX5 105 yX5_standOf, Cond.static yX5_standOf, Cond.code yX5_standOf cX5_standOf 2 (some .int), Cond.methodLink RX5 109 yX3_joinCost, Cond.instanceMethod yX3_joinCost, Cond.selects RX3 yX3_joinCost yX3_joinCost, Cond.initialized RX3, Cond.code yX3_joinCost cX3_joinCost 4 (some .int), Cond.fieldLink RX3 9 "LeafOrder$Scale" "sizes" "[I", Cond.methodLink RX3 19 yX3_fullCost]
def wsX5_join_r2 : List Cond := [Cond.instanceMethod yX3_fullCost, Cond.selects RX3 yX3_fullCost yX3_fullCost, Cond.code yX3_fullCost cX3_fullCost 8 (some .int), Cond.fieldLink RX3 15 "LeafOrder$Scale" "pile" "LLeafOrder$Leaves;", Cond.fieldLink RX3 27 "LeafOrder$Leaves" "begins" "[I", Cond.fieldLink RX3 32 "LeafOrder$Leaves" "words" "[I", Cond.fieldLink RX3 35 "LeafOrder$Leaves" "ends" "[I", Cond.methodLink RX3 38 Lib.Math.abs.name, Cond.static Lib.Math.abs.name, Cond.initialized "java/lang/Math", Cond.code Lib.Math.abs.name Lib.Math.abs.code 1 (some .int), Cond.fieldLink RX3 44 "LeafOrder$Leaves" "cutEnds" "[I", Cond.fieldLink RX3 47 "LeafOrder$Leaves" "cutBegins" "[I", Cond.methodLink RX3 50 yX1_stainsApart, Cond.instanceMethod yX1_stainsApart, Cond.selects RX1 yX1_stainsApart yX1_stainsApart, Cond.code yX1_stainsApart cX1_stainsApart 5 (some .int), Cond.fieldLink RX1 27 "LeafOrder$Leaves" "stains" "[I", Cond.methodLink RX1 42 Lib.Math.abs.name, Cond.methodLink RX3 23 yX3_isOverGap, Cond.instanceMethod yX3_isOverGap, Cond.selects RX3 yX3_isOverGap yX3_isOverGap, Cond.code yX3_isOverGap cX3_isOverGap 2 (some .boolean)]
def wsX5_join : List Cond := .code yX5_join cX5_join 5 (some .int) :: ((wsX5_join_r1 ++ wsX5_join_r2) ++ wsX50 ++ wsX10 ++ wsX30)
def wsX5_refresh_r1 : List Cond := [Cond.fieldLink RX5 54 "LeafOrder" "stale" "Z", Cond.fieldLink RX5 37 "LeafOrder" "search" "LLeafOrder$Search;", Cond.fieldLink RX5 21 "LeafOrder" "scale" "LLeafOrder$Scale;", Cond.fieldLink RX5 50 "LeafOrder" "mayTurn" "Z", Cond.fieldLink RX5 46 "LeafOrder" "books" "LLeafOrder$Books;", Cond.methodLink RX5 146 yX4_prepare, Cond.instanceMethod yX4_prepare, Cond.selects RX4 yX4_prepare yX4_prepare, Cond.initialized RX4, Cond.code yX4_prepare cX4_prepare 5 none, Cond.fieldLink RX4 28 "LeafOrder$Scale" "pile" "LLeafOrder$Leaves;", Cond.fieldLink RX4 34 "LeafOrder$Leaves" "count" "I", Cond.fieldLink RX4 40 "LeafOrder$Search" "count" "I", Cond.fieldLink RX4 41 "LeafOrder$Scale" "sizes" "[I", Cond.constant RX4 44 (1000000), Cond.fieldLink RX4 45 "LeafOrder$Search" "turnCost" "I", Cond.fieldLink RX4 9 "LeafOrder$Search" "joins" "[I", Cond.methodLink RX4 48 yX3_joinCost, Cond.instanceMethod yX3_joinCost, Cond.selects RX3 yX3_joinCost yX3_joinCost, Cond.initialized RX3, Cond.code yX3_joinCost cX3_joinCost 4 (some .int), Cond.fieldLink RX3 9 "LeafOrder$Scale" "sizes" "[I", Cond.methodLink RX3 19 yX3_fullCost]
def wsX5_refresh_r2 : List Cond := [Cond.instanceMethod yX3_fullCost, Cond.selects RX3 yX3_fullCost yX3_fullCost, Cond.code yX3_fullCost cX3_fullCost 8 (some .int), Cond.fieldLink RX3 15 "LeafOrder$Scale" "pile" "LLeafOrder$Leaves;", Cond.fieldLink RX3 27 "LeafOrder$Leaves" "begins" "[I", Cond.fieldLink RX3 32 "LeafOrder$Leaves" "words" "[I", Cond.fieldLink RX3 35 "LeafOrder$Leaves" "ends" "[I", Cond.methodLink RX3 38 Lib.Math.abs.name, Cond.static Lib.Math.abs.name, Cond.initialized "java/lang/Math", Cond.code Lib.Math.abs.name Lib.Math.abs.code 1 (some .int), Cond.fieldLink RX3 44 "LeafOrder$Leaves" "cutEnds" "[I", Cond.fieldLink RX3 47 "LeafOrder$Leaves" "cutBegins" "[I", Cond.methodLink RX3 50 yX1_stainsApart, Cond.instanceMethod yX1_stainsApart, Cond.selects RX1 yX1_stainsApart yX1_stainsApart, Cond.initialized RX1, Cond.code yX1_stainsApart cX1_stainsApart 5 (some .int), Cond.fieldLink RX1 27 "LeafOrder$Leaves" "stains" "[I", Cond.methodLink RX1 42 Lib.Math.abs.name, Cond.methodLink RX3 23 yX3_isOverGap, Cond.instanceMethod yX3_isOverGap, Cond.selects RX3 yX3_isOverGap yX3_isOverGap, Cond.code yX3_isOverGap cX3_isOverGap 2 (some .boolean)]
def wsX5_refresh_r3 : List Cond := [Cond.methodLink RX5 150 yX4_solve, Cond.instanceMethod yX4_solve, Cond.selects RX4 yX4_solve yX4_solve, Cond.code yX4_solve cX4_solve 2 none, Cond.fieldLink RX4 18 "LeafOrder$Search" "setCosts" "[I", Cond.fieldLink RX4 64 "LeafOrder$Search" "bestCost" "I", Cond.fieldLink RX4 67 "LeafOrder$Search" "nextCost" "I", Cond.methodLink RX4 52 yX4_fill, Cond.instanceMethod yX4_fill, Cond.selects RX4 yX4_fill yX4_fill, Cond.code yX4_fill cX4_fill 7 none, Cond.fieldLink RX4 24 "LeafOrder$Search" "rules" "LLeafOrder$Rules;", Cond.methodLink RX4 56 yX4_all, Cond.instanceMethod yX4_all, Cond.selects RX4 yX4_all yX4_all, Cond.code yX4_all cX4_all 1 (some .int), Cond.methodLink RX4 77 yX2_neighboursOf, Cond.instanceMethod yX2_neighboursOf, Cond.selects RX2 yX2_neighboursOf yX2_neighboursOf, Cond.initialized RX2, Cond.code yX2_neighboursOf cX2_neighboursOf 4 (some .int), Cond.fieldLink RX2 18 "LeafOrder$Rules" "rightAhead" "[I", Cond.methodLink RX2 25 yJ6_bitCount_0f7a4, Cond.static yJ6_bitCount_0f7a4]
def wsX5_refresh_r4 : List Cond := [Cond.initialized RJ6, Cond.code yJ6_bitCount_0f7a4 cJ6_bitCount_0f7a4 1 (some .int), Cond.constant RJ6 265 (1431655765), Cond.constant RJ6 266 (858993459), Cond.constant RJ6 267 (252645135), Cond.methodLink RX4 82 yX4_fillLast, Cond.instanceMethod yX4_fillLast, Cond.selects RX4 yX4_fillLast yX4_fillLast, Cond.code yX4_fillLast cX4_fillLast 8 none, Cond.methodLink RX4 93 Lib.Math.min.name, Cond.static Lib.Math.min.name, Cond.code Lib.Math.min.name Lib.Math.min.code 2 (some .int), Cond.fieldLink RX4 15 "LeafOrder$Search" "least" "[I", Cond.methodLink RX4 86 yX2_mayComeAfter, Cond.instanceMethod yX2_mayComeAfter, Cond.selects RX2 yX2_mayComeAfter yX2_mayComeAfter, Cond.code yX2_mayComeAfter cX2_mayComeAfter 3 (some .boolean), Cond.fieldLink RX2 9 "LeafOrder$Rules" "behind" "[I", Cond.fieldLink RX2 15 "LeafOrder$Rules" "rightBehind" "[I", Cond.methodLink RX4 89 yX4_leastUpTo, Cond.instanceMethod yX4_leastUpTo, Cond.selects RX4 yX4_leastUpTo yX4_leastUpTo, Cond.code yX4_leastUpTo cX4_leastUpTo 9 (some .int), Cond.methodLink RX4 60 yX4_leastOf]
def wsX5_refresh_r5 : List Cond := [Cond.instanceMethod yX4_leastOf, Cond.selects RX4 yX4_leastOf yX4_leastOf, Cond.code yX4_leastOf cX4_leastOf 4 (some .int), Cond.methodLink RX4 70 yX4_trace, Cond.instanceMethod yX4_trace, Cond.selects RX4 yX4_trace yX4_trace, Cond.code yX4_trace cX4_trace 6 none, Cond.fieldLink RX4 21 "LeafOrder$Search" "order" "[I", Cond.methodLink RX4 98 yX4_pick, Cond.instanceMethod yX4_pick, Cond.selects RX4 yX4_pick yX4_pick, Cond.code yX4_pick cX4_pick 9 (some .int), Cond.methodLink RX4 101 yX4_linkCost, Cond.instanceMethod yX4_linkCost, Cond.selects RX4 yX4_linkCost yX4_linkCost, Cond.code yX4_linkCost cX4_linkCost 3 (some .int), Cond.methodLink RX5 153 yX0_part, Cond.instanceMethod yX0_part, Cond.selects RX0 yX0_part yX0_part, Cond.initialized RX0, Cond.code yX0_part cX0_part 3 none, Cond.constant RX0 15 (1000000), Cond.fieldLink RX0 16 "LeafOrder$Books" "cost" "I", Cond.fieldLink RX0 20 "LeafOrder$Books" "other" "I"]
def wsX5_refresh_r6 : List Cond := [Cond.fieldLink RX0 9 "LeafOrder$Books" "search" "LLeafOrder$Search;", Cond.methodLink RX0 23 yX4_all, Cond.methodLink RX0 29 yX0_costOf, Cond.instanceMethod yX0_costOf, Cond.selects RX0 yX0_costOf yX0_costOf, Cond.code yX0_costOf cX0_costOf 2 (some .int), Cond.fieldLink RX0 39 "LeafOrder$Search" "setCosts" "[I"]
def wsX5_refresh : List Cond := .code yX5_refresh cX5_refresh 1 none :: ((wsX5_refresh_r1 ++ (wsX5_refresh_r2 ++ (wsX5_refresh_r3 ++ (wsX5_refresh_r4 ++ (wsX5_refresh_r5 ++ wsX5_refresh_r6))))) ++ wsX50 ++ wsX30 ++ wsX10 ++ wsX40 ++ wsX20 ++ wsX00)
def wsX5_costOrNone : List Cond := .code yX5_costOrNone cX5_costOrNone 1 (some .int) :: ([.constant RX5 123 (1000000)])
def wsX5_best_r1 : List Cond := [Cond.fieldLink RX5 37 "LeafOrder" "search" "LLeafOrder$Search;", Cond.fieldLink RX5 116 "LeafOrder$Search" "bestCost" "I", Cond.methodLink RX5 113 yX5_refresh, Cond.instanceMethod yX5_refresh, Cond.selects RX5 yX5_refresh yX5_refresh, Cond.initialized RX5, Cond.code yX5_refresh cX5_refresh 1 none, Cond.fieldLink RX5 54 "LeafOrder" "stale" "Z", Cond.fieldLink RX5 21 "LeafOrder" "scale" "LLeafOrder$Scale;", Cond.fieldLink RX5 50 "LeafOrder" "mayTurn" "Z", Cond.fieldLink RX5 46 "LeafOrder" "books" "LLeafOrder$Books;", Cond.methodLink RX5 146 yX4_prepare, Cond.instanceMethod yX4_prepare, Cond.selects RX4 yX4_prepare yX4_prepare, Cond.initialized RX4, Cond.code yX4_prepare cX4_prepare 5 none, Cond.fieldLink RX4 28 "LeafOrder$Scale" "pile" "LLeafOrder$Leaves;", Cond.fieldLink RX4 34 "LeafOrder$Leaves" "count" "I", Cond.fieldLink RX4 40 "LeafOrder$Search" "count" "I", Cond.fieldLink RX4 41 "LeafOrder$Scale" "sizes" "[I", Cond.constant RX4 44 (1000000), Cond.fieldLink RX4 45 "LeafOrder$Search" "turnCost" "I", Cond.fieldLink RX4 9 "LeafOrder$Search" "joins" "[I", Cond.methodLink RX4 48 yX3_joinCost]
def wsX5_best_r2 : List Cond := [Cond.instanceMethod yX3_joinCost, Cond.selects RX3 yX3_joinCost yX3_joinCost, Cond.initialized RX3, Cond.code yX3_joinCost cX3_joinCost 4 (some .int), Cond.fieldLink RX3 9 "LeafOrder$Scale" "sizes" "[I", Cond.methodLink RX3 19 yX3_fullCost, Cond.instanceMethod yX3_fullCost, Cond.selects RX3 yX3_fullCost yX3_fullCost, Cond.code yX3_fullCost cX3_fullCost 8 (some .int), Cond.fieldLink RX3 15 "LeafOrder$Scale" "pile" "LLeafOrder$Leaves;", Cond.fieldLink RX3 27 "LeafOrder$Leaves" "begins" "[I", Cond.fieldLink RX3 32 "LeafOrder$Leaves" "words" "[I", Cond.fieldLink RX3 35 "LeafOrder$Leaves" "ends" "[I", Cond.methodLink RX3 38 Lib.Math.abs.name, Cond.static Lib.Math.abs.name, Cond.initialized "java/lang/Math", Cond.code Lib.Math.abs.name Lib.Math.abs.code 1 (some .int), Cond.fieldLink RX3 44 "LeafOrder$Leaves" "cutEnds" "[I", Cond.fieldLink RX3 47 "LeafOrder$Leaves" "cutBegins" "[I", Cond.methodLink RX3 50 yX1_stainsApart, Cond.instanceMethod yX1_stainsApart, Cond.selects RX1 yX1_stainsApart yX1_stainsApart, Cond.initialized RX1, Cond.code yX1_stainsApart cX1_stainsApart 5 (some .int)]
def wsX5_best_r3 : List Cond := [Cond.fieldLink RX1 27 "LeafOrder$Leaves" "stains" "[I", Cond.methodLink RX1 42 Lib.Math.abs.name, Cond.methodLink RX3 23 yX3_isOverGap, Cond.instanceMethod yX3_isOverGap, Cond.selects RX3 yX3_isOverGap yX3_isOverGap, Cond.code yX3_isOverGap cX3_isOverGap 2 (some .boolean), Cond.methodLink RX5 150 yX4_solve, Cond.instanceMethod yX4_solve, Cond.selects RX4 yX4_solve yX4_solve, Cond.code yX4_solve cX4_solve 2 none, Cond.fieldLink RX4 18 "LeafOrder$Search" "setCosts" "[I", Cond.fieldLink RX4 64 "LeafOrder$Search" "bestCost" "I", Cond.fieldLink RX4 67 "LeafOrder$Search" "nextCost" "I", Cond.methodLink RX4 52 yX4_fill, Cond.instanceMethod yX4_fill, Cond.selects RX4 yX4_fill yX4_fill, Cond.code yX4_fill cX4_fill 7 none, Cond.fieldLink RX4 24 "LeafOrder$Search" "rules" "LLeafOrder$Rules;", Cond.methodLink RX4 56 yX4_all, Cond.instanceMethod yX4_all, Cond.selects RX4 yX4_all yX4_all, Cond.code yX4_all cX4_all 1 (some .int), Cond.methodLink RX4 77 yX2_neighboursOf, Cond.instanceMethod yX2_neighboursOf]
def wsX5_best_r4 : List Cond := [Cond.selects RX2 yX2_neighboursOf yX2_neighboursOf, Cond.initialized RX2, Cond.code yX2_neighboursOf cX2_neighboursOf 4 (some .int), Cond.fieldLink RX2 18 "LeafOrder$Rules" "rightAhead" "[I", Cond.methodLink RX2 25 yJ6_bitCount_0f7a4, Cond.static yJ6_bitCount_0f7a4, Cond.initialized RJ6, Cond.code yJ6_bitCount_0f7a4 cJ6_bitCount_0f7a4 1 (some .int), Cond.constant RJ6 265 (1431655765), Cond.constant RJ6 266 (858993459), Cond.constant RJ6 267 (252645135), Cond.methodLink RX4 82 yX4_fillLast, Cond.instanceMethod yX4_fillLast, Cond.selects RX4 yX4_fillLast yX4_fillLast, Cond.code yX4_fillLast cX4_fillLast 8 none, Cond.methodLink RX4 93 Lib.Math.min.name, Cond.static Lib.Math.min.name, Cond.code Lib.Math.min.name Lib.Math.min.code 2 (some .int), Cond.fieldLink RX4 15 "LeafOrder$Search" "least" "[I", Cond.methodLink RX4 86 yX2_mayComeAfter, Cond.instanceMethod yX2_mayComeAfter, Cond.selects RX2 yX2_mayComeAfter yX2_mayComeAfter, Cond.code yX2_mayComeAfter cX2_mayComeAfter 3 (some .boolean), Cond.fieldLink RX2 9 "LeafOrder$Rules" "behind" "[I"]
def wsX5_best_r5 : List Cond := [Cond.fieldLink RX2 15 "LeafOrder$Rules" "rightBehind" "[I", Cond.methodLink RX4 89 yX4_leastUpTo, Cond.instanceMethod yX4_leastUpTo, Cond.selects RX4 yX4_leastUpTo yX4_leastUpTo, Cond.code yX4_leastUpTo cX4_leastUpTo 9 (some .int), Cond.methodLink RX4 60 yX4_leastOf, Cond.instanceMethod yX4_leastOf, Cond.selects RX4 yX4_leastOf yX4_leastOf, Cond.code yX4_leastOf cX4_leastOf 4 (some .int), Cond.methodLink RX4 70 yX4_trace, Cond.instanceMethod yX4_trace, Cond.selects RX4 yX4_trace yX4_trace, Cond.code yX4_trace cX4_trace 6 none, Cond.fieldLink RX4 21 "LeafOrder$Search" "order" "[I", Cond.methodLink RX4 98 yX4_pick, Cond.instanceMethod yX4_pick, Cond.selects RX4 yX4_pick yX4_pick, Cond.code yX4_pick cX4_pick 9 (some .int), Cond.methodLink RX4 101 yX4_linkCost, Cond.instanceMethod yX4_linkCost, Cond.selects RX4 yX4_linkCost yX4_linkCost, Cond.code yX4_linkCost cX4_linkCost 3 (some .int), Cond.methodLink RX5 153 yX0_part, Cond.instanceMethod yX0_part]
def wsX5_best_r6 : List Cond := [Cond.selects RX0 yX0_part yX0_part, Cond.initialized RX0, Cond.code yX0_part cX0_part 3 none, Cond.constant RX0 15 (1000000), Cond.fieldLink RX0 16 "LeafOrder$Books" "cost" "I", Cond.fieldLink RX0 20 "LeafOrder$Books" "other" "I", Cond.fieldLink RX0 9 "LeafOrder$Books" "search" "LLeafOrder$Search;", Cond.methodLink RX0 23 yX4_all, Cond.methodLink RX0 29 yX0_costOf, Cond.instanceMethod yX0_costOf, Cond.selects RX0 yX0_costOf yX0_costOf, Cond.code yX0_costOf cX0_costOf 2 (some .int), Cond.fieldLink RX0 39 "LeafOrder$Search" "setCosts" "[I", Cond.methodLink RX5 119 yX5_costOrNone, Cond.static yX5_costOrNone, Cond.code yX5_costOrNone cX5_costOrNone 1 (some .int), Cond.constant RX5 123 (1000000)]
def wsX5_best : List Cond := .code yX5_best cX5_best 1 (some .int) :: ((wsX5_best_r1 ++ (wsX5_best_r2 ++ (wsX5_best_r3 ++ (wsX5_best_r4 ++ (wsX5_best_r5 ++ wsX5_best_r6))))) ++ wsX50 ++ wsX40 ++ wsX30 ++ wsX10 ++ wsX20 ++ wsX00)
def wsX5_at_r1 : List Cond := [Cond.fieldLink RX5 37 "LeafOrder" "search" "LLeafOrder$Search;", Cond.fieldLink RX5 116 "LeafOrder$Search" "bestCost" "I", Cond.constant RX5 123 (1000000), Cond.fieldLink RX5 12 "LeafOrder" "pile" "LLeafOrder$Leaves;", Cond.fieldLink RX5 61 "LeafOrder$Leaves" "count" "I", Cond.fieldLink RX5 124 "LeafOrder$Search" "order" "[I", Cond.fieldLink RX5 21 "LeafOrder" "scale" "LLeafOrder$Scale;", Cond.methodLink RX5 113 yX5_refresh, Cond.instanceMethod yX5_refresh, Cond.selects RX5 yX5_refresh yX5_refresh, Cond.initialized RX5, Cond.code yX5_refresh cX5_refresh 1 none, Cond.fieldLink RX5 54 "LeafOrder" "stale" "Z", Cond.fieldLink RX5 50 "LeafOrder" "mayTurn" "Z", Cond.fieldLink RX5 46 "LeafOrder" "books" "LLeafOrder$Books;", Cond.methodLink RX5 146 yX4_prepare, Cond.instanceMethod yX4_prepare, Cond.selects RX4 yX4_prepare yX4_prepare, Cond.initialized RX4, Cond.code yX4_prepare cX4_prepare 5 none, Cond.fieldLink RX4 28 "LeafOrder$Scale" "pile" "LLeafOrder$Leaves;", Cond.fieldLink RX4 34 "LeafOrder$Leaves" "count" "I", Cond.fieldLink RX4 40 "LeafOrder$Search" "count" "I", Cond.fieldLink RX4 41 "LeafOrder$Scale" "sizes" "[I"]
def wsX5_at_r2 : List Cond := [Cond.constant RX4 44 (1000000), Cond.fieldLink RX4 45 "LeafOrder$Search" "turnCost" "I", Cond.fieldLink RX4 9 "LeafOrder$Search" "joins" "[I", Cond.methodLink RX4 48 yX3_joinCost, Cond.instanceMethod yX3_joinCost, Cond.selects RX3 yX3_joinCost yX3_joinCost, Cond.initialized RX3, Cond.code yX3_joinCost cX3_joinCost 4 (some .int), Cond.fieldLink RX3 9 "LeafOrder$Scale" "sizes" "[I", Cond.methodLink RX3 19 yX3_fullCost, Cond.instanceMethod yX3_fullCost, Cond.selects RX3 yX3_fullCost yX3_fullCost, Cond.code yX3_fullCost cX3_fullCost 8 (some .int), Cond.fieldLink RX3 15 "LeafOrder$Scale" "pile" "LLeafOrder$Leaves;", Cond.fieldLink RX3 27 "LeafOrder$Leaves" "begins" "[I", Cond.fieldLink RX3 32 "LeafOrder$Leaves" "words" "[I", Cond.fieldLink RX3 35 "LeafOrder$Leaves" "ends" "[I", Cond.methodLink RX3 38 Lib.Math.abs.name, Cond.static Lib.Math.abs.name, Cond.initialized "java/lang/Math", Cond.code Lib.Math.abs.name Lib.Math.abs.code 1 (some .int), Cond.fieldLink RX3 44 "LeafOrder$Leaves" "cutEnds" "[I", Cond.fieldLink RX3 47 "LeafOrder$Leaves" "cutBegins" "[I", Cond.methodLink RX3 50 yX1_stainsApart]
def wsX5_at_r3 : List Cond := [Cond.instanceMethod yX1_stainsApart, Cond.selects RX1 yX1_stainsApart yX1_stainsApart, Cond.initialized RX1, Cond.code yX1_stainsApart cX1_stainsApart 5 (some .int), Cond.fieldLink RX1 27 "LeafOrder$Leaves" "stains" "[I", Cond.methodLink RX1 42 Lib.Math.abs.name, Cond.methodLink RX3 23 yX3_isOverGap, Cond.instanceMethod yX3_isOverGap, Cond.selects RX3 yX3_isOverGap yX3_isOverGap, Cond.code yX3_isOverGap cX3_isOverGap 2 (some .boolean), Cond.methodLink RX5 150 yX4_solve, Cond.instanceMethod yX4_solve, Cond.selects RX4 yX4_solve yX4_solve, Cond.code yX4_solve cX4_solve 2 none, Cond.fieldLink RX4 18 "LeafOrder$Search" "setCosts" "[I", Cond.fieldLink RX4 64 "LeafOrder$Search" "bestCost" "I", Cond.fieldLink RX4 67 "LeafOrder$Search" "nextCost" "I", Cond.methodLink RX4 52 yX4_fill, Cond.instanceMethod yX4_fill, Cond.selects RX4 yX4_fill yX4_fill, Cond.code yX4_fill cX4_fill 7 none, Cond.fieldLink RX4 24 "LeafOrder$Search" "rules" "LLeafOrder$Rules;", Cond.methodLink RX4 56 yX4_all, Cond.instanceMethod yX4_all]
def wsX5_at_r4 : List Cond := [Cond.selects RX4 yX4_all yX4_all, Cond.code yX4_all cX4_all 1 (some .int), Cond.methodLink RX4 77 yX2_neighboursOf, Cond.instanceMethod yX2_neighboursOf, Cond.selects RX2 yX2_neighboursOf yX2_neighboursOf, Cond.initialized RX2, Cond.code yX2_neighboursOf cX2_neighboursOf 4 (some .int), Cond.fieldLink RX2 18 "LeafOrder$Rules" "rightAhead" "[I", Cond.methodLink RX2 25 yJ6_bitCount_0f7a4, Cond.static yJ6_bitCount_0f7a4, Cond.initialized RJ6, Cond.code yJ6_bitCount_0f7a4 cJ6_bitCount_0f7a4 1 (some .int), Cond.constant RJ6 265 (1431655765), Cond.constant RJ6 266 (858993459), Cond.constant RJ6 267 (252645135), Cond.methodLink RX4 82 yX4_fillLast, Cond.instanceMethod yX4_fillLast, Cond.selects RX4 yX4_fillLast yX4_fillLast, Cond.code yX4_fillLast cX4_fillLast 8 none, Cond.methodLink RX4 93 Lib.Math.min.name, Cond.static Lib.Math.min.name, Cond.code Lib.Math.min.name Lib.Math.min.code 2 (some .int), Cond.fieldLink RX4 15 "LeafOrder$Search" "least" "[I", Cond.methodLink RX4 86 yX2_mayComeAfter]
def wsX5_at_r5 : List Cond := [Cond.instanceMethod yX2_mayComeAfter, Cond.selects RX2 yX2_mayComeAfter yX2_mayComeAfter, Cond.code yX2_mayComeAfter cX2_mayComeAfter 3 (some .boolean), Cond.fieldLink RX2 9 "LeafOrder$Rules" "behind" "[I", Cond.fieldLink RX2 15 "LeafOrder$Rules" "rightBehind" "[I", Cond.methodLink RX4 89 yX4_leastUpTo, Cond.instanceMethod yX4_leastUpTo, Cond.selects RX4 yX4_leastUpTo yX4_leastUpTo, Cond.code yX4_leastUpTo cX4_leastUpTo 9 (some .int), Cond.methodLink RX4 60 yX4_leastOf, Cond.instanceMethod yX4_leastOf, Cond.selects RX4 yX4_leastOf yX4_leastOf, Cond.code yX4_leastOf cX4_leastOf 4 (some .int), Cond.methodLink RX4 70 yX4_trace, Cond.instanceMethod yX4_trace, Cond.selects RX4 yX4_trace yX4_trace, Cond.code yX4_trace cX4_trace 6 none, Cond.fieldLink RX4 21 "LeafOrder$Search" "order" "[I", Cond.methodLink RX4 98 yX4_pick, Cond.instanceMethod yX4_pick, Cond.selects RX4 yX4_pick yX4_pick, Cond.code yX4_pick cX4_pick 9 (some .int), Cond.methodLink RX4 101 yX4_linkCost, Cond.instanceMethod yX4_linkCost]
def wsX5_at_r6 : List Cond := [Cond.selects RX4 yX4_linkCost yX4_linkCost, Cond.code yX4_linkCost cX4_linkCost 3 (some .int), Cond.methodLink RX5 153 yX0_part, Cond.instanceMethod yX0_part, Cond.selects RX0 yX0_part yX0_part, Cond.initialized RX0, Cond.code yX0_part cX0_part 3 none, Cond.constant RX0 15 (1000000), Cond.fieldLink RX0 16 "LeafOrder$Books" "cost" "I", Cond.fieldLink RX0 20 "LeafOrder$Books" "other" "I", Cond.fieldLink RX0 9 "LeafOrder$Books" "search" "LLeafOrder$Search;", Cond.methodLink RX0 23 yX4_all, Cond.methodLink RX0 29 yX0_costOf, Cond.instanceMethod yX0_costOf, Cond.selects RX0 yX0_costOf yX0_costOf, Cond.code yX0_costOf cX0_costOf 2 (some .int), Cond.fieldLink RX0 39 "LeafOrder$Search" "setCosts" "[I", Cond.methodLink RX5 127 yX3_isMissing, Cond.instanceMethod yX3_isMissing, Cond.selects RX3 yX3_isMissing yX3_isMissing, Cond.code yX3_isMissing cX3_isMissing 3 (some .boolean)]
def wsX5_at : List Cond := .code yX5_at cX5_at 4 (some .int) :: ((wsX5_at_r1 ++ (wsX5_at_r2 ++ (wsX5_at_r3 ++ (wsX5_at_r4 ++ (wsX5_at_r5 ++ wsX5_at_r6))))) ++ wsX50 ++ wsX40 ++ wsX10 ++ wsX30 ++ wsX20 ++ wsX00)
def wsX5_next_r1 : List Cond := [Cond.fieldLink RX5 37 "LeafOrder" "search" "LLeafOrder$Search;", Cond.fieldLink RX5 130 "LeafOrder$Search" "nextCost" "I", Cond.methodLink RX5 113 yX5_refresh, Cond.instanceMethod yX5_refresh, Cond.selects RX5 yX5_refresh yX5_refresh, Cond.initialized RX5, Cond.code yX5_refresh cX5_refresh 1 none, Cond.fieldLink RX5 54 "LeafOrder" "stale" "Z", Cond.fieldLink RX5 21 "LeafOrder" "scale" "LLeafOrder$Scale;", Cond.fieldLink RX5 50 "LeafOrder" "mayTurn" "Z", Cond.fieldLink RX5 46 "LeafOrder" "books" "LLeafOrder$Books;", Cond.methodLink RX5 146 yX4_prepare, Cond.instanceMethod yX4_prepare, Cond.selects RX4 yX4_prepare yX4_prepare, Cond.initialized RX4, Cond.code yX4_prepare cX4_prepare 5 none, Cond.fieldLink RX4 28 "LeafOrder$Scale" "pile" "LLeafOrder$Leaves;", Cond.fieldLink RX4 34 "LeafOrder$Leaves" "count" "I", Cond.fieldLink RX4 40 "LeafOrder$Search" "count" "I", Cond.fieldLink RX4 41 "LeafOrder$Scale" "sizes" "[I", Cond.constant RX4 44 (1000000), Cond.fieldLink RX4 45 "LeafOrder$Search" "turnCost" "I", Cond.fieldLink RX4 9 "LeafOrder$Search" "joins" "[I", Cond.methodLink RX4 48 yX3_joinCost]
def wsX5_next_r2 : List Cond := [Cond.instanceMethod yX3_joinCost, Cond.selects RX3 yX3_joinCost yX3_joinCost, Cond.initialized RX3, Cond.code yX3_joinCost cX3_joinCost 4 (some .int), Cond.fieldLink RX3 9 "LeafOrder$Scale" "sizes" "[I", Cond.methodLink RX3 19 yX3_fullCost, Cond.instanceMethod yX3_fullCost, Cond.selects RX3 yX3_fullCost yX3_fullCost, Cond.code yX3_fullCost cX3_fullCost 8 (some .int), Cond.fieldLink RX3 15 "LeafOrder$Scale" "pile" "LLeafOrder$Leaves;", Cond.fieldLink RX3 27 "LeafOrder$Leaves" "begins" "[I", Cond.fieldLink RX3 32 "LeafOrder$Leaves" "words" "[I", Cond.fieldLink RX3 35 "LeafOrder$Leaves" "ends" "[I", Cond.methodLink RX3 38 Lib.Math.abs.name, Cond.static Lib.Math.abs.name, Cond.initialized "java/lang/Math", Cond.code Lib.Math.abs.name Lib.Math.abs.code 1 (some .int), Cond.fieldLink RX3 44 "LeafOrder$Leaves" "cutEnds" "[I", Cond.fieldLink RX3 47 "LeafOrder$Leaves" "cutBegins" "[I", Cond.methodLink RX3 50 yX1_stainsApart, Cond.instanceMethod yX1_stainsApart, Cond.selects RX1 yX1_stainsApart yX1_stainsApart, Cond.initialized RX1, Cond.code yX1_stainsApart cX1_stainsApart 5 (some .int)]
def wsX5_next_r3 : List Cond := [Cond.fieldLink RX1 27 "LeafOrder$Leaves" "stains" "[I", Cond.methodLink RX1 42 Lib.Math.abs.name, Cond.methodLink RX3 23 yX3_isOverGap, Cond.instanceMethod yX3_isOverGap, Cond.selects RX3 yX3_isOverGap yX3_isOverGap, Cond.code yX3_isOverGap cX3_isOverGap 2 (some .boolean), Cond.methodLink RX5 150 yX4_solve, Cond.instanceMethod yX4_solve, Cond.selects RX4 yX4_solve yX4_solve, Cond.code yX4_solve cX4_solve 2 none, Cond.fieldLink RX4 18 "LeafOrder$Search" "setCosts" "[I", Cond.fieldLink RX4 64 "LeafOrder$Search" "bestCost" "I", Cond.fieldLink RX4 67 "LeafOrder$Search" "nextCost" "I", Cond.methodLink RX4 52 yX4_fill, Cond.instanceMethod yX4_fill, Cond.selects RX4 yX4_fill yX4_fill, Cond.code yX4_fill cX4_fill 7 none, Cond.fieldLink RX4 24 "LeafOrder$Search" "rules" "LLeafOrder$Rules;", Cond.methodLink RX4 56 yX4_all, Cond.instanceMethod yX4_all, Cond.selects RX4 yX4_all yX4_all, Cond.code yX4_all cX4_all 1 (some .int), Cond.methodLink RX4 77 yX2_neighboursOf, Cond.instanceMethod yX2_neighboursOf]
def wsX5_next_r4 : List Cond := [Cond.selects RX2 yX2_neighboursOf yX2_neighboursOf, Cond.initialized RX2, Cond.code yX2_neighboursOf cX2_neighboursOf 4 (some .int), Cond.fieldLink RX2 18 "LeafOrder$Rules" "rightAhead" "[I", Cond.methodLink RX2 25 yJ6_bitCount_0f7a4, Cond.static yJ6_bitCount_0f7a4, Cond.initialized RJ6, Cond.code yJ6_bitCount_0f7a4 cJ6_bitCount_0f7a4 1 (some .int), Cond.constant RJ6 265 (1431655765), Cond.constant RJ6 266 (858993459), Cond.constant RJ6 267 (252645135), Cond.methodLink RX4 82 yX4_fillLast, Cond.instanceMethod yX4_fillLast, Cond.selects RX4 yX4_fillLast yX4_fillLast, Cond.code yX4_fillLast cX4_fillLast 8 none, Cond.methodLink RX4 93 Lib.Math.min.name, Cond.static Lib.Math.min.name, Cond.code Lib.Math.min.name Lib.Math.min.code 2 (some .int), Cond.fieldLink RX4 15 "LeafOrder$Search" "least" "[I", Cond.methodLink RX4 86 yX2_mayComeAfter, Cond.instanceMethod yX2_mayComeAfter, Cond.selects RX2 yX2_mayComeAfter yX2_mayComeAfter, Cond.code yX2_mayComeAfter cX2_mayComeAfter 3 (some .boolean), Cond.fieldLink RX2 9 "LeafOrder$Rules" "behind" "[I"]
def wsX5_next_r5 : List Cond := [Cond.fieldLink RX2 15 "LeafOrder$Rules" "rightBehind" "[I", Cond.methodLink RX4 89 yX4_leastUpTo, Cond.instanceMethod yX4_leastUpTo, Cond.selects RX4 yX4_leastUpTo yX4_leastUpTo, Cond.code yX4_leastUpTo cX4_leastUpTo 9 (some .int), Cond.methodLink RX4 60 yX4_leastOf, Cond.instanceMethod yX4_leastOf, Cond.selects RX4 yX4_leastOf yX4_leastOf, Cond.code yX4_leastOf cX4_leastOf 4 (some .int), Cond.methodLink RX4 70 yX4_trace, Cond.instanceMethod yX4_trace, Cond.selects RX4 yX4_trace yX4_trace, Cond.code yX4_trace cX4_trace 6 none, Cond.fieldLink RX4 21 "LeafOrder$Search" "order" "[I", Cond.methodLink RX4 98 yX4_pick, Cond.instanceMethod yX4_pick, Cond.selects RX4 yX4_pick yX4_pick, Cond.code yX4_pick cX4_pick 9 (some .int), Cond.methodLink RX4 101 yX4_linkCost, Cond.instanceMethod yX4_linkCost, Cond.selects RX4 yX4_linkCost yX4_linkCost, Cond.code yX4_linkCost cX4_linkCost 3 (some .int), Cond.methodLink RX5 153 yX0_part, Cond.instanceMethod yX0_part]
def wsX5_next_r6 : List Cond := [Cond.selects RX0 yX0_part yX0_part, Cond.initialized RX0, Cond.code yX0_part cX0_part 3 none, Cond.constant RX0 15 (1000000), Cond.fieldLink RX0 16 "LeafOrder$Books" "cost" "I", Cond.fieldLink RX0 20 "LeafOrder$Books" "other" "I", Cond.fieldLink RX0 9 "LeafOrder$Books" "search" "LLeafOrder$Search;", Cond.methodLink RX0 23 yX4_all, Cond.methodLink RX0 29 yX0_costOf, Cond.instanceMethod yX0_costOf, Cond.selects RX0 yX0_costOf yX0_costOf, Cond.code yX0_costOf cX0_costOf 2 (some .int), Cond.fieldLink RX0 39 "LeafOrder$Search" "setCosts" "[I", Cond.methodLink RX5 119 yX5_costOrNone, Cond.static yX5_costOrNone, Cond.code yX5_costOrNone cX5_costOrNone 1 (some .int), Cond.constant RX5 123 (1000000)]
def wsX5_next : List Cond := .code yX5_next cX5_next 1 (some .int) :: ((wsX5_next_r1 ++ (wsX5_next_r2 ++ (wsX5_next_r3 ++ (wsX5_next_r4 ++ (wsX5_next_r5 ++ wsX5_next_r6))))) ++ wsX50 ++ wsX40 ++ wsX30 ++ wsX10 ++ wsX20 ++ wsX00)
def wsX5_sure_r1 : List Cond := [Cond.fieldLink RX5 37 "LeafOrder" "search" "LLeafOrder$Search;", Cond.fieldLink RX5 116 "LeafOrder$Search" "bestCost" "I", Cond.constant RX5 123 (1000000), Cond.methodLink RX5 95 yX5_areTwo, Cond.instanceMethod yX5_areTwo, Cond.selects RX5 yX5_areTwo yX5_areTwo, Cond.initialized RX5, Cond.code yX5_areTwo cX5_areTwo 3 (some .boolean), Cond.fieldLink RX5 12 "LeafOrder" "pile" "LLeafOrder$Leaves;", Cond.methodLink RX5 83 yX1_has, Cond.instanceMethod yX1_has, Cond.selects RX1 yX1_has yX1_has, Cond.initialized RX1, Cond.code yX1_has cX1_has 2 (some .boolean), Cond.fieldLink RX1 30 "LeafOrder$Leaves" "count" "I", Cond.methodLink RX5 86 yX5_isWithin, Cond.static yX5_isWithin, Cond.code yX5_isWithin cX5_isWithin 2 (some .boolean), Cond.methodLink RX5 113 yX5_refresh, Cond.instanceMethod yX5_refresh, Cond.selects RX5 yX5_refresh yX5_refresh, Cond.code yX5_refresh cX5_refresh 1 none, Cond.fieldLink RX5 54 "LeafOrder" "stale" "Z", Cond.fieldLink RX5 21 "LeafOrder" "scale" "LLeafOrder$Scale;"]
def wsX5_sure_r2 : List Cond := [Cond.fieldLink RX5 50 "LeafOrder" "mayTurn" "Z", Cond.fieldLink RX5 46 "LeafOrder" "books" "LLeafOrder$Books;", Cond.methodLink RX5 146 yX4_prepare, Cond.instanceMethod yX4_prepare, Cond.selects RX4 yX4_prepare yX4_prepare, Cond.initialized RX4, Cond.code yX4_prepare cX4_prepare 5 none, Cond.fieldLink RX4 28 "LeafOrder$Scale" "pile" "LLeafOrder$Leaves;", Cond.fieldLink RX4 34 "LeafOrder$Leaves" "count" "I", Cond.fieldLink RX4 40 "LeafOrder$Search" "count" "I", Cond.fieldLink RX4 41 "LeafOrder$Scale" "sizes" "[I", Cond.constant RX4 44 (1000000), Cond.fieldLink RX4 45 "LeafOrder$Search" "turnCost" "I", Cond.fieldLink RX4 9 "LeafOrder$Search" "joins" "[I", Cond.methodLink RX4 48 yX3_joinCost, Cond.instanceMethod yX3_joinCost, Cond.selects RX3 yX3_joinCost yX3_joinCost, Cond.initialized RX3, Cond.code yX3_joinCost cX3_joinCost 4 (some .int), Cond.fieldLink RX3 9 "LeafOrder$Scale" "sizes" "[I", Cond.methodLink RX3 19 yX3_fullCost, Cond.instanceMethod yX3_fullCost, Cond.selects RX3 yX3_fullCost yX3_fullCost, Cond.code yX3_fullCost cX3_fullCost 8 (some .int)]
def wsX5_sure_r3 : List Cond := [Cond.fieldLink RX3 15 "LeafOrder$Scale" "pile" "LLeafOrder$Leaves;", Cond.fieldLink RX3 27 "LeafOrder$Leaves" "begins" "[I", Cond.fieldLink RX3 32 "LeafOrder$Leaves" "words" "[I", Cond.fieldLink RX3 35 "LeafOrder$Leaves" "ends" "[I", Cond.methodLink RX3 38 Lib.Math.abs.name, Cond.static Lib.Math.abs.name, Cond.initialized "java/lang/Math", Cond.code Lib.Math.abs.name Lib.Math.abs.code 1 (some .int), Cond.fieldLink RX3 44 "LeafOrder$Leaves" "cutEnds" "[I", Cond.fieldLink RX3 47 "LeafOrder$Leaves" "cutBegins" "[I", Cond.methodLink RX3 50 yX1_stainsApart, Cond.instanceMethod yX1_stainsApart, Cond.selects RX1 yX1_stainsApart yX1_stainsApart, Cond.code yX1_stainsApart cX1_stainsApart 5 (some .int), Cond.fieldLink RX1 27 "LeafOrder$Leaves" "stains" "[I", Cond.methodLink RX1 42 Lib.Math.abs.name, Cond.methodLink RX3 23 yX3_isOverGap, Cond.instanceMethod yX3_isOverGap, Cond.selects RX3 yX3_isOverGap yX3_isOverGap, Cond.code yX3_isOverGap cX3_isOverGap 2 (some .boolean), Cond.methodLink RX5 150 yX4_solve, Cond.instanceMethod yX4_solve, Cond.selects RX4 yX4_solve yX4_solve, Cond.code yX4_solve cX4_solve 2 none]
def wsX5_sure_r4 : List Cond := [Cond.fieldLink RX4 18 "LeafOrder$Search" "setCosts" "[I", Cond.fieldLink RX4 64 "LeafOrder$Search" "bestCost" "I", Cond.fieldLink RX4 67 "LeafOrder$Search" "nextCost" "I", Cond.methodLink RX4 52 yX4_fill, Cond.instanceMethod yX4_fill, Cond.selects RX4 yX4_fill yX4_fill, Cond.code yX4_fill cX4_fill 7 none, Cond.fieldLink RX4 24 "LeafOrder$Search" "rules" "LLeafOrder$Rules;", Cond.methodLink RX4 56 yX4_all, Cond.instanceMethod yX4_all, Cond.selects RX4 yX4_all yX4_all, Cond.code yX4_all cX4_all 1 (some .int), Cond.methodLink RX4 77 yX2_neighboursOf, Cond.instanceMethod yX2_neighboursOf, Cond.selects RX2 yX2_neighboursOf yX2_neighboursOf, Cond.initialized RX2, Cond.code yX2_neighboursOf cX2_neighboursOf 4 (some .int), Cond.fieldLink RX2 18 "LeafOrder$Rules" "rightAhead" "[I", Cond.methodLink RX2 25 yJ6_bitCount_0f7a4, Cond.static yJ6_bitCount_0f7a4, Cond.initialized RJ6, Cond.code yJ6_bitCount_0f7a4 cJ6_bitCount_0f7a4 1 (some .int), Cond.constant RJ6 265 (1431655765), Cond.constant RJ6 266 (858993459)]
def wsX5_sure_r5 : List Cond := [Cond.constant RJ6 267 (252645135), Cond.methodLink RX4 82 yX4_fillLast, Cond.instanceMethod yX4_fillLast, Cond.selects RX4 yX4_fillLast yX4_fillLast, Cond.code yX4_fillLast cX4_fillLast 8 none, Cond.methodLink RX4 93 Lib.Math.min.name, Cond.static Lib.Math.min.name, Cond.code Lib.Math.min.name Lib.Math.min.code 2 (some .int), Cond.fieldLink RX4 15 "LeafOrder$Search" "least" "[I", Cond.methodLink RX4 86 yX2_mayComeAfter, Cond.instanceMethod yX2_mayComeAfter, Cond.selects RX2 yX2_mayComeAfter yX2_mayComeAfter, Cond.code yX2_mayComeAfter cX2_mayComeAfter 3 (some .boolean), Cond.fieldLink RX2 9 "LeafOrder$Rules" "behind" "[I", Cond.fieldLink RX2 15 "LeafOrder$Rules" "rightBehind" "[I", Cond.methodLink RX4 89 yX4_leastUpTo, Cond.instanceMethod yX4_leastUpTo, Cond.selects RX4 yX4_leastUpTo yX4_leastUpTo, Cond.code yX4_leastUpTo cX4_leastUpTo 9 (some .int), Cond.methodLink RX4 60 yX4_leastOf, Cond.instanceMethod yX4_leastOf, Cond.selects RX4 yX4_leastOf yX4_leastOf, Cond.code yX4_leastOf cX4_leastOf 4 (some .int), Cond.methodLink RX4 70 yX4_trace]
def wsX5_sure_r6 : List Cond := [Cond.instanceMethod yX4_trace, Cond.selects RX4 yX4_trace yX4_trace, Cond.code yX4_trace cX4_trace 6 none, Cond.fieldLink RX4 21 "LeafOrder$Search" "order" "[I", Cond.methodLink RX4 98 yX4_pick, Cond.instanceMethod yX4_pick, Cond.selects RX4 yX4_pick yX4_pick, Cond.code yX4_pick cX4_pick 9 (some .int), Cond.methodLink RX4 101 yX4_linkCost, Cond.instanceMethod yX4_linkCost, Cond.selects RX4 yX4_linkCost yX4_linkCost, Cond.code yX4_linkCost cX4_linkCost 3 (some .int), Cond.methodLink RX5 153 yX0_part, Cond.instanceMethod yX0_part, Cond.selects RX0 yX0_part yX0_part, Cond.initialized RX0, Cond.code yX0_part cX0_part 3 none, Cond.constant RX0 15 (1000000), Cond.fieldLink RX0 16 "LeafOrder$Books" "cost" "I", Cond.fieldLink RX0 20 "LeafOrder$Books" "other" "I", Cond.fieldLink RX0 9 "LeafOrder$Books" "search" "LLeafOrder$Search;", Cond.methodLink RX0 23 yX4_all, Cond.methodLink RX0 29 yX0_costOf, Cond.instanceMethod yX0_costOf]
def wsX5_sure_r7 : List Cond := [Cond.selects RX0 yX0_costOf yX0_costOf, Cond.code yX0_costOf cX0_costOf 2 (some .int), Cond.fieldLink RX0 39 "LeafOrder$Search" "setCosts" "[I", Cond.methodLink RX5 133 yX4_isSure, Cond.instanceMethod yX4_isSure, Cond.selects RX4 yX4_isSure yX4_isSure, Cond.code yX4_isSure cX4_isSure 4 (some .boolean), Cond.methodLink RX4 73 yX4_isInBest, Cond.instanceMethod yX4_isInBest, Cond.selects RX4 yX4_isInBest yX4_isInBest, Cond.code yX4_isInBest cX4_isInBest 4 (some .boolean)]
def wsX5_sure : List Cond := .code yX5_sure cX5_sure 4 (some .int) :: ((wsX5_sure_r1 ++ (wsX5_sure_r2 ++ (wsX5_sure_r3 ++ (wsX5_sure_r4 ++ (wsX5_sure_r5 ++ (wsX5_sure_r6 ++ wsX5_sure_r7)))))) ++ wsX50 ++ wsX40 ++ wsX10 ++ wsX30 ++ wsX20 ++ wsX00)
def wsX5_two_r1 : List Cond := [Cond.fieldLink RX5 46 "LeafOrder" "books" "LLeafOrder$Books;", Cond.fieldLink RX5 137 "LeafOrder$Books" "cost" "I", Cond.methodLink RX5 113 yX5_refresh, Cond.instanceMethod yX5_refresh, Cond.selects RX5 yX5_refresh yX5_refresh, Cond.initialized RX5, Cond.code yX5_refresh cX5_refresh 1 none, Cond.fieldLink RX5 54 "LeafOrder" "stale" "Z", Cond.fieldLink RX5 37 "LeafOrder" "search" "LLeafOrder$Search;", Cond.fieldLink RX5 21 "LeafOrder" "scale" "LLeafOrder$Scale;", Cond.fieldLink RX5 50 "LeafOrder" "mayTurn" "Z", Cond.methodLink RX5 146 yX4_prepare, Cond.instanceMethod yX4_prepare, Cond.selects RX4 yX4_prepare yX4_prepare, Cond.initialized RX4, Cond.code yX4_prepare cX4_prepare 5 none, Cond.fieldLink RX4 28 "LeafOrder$Scale" "pile" "LLeafOrder$Leaves;", Cond.fieldLink RX4 34 "LeafOrder$Leaves" "count" "I", Cond.fieldLink RX4 40 "LeafOrder$Search" "count" "I", Cond.fieldLink RX4 41 "LeafOrder$Scale" "sizes" "[I", Cond.constant RX4 44 (1000000), Cond.fieldLink RX4 45 "LeafOrder$Search" "turnCost" "I", Cond.fieldLink RX4 9 "LeafOrder$Search" "joins" "[I", Cond.methodLink RX4 48 yX3_joinCost]
def wsX5_two_r2 : List Cond := [Cond.instanceMethod yX3_joinCost, Cond.selects RX3 yX3_joinCost yX3_joinCost, Cond.initialized RX3, Cond.code yX3_joinCost cX3_joinCost 4 (some .int), Cond.fieldLink RX3 9 "LeafOrder$Scale" "sizes" "[I", Cond.methodLink RX3 19 yX3_fullCost, Cond.instanceMethod yX3_fullCost, Cond.selects RX3 yX3_fullCost yX3_fullCost, Cond.code yX3_fullCost cX3_fullCost 8 (some .int), Cond.fieldLink RX3 15 "LeafOrder$Scale" "pile" "LLeafOrder$Leaves;", Cond.fieldLink RX3 27 "LeafOrder$Leaves" "begins" "[I", Cond.fieldLink RX3 32 "LeafOrder$Leaves" "words" "[I", Cond.fieldLink RX3 35 "LeafOrder$Leaves" "ends" "[I", Cond.methodLink RX3 38 Lib.Math.abs.name, Cond.static Lib.Math.abs.name, Cond.initialized "java/lang/Math", Cond.code Lib.Math.abs.name Lib.Math.abs.code 1 (some .int), Cond.fieldLink RX3 44 "LeafOrder$Leaves" "cutEnds" "[I", Cond.fieldLink RX3 47 "LeafOrder$Leaves" "cutBegins" "[I", Cond.methodLink RX3 50 yX1_stainsApart, Cond.instanceMethod yX1_stainsApart, Cond.selects RX1 yX1_stainsApart yX1_stainsApart, Cond.initialized RX1, Cond.code yX1_stainsApart cX1_stainsApart 5 (some .int)]
def wsX5_two_r3 : List Cond := [Cond.fieldLink RX1 27 "LeafOrder$Leaves" "stains" "[I", Cond.methodLink RX1 42 Lib.Math.abs.name, Cond.methodLink RX3 23 yX3_isOverGap, Cond.instanceMethod yX3_isOverGap, Cond.selects RX3 yX3_isOverGap yX3_isOverGap, Cond.code yX3_isOverGap cX3_isOverGap 2 (some .boolean), Cond.methodLink RX5 150 yX4_solve, Cond.instanceMethod yX4_solve, Cond.selects RX4 yX4_solve yX4_solve, Cond.code yX4_solve cX4_solve 2 none, Cond.fieldLink RX4 18 "LeafOrder$Search" "setCosts" "[I", Cond.fieldLink RX4 64 "LeafOrder$Search" "bestCost" "I", Cond.fieldLink RX4 67 "LeafOrder$Search" "nextCost" "I", Cond.methodLink RX4 52 yX4_fill, Cond.instanceMethod yX4_fill, Cond.selects RX4 yX4_fill yX4_fill, Cond.code yX4_fill cX4_fill 7 none, Cond.fieldLink RX4 24 "LeafOrder$Search" "rules" "LLeafOrder$Rules;", Cond.methodLink RX4 56 yX4_all, Cond.instanceMethod yX4_all, Cond.selects RX4 yX4_all yX4_all, Cond.code yX4_all cX4_all 1 (some .int), Cond.methodLink RX4 77 yX2_neighboursOf, Cond.instanceMethod yX2_neighboursOf]
def wsX5_two_r4 : List Cond := [Cond.selects RX2 yX2_neighboursOf yX2_neighboursOf, Cond.initialized RX2, Cond.code yX2_neighboursOf cX2_neighboursOf 4 (some .int), Cond.fieldLink RX2 18 "LeafOrder$Rules" "rightAhead" "[I", Cond.methodLink RX2 25 yJ6_bitCount_0f7a4, Cond.static yJ6_bitCount_0f7a4, Cond.initialized RJ6, Cond.code yJ6_bitCount_0f7a4 cJ6_bitCount_0f7a4 1 (some .int), Cond.constant RJ6 265 (1431655765), Cond.constant RJ6 266 (858993459), Cond.constant RJ6 267 (252645135), Cond.methodLink RX4 82 yX4_fillLast, Cond.instanceMethod yX4_fillLast, Cond.selects RX4 yX4_fillLast yX4_fillLast, Cond.code yX4_fillLast cX4_fillLast 8 none, Cond.methodLink RX4 93 Lib.Math.min.name, Cond.static Lib.Math.min.name, Cond.code Lib.Math.min.name Lib.Math.min.code 2 (some .int), Cond.fieldLink RX4 15 "LeafOrder$Search" "least" "[I", Cond.methodLink RX4 86 yX2_mayComeAfter, Cond.instanceMethod yX2_mayComeAfter, Cond.selects RX2 yX2_mayComeAfter yX2_mayComeAfter, Cond.code yX2_mayComeAfter cX2_mayComeAfter 3 (some .boolean), Cond.fieldLink RX2 9 "LeafOrder$Rules" "behind" "[I"]
def wsX5_two_r5 : List Cond := [Cond.fieldLink RX2 15 "LeafOrder$Rules" "rightBehind" "[I", Cond.methodLink RX4 89 yX4_leastUpTo, Cond.instanceMethod yX4_leastUpTo, Cond.selects RX4 yX4_leastUpTo yX4_leastUpTo, Cond.code yX4_leastUpTo cX4_leastUpTo 9 (some .int), Cond.methodLink RX4 60 yX4_leastOf, Cond.instanceMethod yX4_leastOf, Cond.selects RX4 yX4_leastOf yX4_leastOf, Cond.code yX4_leastOf cX4_leastOf 4 (some .int), Cond.methodLink RX4 70 yX4_trace, Cond.instanceMethod yX4_trace, Cond.selects RX4 yX4_trace yX4_trace, Cond.code yX4_trace cX4_trace 6 none, Cond.fieldLink RX4 21 "LeafOrder$Search" "order" "[I", Cond.methodLink RX4 98 yX4_pick, Cond.instanceMethod yX4_pick, Cond.selects RX4 yX4_pick yX4_pick, Cond.code yX4_pick cX4_pick 9 (some .int), Cond.methodLink RX4 101 yX4_linkCost, Cond.instanceMethod yX4_linkCost, Cond.selects RX4 yX4_linkCost yX4_linkCost, Cond.code yX4_linkCost cX4_linkCost 3 (some .int), Cond.methodLink RX5 153 yX0_part, Cond.instanceMethod yX0_part]
def wsX5_two_r6 : List Cond := [Cond.selects RX0 yX0_part yX0_part, Cond.initialized RX0, Cond.code yX0_part cX0_part 3 none, Cond.constant RX0 15 (1000000), Cond.fieldLink RX0 16 "LeafOrder$Books" "cost" "I", Cond.fieldLink RX0 20 "LeafOrder$Books" "other" "I", Cond.fieldLink RX0 9 "LeafOrder$Books" "search" "LLeafOrder$Search;", Cond.methodLink RX0 23 yX4_all, Cond.methodLink RX0 29 yX0_costOf, Cond.instanceMethod yX0_costOf, Cond.selects RX0 yX0_costOf yX0_costOf, Cond.code yX0_costOf cX0_costOf 2 (some .int), Cond.fieldLink RX0 39 "LeafOrder$Search" "setCosts" "[I", Cond.methodLink RX5 119 yX5_costOrNone, Cond.static yX5_costOrNone, Cond.code yX5_costOrNone cX5_costOrNone 1 (some .int), Cond.constant RX5 123 (1000000)]
def wsX5_two : List Cond := .code yX5_two cX5_two 1 (some .int) :: ((wsX5_two_r1 ++ (wsX5_two_r2 ++ (wsX5_two_r3 ++ (wsX5_two_r4 ++ (wsX5_two_r5 ++ wsX5_two_r6))))) ++ wsX50 ++ wsX00 ++ wsX30 ++ wsX10 ++ wsX40 ++ wsX20)
def wsX5_book_r1 : List Cond := [Cond.fieldLink RX5 12 "LeafOrder" "pile" "LLeafOrder$Leaves;", Cond.fieldLink RX5 46 "LeafOrder" "books" "LLeafOrder$Books;", Cond.fieldLink RX5 137 "LeafOrder$Books" "cost" "I", Cond.constant RX5 123 (1000000), Cond.fieldLink RX5 140 "LeafOrder$Books" "other" "I", Cond.methodLink RX5 113 yX5_refresh, Cond.instanceMethod yX5_refresh, Cond.selects RX5 yX5_refresh yX5_refresh, Cond.initialized RX5, Cond.code yX5_refresh cX5_refresh 1 none, Cond.fieldLink RX5 54 "LeafOrder" "stale" "Z", Cond.fieldLink RX5 37 "LeafOrder" "search" "LLeafOrder$Search;", Cond.fieldLink RX5 21 "LeafOrder" "scale" "LLeafOrder$Scale;", Cond.fieldLink RX5 50 "LeafOrder" "mayTurn" "Z", Cond.methodLink RX5 146 yX4_prepare, Cond.instanceMethod yX4_prepare, Cond.selects RX4 yX4_prepare yX4_prepare, Cond.initialized RX4, Cond.code yX4_prepare cX4_prepare 5 none, Cond.fieldLink RX4 28 "LeafOrder$Scale" "pile" "LLeafOrder$Leaves;", Cond.fieldLink RX4 34 "LeafOrder$Leaves" "count" "I", Cond.fieldLink RX4 40 "LeafOrder$Search" "count" "I", Cond.fieldLink RX4 41 "LeafOrder$Scale" "sizes" "[I", Cond.constant RX4 44 (1000000)]
def wsX5_book_r2 : List Cond := [Cond.fieldLink RX4 45 "LeafOrder$Search" "turnCost" "I", Cond.fieldLink RX4 9 "LeafOrder$Search" "joins" "[I", Cond.methodLink RX4 48 yX3_joinCost, Cond.instanceMethod yX3_joinCost, Cond.selects RX3 yX3_joinCost yX3_joinCost, Cond.initialized RX3, Cond.code yX3_joinCost cX3_joinCost 4 (some .int), Cond.fieldLink RX3 9 "LeafOrder$Scale" "sizes" "[I", Cond.methodLink RX3 19 yX3_fullCost, Cond.instanceMethod yX3_fullCost, Cond.selects RX3 yX3_fullCost yX3_fullCost, Cond.code yX3_fullCost cX3_fullCost 8 (some .int), Cond.fieldLink RX3 15 "LeafOrder$Scale" "pile" "LLeafOrder$Leaves;", Cond.fieldLink RX3 27 "LeafOrder$Leaves" "begins" "[I", Cond.fieldLink RX3 32 "LeafOrder$Leaves" "words" "[I", Cond.fieldLink RX3 35 "LeafOrder$Leaves" "ends" "[I", Cond.methodLink RX3 38 Lib.Math.abs.name, Cond.static Lib.Math.abs.name, Cond.initialized "java/lang/Math", Cond.code Lib.Math.abs.name Lib.Math.abs.code 1 (some .int), Cond.fieldLink RX3 44 "LeafOrder$Leaves" "cutEnds" "[I", Cond.fieldLink RX3 47 "LeafOrder$Leaves" "cutBegins" "[I", Cond.methodLink RX3 50 yX1_stainsApart, Cond.instanceMethod yX1_stainsApart]
def wsX5_book_r3 : List Cond := [Cond.selects RX1 yX1_stainsApart yX1_stainsApart, Cond.initialized RX1, Cond.code yX1_stainsApart cX1_stainsApart 5 (some .int), Cond.fieldLink RX1 27 "LeafOrder$Leaves" "stains" "[I", Cond.methodLink RX1 42 Lib.Math.abs.name, Cond.methodLink RX3 23 yX3_isOverGap, Cond.instanceMethod yX3_isOverGap, Cond.selects RX3 yX3_isOverGap yX3_isOverGap, Cond.code yX3_isOverGap cX3_isOverGap 2 (some .boolean), Cond.methodLink RX5 150 yX4_solve, Cond.instanceMethod yX4_solve, Cond.selects RX4 yX4_solve yX4_solve, Cond.code yX4_solve cX4_solve 2 none, Cond.fieldLink RX4 18 "LeafOrder$Search" "setCosts" "[I", Cond.fieldLink RX4 64 "LeafOrder$Search" "bestCost" "I", Cond.fieldLink RX4 67 "LeafOrder$Search" "nextCost" "I", Cond.methodLink RX4 52 yX4_fill, Cond.instanceMethod yX4_fill, Cond.selects RX4 yX4_fill yX4_fill, Cond.code yX4_fill cX4_fill 7 none, Cond.fieldLink RX4 24 "LeafOrder$Search" "rules" "LLeafOrder$Rules;", Cond.methodLink RX4 56 yX4_all, Cond.instanceMethod yX4_all, Cond.selects RX4 yX4_all yX4_all]
def wsX5_book_r4 : List Cond := [Cond.code yX4_all cX4_all 1 (some .int), Cond.methodLink RX4 77 yX2_neighboursOf, Cond.instanceMethod yX2_neighboursOf, Cond.selects RX2 yX2_neighboursOf yX2_neighboursOf, Cond.initialized RX2, Cond.code yX2_neighboursOf cX2_neighboursOf 4 (some .int), Cond.fieldLink RX2 18 "LeafOrder$Rules" "rightAhead" "[I", Cond.methodLink RX2 25 yJ6_bitCount_0f7a4, Cond.static yJ6_bitCount_0f7a4, Cond.initialized RJ6, Cond.code yJ6_bitCount_0f7a4 cJ6_bitCount_0f7a4 1 (some .int), Cond.constant RJ6 265 (1431655765), Cond.constant RJ6 266 (858993459), Cond.constant RJ6 267 (252645135), Cond.methodLink RX4 82 yX4_fillLast, Cond.instanceMethod yX4_fillLast, Cond.selects RX4 yX4_fillLast yX4_fillLast, Cond.code yX4_fillLast cX4_fillLast 8 none, Cond.methodLink RX4 93 Lib.Math.min.name, Cond.static Lib.Math.min.name, Cond.code Lib.Math.min.name Lib.Math.min.code 2 (some .int), Cond.fieldLink RX4 15 "LeafOrder$Search" "least" "[I", Cond.methodLink RX4 86 yX2_mayComeAfter, Cond.instanceMethod yX2_mayComeAfter]
def wsX5_book_r5 : List Cond := [Cond.selects RX2 yX2_mayComeAfter yX2_mayComeAfter, Cond.code yX2_mayComeAfter cX2_mayComeAfter 3 (some .boolean), Cond.fieldLink RX2 9 "LeafOrder$Rules" "behind" "[I", Cond.fieldLink RX2 15 "LeafOrder$Rules" "rightBehind" "[I", Cond.methodLink RX4 89 yX4_leastUpTo, Cond.instanceMethod yX4_leastUpTo, Cond.selects RX4 yX4_leastUpTo yX4_leastUpTo, Cond.code yX4_leastUpTo cX4_leastUpTo 9 (some .int), Cond.methodLink RX4 60 yX4_leastOf, Cond.instanceMethod yX4_leastOf, Cond.selects RX4 yX4_leastOf yX4_leastOf, Cond.code yX4_leastOf cX4_leastOf 4 (some .int), Cond.methodLink RX4 70 yX4_trace, Cond.instanceMethod yX4_trace, Cond.selects RX4 yX4_trace yX4_trace, Cond.code yX4_trace cX4_trace 6 none, Cond.fieldLink RX4 21 "LeafOrder$Search" "order" "[I", Cond.methodLink RX4 98 yX4_pick, Cond.instanceMethod yX4_pick, Cond.selects RX4 yX4_pick yX4_pick, Cond.code yX4_pick cX4_pick 9 (some .int), Cond.methodLink RX4 101 yX4_linkCost, Cond.instanceMethod yX4_linkCost, Cond.selects RX4 yX4_linkCost yX4_linkCost]
def wsX5_book_r6 : List Cond := [Cond.code yX4_linkCost cX4_linkCost 3 (some .int), Cond.methodLink RX5 153 yX0_part, Cond.instanceMethod yX0_part, Cond.selects RX0 yX0_part yX0_part, Cond.initialized RX0, Cond.code yX0_part cX0_part 3 none, Cond.constant RX0 15 (1000000), Cond.fieldLink RX0 16 "LeafOrder$Books" "cost" "I", Cond.fieldLink RX0 20 "LeafOrder$Books" "other" "I", Cond.fieldLink RX0 9 "LeafOrder$Books" "search" "LLeafOrder$Search;", Cond.methodLink RX0 23 yX4_all, Cond.methodLink RX0 29 yX0_costOf, Cond.instanceMethod yX0_costOf, Cond.selects RX0 yX0_costOf yX0_costOf, Cond.code yX0_costOf cX0_costOf 2 (some .int), Cond.fieldLink RX0 39 "LeafOrder$Search" "setCosts" "[I", Cond.methodLink RX5 83 yX1_has, Cond.instanceMethod yX1_has, Cond.selects RX1 yX1_has yX1_has, Cond.code yX1_has cX1_has 2 (some .boolean), Cond.fieldLink RX1 30 "LeafOrder$Leaves" "count" "I"]
def wsX5_book : List Cond := .code yX5_book cX5_book 2 (some .int) :: ((wsX5_book_r1 ++ (wsX5_book_r2 ++ (wsX5_book_r3 ++ (wsX5_book_r4 ++ (wsX5_book_r5 ++ wsX5_book_r6))))) ++ wsX50 ++ wsX00 ++ wsX30 ++ wsX10 ++ wsX40 ++ wsX20)
def wsX5_doubt_r1 : List Cond := [Cond.fieldLink RX5 12 "LeafOrder" "pile" "LLeafOrder$Leaves;", Cond.fieldLink RX5 46 "LeafOrder" "books" "LLeafOrder$Books;", Cond.fieldLink RX5 137 "LeafOrder$Books" "cost" "I", Cond.constant RX5 123 (1000000), Cond.methodLink RX5 83 yX1_has, Cond.instanceMethod yX1_has, Cond.selects RX1 yX1_has yX1_has, Cond.initialized RX1, Cond.code yX1_has cX1_has 2 (some .boolean), Cond.fieldLink RX1 30 "LeafOrder$Leaves" "count" "I", Cond.methodLink RX5 86 yX5_isWithin, Cond.static yX5_isWithin, Cond.initialized RX5, Cond.code yX5_isWithin cX5_isWithin 2 (some .boolean), Cond.methodLink RX5 113 yX5_refresh, Cond.instanceMethod yX5_refresh, Cond.selects RX5 yX5_refresh yX5_refresh, Cond.code yX5_refresh cX5_refresh 1 none, Cond.fieldLink RX5 54 "LeafOrder" "stale" "Z", Cond.fieldLink RX5 37 "LeafOrder" "search" "LLeafOrder$Search;", Cond.fieldLink RX5 21 "LeafOrder" "scale" "LLeafOrder$Scale;", Cond.fieldLink RX5 50 "LeafOrder" "mayTurn" "Z", Cond.methodLink RX5 146 yX4_prepare, Cond.instanceMethod yX4_prepare]
def wsX5_doubt_r2 : List Cond := [Cond.selects RX4 yX4_prepare yX4_prepare, Cond.initialized RX4, Cond.code yX4_prepare cX4_prepare 5 none, Cond.fieldLink RX4 28 "LeafOrder$Scale" "pile" "LLeafOrder$Leaves;", Cond.fieldLink RX4 34 "LeafOrder$Leaves" "count" "I", Cond.fieldLink RX4 40 "LeafOrder$Search" "count" "I", Cond.fieldLink RX4 41 "LeafOrder$Scale" "sizes" "[I", Cond.constant RX4 44 (1000000), Cond.fieldLink RX4 45 "LeafOrder$Search" "turnCost" "I", Cond.fieldLink RX4 9 "LeafOrder$Search" "joins" "[I", Cond.methodLink RX4 48 yX3_joinCost, Cond.instanceMethod yX3_joinCost, Cond.selects RX3 yX3_joinCost yX3_joinCost, Cond.initialized RX3, Cond.code yX3_joinCost cX3_joinCost 4 (some .int), Cond.fieldLink RX3 9 "LeafOrder$Scale" "sizes" "[I", Cond.methodLink RX3 19 yX3_fullCost, Cond.instanceMethod yX3_fullCost, Cond.selects RX3 yX3_fullCost yX3_fullCost, Cond.code yX3_fullCost cX3_fullCost 8 (some .int), Cond.fieldLink RX3 15 "LeafOrder$Scale" "pile" "LLeafOrder$Leaves;", Cond.fieldLink RX3 27 "LeafOrder$Leaves" "begins" "[I", Cond.fieldLink RX3 32 "LeafOrder$Leaves" "words" "[I", Cond.fieldLink RX3 35 "LeafOrder$Leaves" "ends" "[I"]
def wsX5_doubt_r3 : List Cond := [Cond.methodLink RX3 38 Lib.Math.abs.name, Cond.static Lib.Math.abs.name, Cond.initialized "java/lang/Math", Cond.code Lib.Math.abs.name Lib.Math.abs.code 1 (some .int), Cond.fieldLink RX3 44 "LeafOrder$Leaves" "cutEnds" "[I", Cond.fieldLink RX3 47 "LeafOrder$Leaves" "cutBegins" "[I", Cond.methodLink RX3 50 yX1_stainsApart, Cond.instanceMethod yX1_stainsApart, Cond.selects RX1 yX1_stainsApart yX1_stainsApart, Cond.code yX1_stainsApart cX1_stainsApart 5 (some .int), Cond.fieldLink RX1 27 "LeafOrder$Leaves" "stains" "[I", Cond.methodLink RX1 42 Lib.Math.abs.name, Cond.methodLink RX3 23 yX3_isOverGap, Cond.instanceMethod yX3_isOverGap, Cond.selects RX3 yX3_isOverGap yX3_isOverGap, Cond.code yX3_isOverGap cX3_isOverGap 2 (some .boolean), Cond.methodLink RX5 150 yX4_solve, Cond.instanceMethod yX4_solve, Cond.selects RX4 yX4_solve yX4_solve, Cond.code yX4_solve cX4_solve 2 none, Cond.fieldLink RX4 18 "LeafOrder$Search" "setCosts" "[I", Cond.fieldLink RX4 64 "LeafOrder$Search" "bestCost" "I", Cond.fieldLink RX4 67 "LeafOrder$Search" "nextCost" "I", Cond.methodLink RX4 52 yX4_fill]
def wsX5_doubt_r4 : List Cond := [Cond.instanceMethod yX4_fill, Cond.selects RX4 yX4_fill yX4_fill, Cond.code yX4_fill cX4_fill 7 none, Cond.fieldLink RX4 24 "LeafOrder$Search" "rules" "LLeafOrder$Rules;", Cond.methodLink RX4 56 yX4_all, Cond.instanceMethod yX4_all, Cond.selects RX4 yX4_all yX4_all, Cond.code yX4_all cX4_all 1 (some .int), Cond.methodLink RX4 77 yX2_neighboursOf, Cond.instanceMethod yX2_neighboursOf, Cond.selects RX2 yX2_neighboursOf yX2_neighboursOf, Cond.initialized RX2, Cond.code yX2_neighboursOf cX2_neighboursOf 4 (some .int), Cond.fieldLink RX2 18 "LeafOrder$Rules" "rightAhead" "[I", Cond.methodLink RX2 25 yJ6_bitCount_0f7a4, Cond.static yJ6_bitCount_0f7a4, Cond.initialized RJ6, Cond.code yJ6_bitCount_0f7a4 cJ6_bitCount_0f7a4 1 (some .int), Cond.constant RJ6 265 (1431655765), Cond.constant RJ6 266 (858993459), Cond.constant RJ6 267 (252645135), Cond.methodLink RX4 82 yX4_fillLast, Cond.instanceMethod yX4_fillLast, Cond.selects RX4 yX4_fillLast yX4_fillLast]
def wsX5_doubt_r5 : List Cond := [Cond.code yX4_fillLast cX4_fillLast 8 none, Cond.methodLink RX4 93 Lib.Math.min.name, Cond.static Lib.Math.min.name, Cond.code Lib.Math.min.name Lib.Math.min.code 2 (some .int), Cond.fieldLink RX4 15 "LeafOrder$Search" "least" "[I", Cond.methodLink RX4 86 yX2_mayComeAfter, Cond.instanceMethod yX2_mayComeAfter, Cond.selects RX2 yX2_mayComeAfter yX2_mayComeAfter, Cond.code yX2_mayComeAfter cX2_mayComeAfter 3 (some .boolean), Cond.fieldLink RX2 9 "LeafOrder$Rules" "behind" "[I", Cond.fieldLink RX2 15 "LeafOrder$Rules" "rightBehind" "[I", Cond.methodLink RX4 89 yX4_leastUpTo, Cond.instanceMethod yX4_leastUpTo, Cond.selects RX4 yX4_leastUpTo yX4_leastUpTo, Cond.code yX4_leastUpTo cX4_leastUpTo 9 (some .int), Cond.methodLink RX4 60 yX4_leastOf, Cond.instanceMethod yX4_leastOf, Cond.selects RX4 yX4_leastOf yX4_leastOf, Cond.code yX4_leastOf cX4_leastOf 4 (some .int), Cond.methodLink RX4 70 yX4_trace, Cond.instanceMethod yX4_trace, Cond.selects RX4 yX4_trace yX4_trace, Cond.code yX4_trace cX4_trace 6 none, Cond.fieldLink RX4 21 "LeafOrder$Search" "order" "[I"]
def wsX5_doubt_r6 : List Cond := [Cond.methodLink RX4 98 yX4_pick, Cond.instanceMethod yX4_pick, Cond.selects RX4 yX4_pick yX4_pick, Cond.code yX4_pick cX4_pick 9 (some .int), Cond.methodLink RX4 101 yX4_linkCost, Cond.instanceMethod yX4_linkCost, Cond.selects RX4 yX4_linkCost yX4_linkCost, Cond.code yX4_linkCost cX4_linkCost 3 (some .int), Cond.methodLink RX5 153 yX0_part, Cond.instanceMethod yX0_part, Cond.selects RX0 yX0_part yX0_part, Cond.initialized RX0, Cond.code yX0_part cX0_part 3 none, Cond.constant RX0 15 (1000000), Cond.fieldLink RX0 16 "LeafOrder$Books" "cost" "I", Cond.fieldLink RX0 20 "LeafOrder$Books" "other" "I", Cond.fieldLink RX0 9 "LeafOrder$Books" "search" "LLeafOrder$Search;", Cond.methodLink RX0 23 yX4_all, Cond.methodLink RX0 29 yX0_costOf, Cond.instanceMethod yX0_costOf, Cond.selects RX0 yX0_costOf yX0_costOf, Cond.code yX0_costOf cX0_costOf 2 (some .int), Cond.fieldLink RX0 39 "LeafOrder$Search" "setCosts" "[I", Cond.methodLink RX5 143 yX0_leastWithMoved]
def wsX5_doubt_r7 : List Cond := [Cond.instanceMethod yX0_leastWithMoved, Cond.selects RX0 yX0_leastWithMoved yX0_leastWithMoved, Cond.code yX0_leastWithMoved cX0_leastWithMoved 4 (some .int), Cond.methodLink RX0 33 Lib.Math.min.name]
def wsX5_doubt : List Cond := .code yX5_doubt cX5_doubt 3 (some .int) :: ((wsX5_doubt_r1 ++ (wsX5_doubt_r2 ++ (wsX5_doubt_r3 ++ (wsX5_doubt_r4 ++ (wsX5_doubt_r5 ++ (wsX5_doubt_r6 ++ wsX5_doubt_r7)))))) ++ wsX50 ++ wsX00 ++ wsX10 ++ wsX30 ++ wsX40 ++ wsX20)
def wsX5_about : List Cond := .code yX5_about cX5_about 2 (some .int) :: ([.fieldLink RX5 12 "LeafOrder" "pile" "LLeafOrder$Leaves;", .fieldLink RX5 61 "LeafOrder$Leaves" "count" "I", .fieldLink RX5 21 "LeafOrder" "scale" "LLeafOrder$Scale;", .fieldLink RX5 92 "LeafOrder$Scale" "sizes" "[I", .fieldLink RX5 50 "LeafOrder" "mayTurn" "Z"] ++ wsX50 ++ wsX10 ++ wsX30)
def wsX6_init : List Cond := .code yX6_init cX6_init 1 none :: ([.methodLink RX6 1 objectInit, .instanceMethod objectInit, .code objectInit ⟨#[0xb1]⟩ 1 none, .arrayClass .int, .fieldLink RX6 7 "LeafOrderModel" "begin" "[I", .fieldLink RX6 13 "LeafOrderModel" "end" "[I", .fieldLink RX6 16 "LeafOrderModel" "word" "[I", .fieldLink RX6 19 "LeafOrderModel" "cutBegin" "[I", .fieldLink RX6 22 "LeafOrderModel" "cutEnd" "[I", .fieldLink RX6 25 "LeafOrderModel" "stain" "[I", .fieldLink RX6 28 "LeafOrderModel" "weight" "[I", .fieldLink RX6 31 "LeafOrderModel" "mayTurn" "Z", .arrayClass .boolean, .fieldLink RX6 35 "LeafOrderModel" "isAhead" "[Z", .fieldLink RX6 39 "LeafOrderModel" "isJoined" "[Z", .fieldLink RX6 42 "LeafOrderModel" "least" "[I", .fieldLink RX6 45 "LeafOrderModel" "second" "[I", .fieldLink RX6 48 "LeafOrderModel" "barredA" "I", .fieldLink RX6 52 "LeafOrderModel" "barredB" "I", .fieldLink RX6 55 "LeafOrderModel" "place" "[I", .fieldLink RX6 58 "LeafOrderModel" "turned" "[I"] ++ wsX60)
def wsX6_in : List Cond := .code yX6_in cX6_in 3 (some .boolean) :: ([])
def wsX6_isLeaf : List Cond := .code yX6_isLeaf cX6_isLeaf 2 (some .boolean) :: ([.fieldLink RX6 61 "LeafOrderModel" "leaves" "I", .methodLink RX6 64 yX6_in, .static yX6_in, .initialized RX6, .code yX6_in cX6_in 3 (some .boolean)] ++ wsX60)
def wsX6_leaf : List Cond := .code yX6_leaf cX6_leaf 5 (some .int) :: ([.fieldLink RX6 61 "LeafOrderModel" "leaves" "I", .fieldLink RX6 7 "LeafOrderModel" "begin" "[I", .fieldLink RX6 13 "LeafOrderModel" "end" "[I", .fieldLink RX6 16 "LeafOrderModel" "word" "[I", .methodLink RX6 64 yX6_in, .static yX6_in, .initialized RX6, .code yX6_in cX6_in 3 (some .boolean)] ++ wsX60)
def wsX6_catchword : List Cond := .code yX6_catchword cX6_catchword 4 (some .boolean) :: ([.fieldLink RX6 16 "LeafOrderModel" "word" "[I", .methodLink RX6 68 yX6_isLeaf, .instanceMethod yX6_isLeaf, .selects RX6 yX6_isLeaf yX6_isLeaf, .initialized RX6, .code yX6_isLeaf cX6_isLeaf 2 (some .boolean), .fieldLink RX6 61 "LeafOrderModel" "leaves" "I", .methodLink RX6 64 yX6_in, .static yX6_in, .code yX6_in cX6_in 3 (some .boolean)] ++ wsX60)
def wsX6_cut : List Cond := .code yX6_cut cX6_cut 5 (some .boolean) :: ([.fieldLink RX6 19 "LeafOrderModel" "cutBegin" "[I", .fieldLink RX6 22 "LeafOrderModel" "cutEnd" "[I", .methodLink RX6 68 yX6_isLeaf, .instanceMethod yX6_isLeaf, .selects RX6 yX6_isLeaf yX6_isLeaf, .initialized RX6, .code yX6_isLeaf cX6_isLeaf 2 (some .boolean), .fieldLink RX6 61 "LeafOrderModel" "leaves" "I", .methodLink RX6 64 yX6_in, .static yX6_in, .code yX6_in cX6_in 3 (some .boolean)] ++ wsX60)
def wsX6_stain : List Cond := .code yX6_stain cX6_stain 4 (some .boolean) :: ([.fieldLink RX6 25 "LeafOrderModel" "stain" "[I", .methodLink RX6 68 yX6_isLeaf, .instanceMethod yX6_isLeaf, .selects RX6 yX6_isLeaf yX6_isLeaf, .initialized RX6, .code yX6_isLeaf cX6_isLeaf 2 (some .boolean), .fieldLink RX6 61 "LeafOrderModel" "leaves" "I", .methodLink RX6 64 yX6_in, .static yX6_in, .code yX6_in cX6_in 3 (some .boolean)] ++ wsX60)
def wsX6_weights : List Cond := .code yX6_weights cX6_weights 7 (some .boolean) :: ([.fieldLink RX6 28 "LeafOrderModel" "weight" "[I", .methodLink RX6 64 yX6_in, .static yX6_in, .initialized RX6, .code yX6_in cX6_in 3 (some .boolean)] ++ wsX60)
def wsX6_turnable : List Cond := .code yX6_turnable cX6_turnable 2 none :: ([.fieldLink RX6 31 "LeafOrderModel" "mayTurn" "Z"] ++ wsX60)
def wsX6_must : List Cond := .code yX6_must cX6_must 5 (some .boolean) :: ([.fieldLink RX6 39 "LeafOrderModel" "isJoined" "[Z", .fieldLink RX6 35 "LeafOrderModel" "isAhead" "[Z", .methodLink RX6 68 yX6_isLeaf, .instanceMethod yX6_isLeaf, .selects RX6 yX6_isLeaf yX6_isLeaf, .initialized RX6, .code yX6_isLeaf cX6_isLeaf 2 (some .boolean), .fieldLink RX6 61 "LeafOrderModel" "leaves" "I", .methodLink RX6 64 yX6_in, .static yX6_in, .code yX6_in cX6_in 3 (some .boolean)] ++ wsX60)
def wsX6_apart : List Cond := .code yX6_apart cX6_apart 2 (some .int) :: ([])
def wsX6_whole : List Cond := .code yX6_whole cX6_whole 9 (some .int) :: ([.fieldLink RX6 28 "LeafOrderModel" "weight" "[I", .fieldLink RX6 13 "LeafOrderModel" "end" "[I", .fieldLink RX6 7 "LeafOrderModel" "begin" "[I", .fieldLink RX6 16 "LeafOrderModel" "word" "[I", .fieldLink RX6 22 "LeafOrderModel" "cutEnd" "[I", .fieldLink RX6 19 "LeafOrderModel" "cutBegin" "[I", .fieldLink RX6 25 "LeafOrderModel" "stain" "[I", .methodLink RX6 72 yX6_apart, .static yX6_apart, .initialized RX6, .code yX6_apart cX6_apart 2 (some .int)] ++ wsX60)
def wsX6_isMissing : List Cond := .code yX6_isMissing cX6_isMissing 5 (some .boolean) :: ([.fieldLink RX6 28 "LeafOrderModel" "weight" "[I", .methodLink RX6 76 yX6_whole, .instanceMethod yX6_whole, .selects RX6 yX6_whole yX6_whole, .initialized RX6, .code yX6_whole cX6_whole 9 (some .int), .fieldLink RX6 13 "LeafOrderModel" "end" "[I", .fieldLink RX6 7 "LeafOrderModel" "begin" "[I", .fieldLink RX6 16 "LeafOrderModel" "word" "[I", .fieldLink RX6 22 "LeafOrderModel" "cutEnd" "[I", .fieldLink RX6 19 "LeafOrderModel" "cutBegin" "[I", .fieldLink RX6 25 "LeafOrderModel" "stain" "[I", .methodLink RX6 72 yX6_apart, .static yX6_apart, .code yX6_apart cX6_apart 2 (some .int)] ++ wsX60)
def wsX6_joins : List Cond := .code yX6_joins cX6_joins 5 (some .int) :: ([.fieldLink RX6 28 "LeafOrderModel" "weight" "[I", .methodLink RX6 80 yX6_isMissing, .instanceMethod yX6_isMissing, .selects RX6 yX6_isMissing yX6_isMissing, .initialized RX6, .code yX6_isMissing cX6_isMissing 5 (some .boolean), .methodLink RX6 76 yX6_whole, .instanceMethod yX6_whole, .selects RX6 yX6_whole yX6_whole, .code yX6_whole cX6_whole 9 (some .int), .fieldLink RX6 13 "LeafOrderModel" "end" "[I", .fieldLink RX6 7 "LeafOrderModel" "begin" "[I", .fieldLink RX6 16 "LeafOrderModel" "word" "[I", .fieldLink RX6 22 "LeafOrderModel" "cutEnd" "[I", .fieldLink RX6 19 "LeafOrderModel" "cutBegin" "[I", .fieldLink RX6 25 "LeafOrderModel" "stain" "[I", .methodLink RX6 72 yX6_apart, .static yX6_apart, .code yX6_apart cX6_apart 2 (some .int)] ++ wsX60)
def wsX6_join_r1 : List Cond := [Cond.fieldLink RX6 31 "LeafOrderModel" "mayTurn" "Z", Cond.methodLink RX6 68 yX6_isLeaf, Cond.instanceMethod yX6_isLeaf, Cond.selects RX6 yX6_isLeaf yX6_isLeaf, Cond.initialized RX6, Cond.code yX6_isLeaf cX6_isLeaf 2 (some .boolean), Cond.fieldLink RX6 61 "LeafOrderModel" "leaves" "I", Cond.methodLink RX6 64 yX6_in, Cond.static yX6_in, Cond.code yX6_in cX6_in 3 (some .boolean), Cond.methodLink RX6 84 yX6_joins, Cond.instanceMethod yX6_joins, Cond.selects RX6 yX6_joins yX6_joins, Cond.code yX6_joins cX6_joins 5 (some .int), Cond.fieldLink RX6 28 "LeafOrderModel" "weight" "[I", Cond.methodLink RX6 80 yX6_isMissing, Cond.instanceMethod yX6_isMissing, Cond.selects RX6 yX6_isMissing yX6_isMissing, Cond.code yX6_isMissing cX6_isMissing 5 (some .boolean), Cond.methodLink RX6 76 yX6_whole, Cond.instanceMethod yX6_whole, Cond.selects RX6 yX6_whole yX6_whole, Cond.code yX6_whole cX6_whole 9 (some .int), Cond.fieldLink RX6 13 "LeafOrderModel" "end" "[I"]
def wsX6_join_r2 : List Cond := [Cond.fieldLink RX6 7 "LeafOrderModel" "begin" "[I", Cond.fieldLink RX6 16 "LeafOrderModel" "word" "[I", Cond.fieldLink RX6 22 "LeafOrderModel" "cutEnd" "[I", Cond.fieldLink RX6 19 "LeafOrderModel" "cutBegin" "[I", Cond.fieldLink RX6 25 "LeafOrderModel" "stain" "[I", Cond.methodLink RX6 72 yX6_apart, Cond.static yX6_apart, Cond.code yX6_apart cX6_apart 2 (some .int)]
def wsX6_join : List Cond := .code yX6_join cX6_join 5 (some .int) :: ((wsX6_join_r1 ++ wsX6_join_r2) ++ wsX60)
def wsX6_mayFollow : List Cond := .code yX6_mayFollow cX6_mayFollow 5 (some .boolean) :: ([.fieldLink RX6 61 "LeafOrderModel" "leaves" "I", .fieldLink RX6 35 "LeafOrderModel" "isAhead" "[Z", .fieldLink RX6 39 "LeafOrderModel" "isJoined" "[Z", .fieldLink RX6 48 "LeafOrderModel" "barredA" "I", .fieldLink RX6 52 "LeafOrderModel" "barredB" "I"] ++ wsX60)
def wsX6_keeps : List Cond := .code yX6_keeps cX6_keeps 3 none :: ([.fieldLink RX6 42 "LeafOrderModel" "least" "[I", .fieldLink RX6 45 "LeafOrderModel" "second" "[I"] ++ wsX60)
def wsX6_stands : List Cond := .code yX6_stands cX6_stands 4 (some .int) :: ([])
def wsX6_goesOn_r1 : List Cond := [Cond.fieldLink RX6 61 "LeafOrderModel" "leaves" "I", Cond.fieldLink RX6 28 "LeafOrderModel" "weight" "[I", Cond.constant RX6 87 (1000000000), Cond.methodLink RX6 96 yX6_mayFollow, Cond.instanceMethod yX6_mayFollow, Cond.selects RX6 yX6_mayFollow yX6_mayFollow, Cond.initialized RX6, Cond.code yX6_mayFollow cX6_mayFollow 5 (some .boolean), Cond.fieldLink RX6 35 "LeafOrderModel" "isAhead" "[Z", Cond.fieldLink RX6 39 "LeafOrderModel" "isJoined" "[Z", Cond.fieldLink RX6 48 "LeafOrderModel" "barredA" "I", Cond.fieldLink RX6 52 "LeafOrderModel" "barredB" "I", Cond.methodLink RX6 84 yX6_joins, Cond.instanceMethod yX6_joins, Cond.selects RX6 yX6_joins yX6_joins, Cond.code yX6_joins cX6_joins 5 (some .int), Cond.methodLink RX6 80 yX6_isMissing, Cond.instanceMethod yX6_isMissing, Cond.selects RX6 yX6_isMissing yX6_isMissing, Cond.code yX6_isMissing cX6_isMissing 5 (some .boolean), Cond.methodLink RX6 76 yX6_whole, Cond.instanceMethod yX6_whole, Cond.selects RX6 yX6_whole yX6_whole, Cond.code yX6_whole cX6_whole 9 (some .int)]
def wsX6_goesOn_r2 : List Cond := [Cond.fieldLink RX6 13 "LeafOrderModel" "end" "[I", Cond.fieldLink RX6 7 "LeafOrderModel" "begin" "[I", Cond.fieldLink RX6 16 "LeafOrderModel" "word" "[I", Cond.fieldLink RX6 22 "LeafOrderModel" "cutEnd" "[I", Cond.fieldLink RX6 19 "LeafOrderModel" "cutBegin" "[I", Cond.fieldLink RX6 25 "LeafOrderModel" "stain" "[I", Cond.methodLink RX6 72 yX6_apart, Cond.static yX6_apart, Cond.code yX6_apart cX6_apart 2 (some .int), Cond.methodLink RX6 88 yX6_stands, Cond.instanceMethod yX6_stands, Cond.selects RX6 yX6_stands yX6_stands, Cond.code yX6_stands cX6_stands 4 (some .int), Cond.methodLink RX6 99 yX6_keeps, Cond.instanceMethod yX6_keeps, Cond.selects RX6 yX6_keeps yX6_keeps, Cond.code yX6_keeps cX6_keeps 3 none, Cond.fieldLink RX6 42 "LeafOrderModel" "least" "[I", Cond.fieldLink RX6 45 "LeafOrderModel" "second" "[I"]
def wsX6_goesOn : List Cond := .code yX6_goesOn cX6_goesOn 11 none :: ((wsX6_goesOn_r1 ++ wsX6_goesOn_r2) ++ wsX60)
def wsX6_orders_r1 : List Cond := [Cond.fieldLink RX6 61 "LeafOrderModel" "leaves" "I", Cond.fieldLink RX6 31 "LeafOrderModel" "mayTurn" "Z", Cond.fieldLink RX6 42 "LeafOrderModel" "least" "[I", Cond.constant RX6 87 (1000000000), Cond.fieldLink RX6 45 "LeafOrderModel" "second" "[I", Cond.fieldLink RX6 28 "LeafOrderModel" "weight" "[I", Cond.methodLink RX6 88 yX6_stands, Cond.instanceMethod yX6_stands, Cond.selects RX6 yX6_stands yX6_stands, Cond.initialized RX6, Cond.code yX6_stands cX6_stands 4 (some .int), Cond.methodLink RX6 92 yX6_goesOn, Cond.instanceMethod yX6_goesOn, Cond.selects RX6 yX6_goesOn yX6_goesOn, Cond.code yX6_goesOn cX6_goesOn 11 none, Cond.methodLink RX6 96 yX6_mayFollow, Cond.instanceMethod yX6_mayFollow, Cond.selects RX6 yX6_mayFollow yX6_mayFollow, Cond.code yX6_mayFollow cX6_mayFollow 5 (some .boolean), Cond.fieldLink RX6 35 "LeafOrderModel" "isAhead" "[Z", Cond.fieldLink RX6 39 "LeafOrderModel" "isJoined" "[Z", Cond.fieldLink RX6 48 "LeafOrderModel" "barredA" "I", Cond.fieldLink RX6 52 "LeafOrderModel" "barredB" "I", Cond.methodLink RX6 84 yX6_joins]
def wsX6_orders_r2 : List Cond := [Cond.instanceMethod yX6_joins, Cond.selects RX6 yX6_joins yX6_joins, Cond.code yX6_joins cX6_joins 5 (some .int), Cond.methodLink RX6 80 yX6_isMissing, Cond.instanceMethod yX6_isMissing, Cond.selects RX6 yX6_isMissing yX6_isMissing, Cond.code yX6_isMissing cX6_isMissing 5 (some .boolean), Cond.methodLink RX6 76 yX6_whole, Cond.instanceMethod yX6_whole, Cond.selects RX6 yX6_whole yX6_whole, Cond.code yX6_whole cX6_whole 9 (some .int), Cond.fieldLink RX6 13 "LeafOrderModel" "end" "[I", Cond.fieldLink RX6 7 "LeafOrderModel" "begin" "[I", Cond.fieldLink RX6 16 "LeafOrderModel" "word" "[I", Cond.fieldLink RX6 22 "LeafOrderModel" "cutEnd" "[I", Cond.fieldLink RX6 19 "LeafOrderModel" "cutBegin" "[I", Cond.fieldLink RX6 25 "LeafOrderModel" "stain" "[I", Cond.methodLink RX6 72 yX6_apart, Cond.static yX6_apart, Cond.code yX6_apart cX6_apart 2 (some .int), Cond.methodLink RX6 99 yX6_keeps, Cond.instanceMethod yX6_keeps, Cond.selects RX6 yX6_keeps yX6_keeps, Cond.code yX6_keeps cX6_keeps 3 none]
def wsX6_orders : List Cond := .code yX6_orders cX6_orders 7 none :: ((wsX6_orders_r1 ++ wsX6_orders_r2) ++ wsX60)
def wsX6_looks : List Cond := .code yX6_looks cX6_looks 3 none :: ([.constant RX6 87 (1000000000), .fieldLink RX6 103 "LeafOrderModel" "setLeast" "I", .fieldLink RX6 106 "LeafOrderModel" "setSecond" "I", .fieldLink RX6 42 "LeafOrderModel" "least" "[I", .fieldLink RX6 45 "LeafOrderModel" "second" "[I"] ++ wsX60)
def wsX6_told : List Cond := .code yX6_told cX6_told 2 (some .int) :: ([.constant RX6 87 (1000000000)])
def wsX6_all : List Cond := .code yX6_all cX6_all 1 (some .int) :: ([.fieldLink RX6 61 "LeafOrderModel" "leaves" "I"] ++ wsX60)
def wsX6_best_r1 : List Cond := [Cond.fieldLink RX6 103 "LeafOrderModel" "setLeast" "I", Cond.methodLink RX6 109 yX6_orders, Cond.instanceMethod yX6_orders, Cond.selects RX6 yX6_orders yX6_orders, Cond.initialized RX6, Cond.code yX6_orders cX6_orders 7 none, Cond.fieldLink RX6 61 "LeafOrderModel" "leaves" "I", Cond.fieldLink RX6 31 "LeafOrderModel" "mayTurn" "Z", Cond.fieldLink RX6 42 "LeafOrderModel" "least" "[I", Cond.constant RX6 87 (1000000000), Cond.fieldLink RX6 45 "LeafOrderModel" "second" "[I", Cond.fieldLink RX6 28 "LeafOrderModel" "weight" "[I", Cond.methodLink RX6 88 yX6_stands, Cond.instanceMethod yX6_stands, Cond.selects RX6 yX6_stands yX6_stands, Cond.code yX6_stands cX6_stands 4 (some .int), Cond.methodLink RX6 92 yX6_goesOn, Cond.instanceMethod yX6_goesOn, Cond.selects RX6 yX6_goesOn yX6_goesOn, Cond.code yX6_goesOn cX6_goesOn 11 none, Cond.methodLink RX6 96 yX6_mayFollow, Cond.instanceMethod yX6_mayFollow, Cond.selects RX6 yX6_mayFollow yX6_mayFollow, Cond.code yX6_mayFollow cX6_mayFollow 5 (some .boolean)]
def wsX6_best_r2 : List Cond := [Cond.fieldLink RX6 35 "LeafOrderModel" "isAhead" "[Z", Cond.fieldLink RX6 39 "LeafOrderModel" "isJoined" "[Z", Cond.fieldLink RX6 48 "LeafOrderModel" "barredA" "I", Cond.fieldLink RX6 52 "LeafOrderModel" "barredB" "I", Cond.methodLink RX6 84 yX6_joins, Cond.instanceMethod yX6_joins, Cond.selects RX6 yX6_joins yX6_joins, Cond.code yX6_joins cX6_joins 5 (some .int), Cond.methodLink RX6 80 yX6_isMissing, Cond.instanceMethod yX6_isMissing, Cond.selects RX6 yX6_isMissing yX6_isMissing, Cond.code yX6_isMissing cX6_isMissing 5 (some .boolean), Cond.methodLink RX6 76 yX6_whole, Cond.instanceMethod yX6_whole, Cond.selects RX6 yX6_whole yX6_whole, Cond.code yX6_whole cX6_whole 9 (some .int), Cond.fieldLink RX6 13 "LeafOrderModel" "end" "[I", Cond.fieldLink RX6 7 "LeafOrderModel" "begin" "[I", Cond.fieldLink RX6 16 "LeafOrderModel" "word" "[I", Cond.fieldLink RX6 22 "LeafOrderModel" "cutEnd" "[I", Cond.fieldLink RX6 19 "LeafOrderModel" "cutBegin" "[I", Cond.fieldLink RX6 25 "LeafOrderModel" "stain" "[I", Cond.methodLink RX6 72 yX6_apart, Cond.static yX6_apart]
def wsX6_best_r3 : List Cond := [Cond.code yX6_apart cX6_apart 2 (some .int), Cond.methodLink RX6 99 yX6_keeps, Cond.instanceMethod yX6_keeps, Cond.selects RX6 yX6_keeps yX6_keeps, Cond.code yX6_keeps cX6_keeps 3 none, Cond.methodLink RX6 112 yX6_all, Cond.instanceMethod yX6_all, Cond.selects RX6 yX6_all yX6_all, Cond.code yX6_all cX6_all 1 (some .int), Cond.methodLink RX6 116 yX6_looks, Cond.instanceMethod yX6_looks, Cond.selects RX6 yX6_looks yX6_looks, Cond.code yX6_looks cX6_looks 3 none, Cond.fieldLink RX6 106 "LeafOrderModel" "setSecond" "I", Cond.methodLink RX6 120 yX6_told, Cond.instanceMethod yX6_told, Cond.selects RX6 yX6_told yX6_told, Cond.code yX6_told cX6_told 2 (some .int)]
def wsX6_best : List Cond := .code yX6_best cX6_best 1 (some .int) :: ((wsX6_best_r1 ++ (wsX6_best_r2 ++ wsX6_best_r3)) ++ wsX60)
def wsX6_reads_r1 : List Cond := [Cond.fieldLink RX6 61 "LeafOrderModel" "leaves" "I", Cond.fieldLink RX6 42 "LeafOrderModel" "least" "[I", Cond.constant RX6 87 (1000000000), Cond.fieldLink RX6 58 "LeafOrderModel" "turned" "[I", Cond.fieldLink RX6 28 "LeafOrderModel" "weight" "[I", Cond.fieldLink RX6 55 "LeafOrderModel" "place" "[I", Cond.methodLink RX6 124 yX6_best, Cond.instanceMethod yX6_best, Cond.selects RX6 yX6_best yX6_best, Cond.initialized RX6, Cond.code yX6_best cX6_best 1 (some .int), Cond.fieldLink RX6 103 "LeafOrderModel" "setLeast" "I", Cond.methodLink RX6 109 yX6_orders, Cond.instanceMethod yX6_orders, Cond.selects RX6 yX6_orders yX6_orders, Cond.code yX6_orders cX6_orders 7 none, Cond.fieldLink RX6 31 "LeafOrderModel" "mayTurn" "Z", Cond.fieldLink RX6 45 "LeafOrderModel" "second" "[I", Cond.methodLink RX6 88 yX6_stands, Cond.instanceMethod yX6_stands, Cond.selects RX6 yX6_stands yX6_stands, Cond.code yX6_stands cX6_stands 4 (some .int), Cond.methodLink RX6 92 yX6_goesOn, Cond.instanceMethod yX6_goesOn]
def wsX6_reads_r2 : List Cond := [Cond.selects RX6 yX6_goesOn yX6_goesOn, Cond.code yX6_goesOn cX6_goesOn 11 none, Cond.methodLink RX6 96 yX6_mayFollow, Cond.instanceMethod yX6_mayFollow, Cond.selects RX6 yX6_mayFollow yX6_mayFollow, Cond.code yX6_mayFollow cX6_mayFollow 5 (some .boolean), Cond.fieldLink RX6 35 "LeafOrderModel" "isAhead" "[Z", Cond.fieldLink RX6 39 "LeafOrderModel" "isJoined" "[Z", Cond.fieldLink RX6 48 "LeafOrderModel" "barredA" "I", Cond.fieldLink RX6 52 "LeafOrderModel" "barredB" "I", Cond.methodLink RX6 84 yX6_joins, Cond.instanceMethod yX6_joins, Cond.selects RX6 yX6_joins yX6_joins, Cond.code yX6_joins cX6_joins 5 (some .int), Cond.methodLink RX6 80 yX6_isMissing, Cond.instanceMethod yX6_isMissing, Cond.selects RX6 yX6_isMissing yX6_isMissing, Cond.code yX6_isMissing cX6_isMissing 5 (some .boolean), Cond.methodLink RX6 76 yX6_whole, Cond.instanceMethod yX6_whole, Cond.selects RX6 yX6_whole yX6_whole, Cond.code yX6_whole cX6_whole 9 (some .int), Cond.fieldLink RX6 13 "LeafOrderModel" "end" "[I", Cond.fieldLink RX6 7 "LeafOrderModel" "begin" "[I"]
def wsX6_reads_r3 : List Cond := [Cond.fieldLink RX6 16 "LeafOrderModel" "word" "[I", Cond.fieldLink RX6 22 "LeafOrderModel" "cutEnd" "[I", Cond.fieldLink RX6 19 "LeafOrderModel" "cutBegin" "[I", Cond.fieldLink RX6 25 "LeafOrderModel" "stain" "[I", Cond.methodLink RX6 72 yX6_apart, Cond.static yX6_apart, Cond.code yX6_apart cX6_apart 2 (some .int), Cond.methodLink RX6 99 yX6_keeps, Cond.instanceMethod yX6_keeps, Cond.selects RX6 yX6_keeps yX6_keeps, Cond.code yX6_keeps cX6_keeps 3 none, Cond.methodLink RX6 112 yX6_all, Cond.instanceMethod yX6_all, Cond.selects RX6 yX6_all yX6_all, Cond.code yX6_all cX6_all 1 (some .int), Cond.methodLink RX6 116 yX6_looks, Cond.instanceMethod yX6_looks, Cond.selects RX6 yX6_looks yX6_looks, Cond.code yX6_looks cX6_looks 3 none, Cond.fieldLink RX6 106 "LeafOrderModel" "setSecond" "I", Cond.methodLink RX6 120 yX6_told, Cond.instanceMethod yX6_told, Cond.selects RX6 yX6_told yX6_told, Cond.code yX6_told cX6_told 2 (some .int)]
def wsX6_reads : List Cond := .code yX6_reads cX6_reads 9 (some .boolean) :: ((wsX6_reads_r1 ++ (wsX6_reads_r2 ++ wsX6_reads_r3)) ++ wsX60)
def wsX6_at_r1 : List Cond := [Cond.fieldLink RX6 61 "LeafOrderModel" "leaves" "I", Cond.fieldLink RX6 55 "LeafOrderModel" "place" "[I", Cond.fieldLink RX6 58 "LeafOrderModel" "turned" "[I", Cond.methodLink RX6 64 yX6_in, Cond.static yX6_in, Cond.initialized RX6, Cond.code yX6_in cX6_in 3 (some .boolean), Cond.methodLink RX6 127 yX6_reads, Cond.instanceMethod yX6_reads, Cond.selects RX6 yX6_reads yX6_reads, Cond.code yX6_reads cX6_reads 9 (some .boolean), Cond.fieldLink RX6 42 "LeafOrderModel" "least" "[I", Cond.constant RX6 87 (1000000000), Cond.fieldLink RX6 28 "LeafOrderModel" "weight" "[I", Cond.methodLink RX6 124 yX6_best, Cond.instanceMethod yX6_best, Cond.selects RX6 yX6_best yX6_best, Cond.code yX6_best cX6_best 1 (some .int), Cond.fieldLink RX6 103 "LeafOrderModel" "setLeast" "I", Cond.methodLink RX6 109 yX6_orders, Cond.instanceMethod yX6_orders, Cond.selects RX6 yX6_orders yX6_orders, Cond.code yX6_orders cX6_orders 7 none, Cond.fieldLink RX6 31 "LeafOrderModel" "mayTurn" "Z"]
def wsX6_at_r2 : List Cond := [Cond.fieldLink RX6 45 "LeafOrderModel" "second" "[I", Cond.methodLink RX6 88 yX6_stands, Cond.instanceMethod yX6_stands, Cond.selects RX6 yX6_stands yX6_stands, Cond.code yX6_stands cX6_stands 4 (some .int), Cond.methodLink RX6 92 yX6_goesOn, Cond.instanceMethod yX6_goesOn, Cond.selects RX6 yX6_goesOn yX6_goesOn, Cond.code yX6_goesOn cX6_goesOn 11 none, Cond.methodLink RX6 96 yX6_mayFollow, Cond.instanceMethod yX6_mayFollow, Cond.selects RX6 yX6_mayFollow yX6_mayFollow, Cond.code yX6_mayFollow cX6_mayFollow 5 (some .boolean), Cond.fieldLink RX6 35 "LeafOrderModel" "isAhead" "[Z", Cond.fieldLink RX6 39 "LeafOrderModel" "isJoined" "[Z", Cond.fieldLink RX6 48 "LeafOrderModel" "barredA" "I", Cond.fieldLink RX6 52 "LeafOrderModel" "barredB" "I", Cond.methodLink RX6 84 yX6_joins, Cond.instanceMethod yX6_joins, Cond.selects RX6 yX6_joins yX6_joins, Cond.code yX6_joins cX6_joins 5 (some .int), Cond.methodLink RX6 80 yX6_isMissing, Cond.instanceMethod yX6_isMissing, Cond.selects RX6 yX6_isMissing yX6_isMissing]
def wsX6_at_r3 : List Cond := [Cond.code yX6_isMissing cX6_isMissing 5 (some .boolean), Cond.methodLink RX6 76 yX6_whole, Cond.instanceMethod yX6_whole, Cond.selects RX6 yX6_whole yX6_whole, Cond.code yX6_whole cX6_whole 9 (some .int), Cond.fieldLink RX6 13 "LeafOrderModel" "end" "[I", Cond.fieldLink RX6 7 "LeafOrderModel" "begin" "[I", Cond.fieldLink RX6 16 "LeafOrderModel" "word" "[I", Cond.fieldLink RX6 22 "LeafOrderModel" "cutEnd" "[I", Cond.fieldLink RX6 19 "LeafOrderModel" "cutBegin" "[I", Cond.fieldLink RX6 25 "LeafOrderModel" "stain" "[I", Cond.methodLink RX6 72 yX6_apart, Cond.static yX6_apart, Cond.code yX6_apart cX6_apart 2 (some .int), Cond.methodLink RX6 99 yX6_keeps, Cond.instanceMethod yX6_keeps, Cond.selects RX6 yX6_keeps yX6_keeps, Cond.code yX6_keeps cX6_keeps 3 none, Cond.methodLink RX6 112 yX6_all, Cond.instanceMethod yX6_all, Cond.selects RX6 yX6_all yX6_all, Cond.code yX6_all cX6_all 1 (some .int), Cond.methodLink RX6 116 yX6_looks, Cond.instanceMethod yX6_looks]
def wsX6_at_r4 : List Cond := [Cond.selects RX6 yX6_looks yX6_looks, Cond.code yX6_looks cX6_looks 3 none, Cond.fieldLink RX6 106 "LeafOrderModel" "setSecond" "I", Cond.methodLink RX6 120 yX6_told, Cond.instanceMethod yX6_told, Cond.selects RX6 yX6_told yX6_told, Cond.code yX6_told cX6_told 2 (some .int)]
def wsX6_at : List Cond := .code yX6_at cX6_at 3 (some .int) :: ((wsX6_at_r1 ++ (wsX6_at_r2 ++ (wsX6_at_r3 ++ wsX6_at_r4))) ++ wsX60)
def wsX6_next_r1 : List Cond := [Cond.fieldLink RX6 106 "LeafOrderModel" "setSecond" "I", Cond.methodLink RX6 109 yX6_orders, Cond.instanceMethod yX6_orders, Cond.selects RX6 yX6_orders yX6_orders, Cond.initialized RX6, Cond.code yX6_orders cX6_orders 7 none, Cond.fieldLink RX6 61 "LeafOrderModel" "leaves" "I", Cond.fieldLink RX6 31 "LeafOrderModel" "mayTurn" "Z", Cond.fieldLink RX6 42 "LeafOrderModel" "least" "[I", Cond.constant RX6 87 (1000000000), Cond.fieldLink RX6 45 "LeafOrderModel" "second" "[I", Cond.fieldLink RX6 28 "LeafOrderModel" "weight" "[I", Cond.methodLink RX6 88 yX6_stands, Cond.instanceMethod yX6_stands, Cond.selects RX6 yX6_stands yX6_stands, Cond.code yX6_stands cX6_stands 4 (some .int), Cond.methodLink RX6 92 yX6_goesOn, Cond.instanceMethod yX6_goesOn, Cond.selects RX6 yX6_goesOn yX6_goesOn, Cond.code yX6_goesOn cX6_goesOn 11 none, Cond.methodLink RX6 96 yX6_mayFollow, Cond.instanceMethod yX6_mayFollow, Cond.selects RX6 yX6_mayFollow yX6_mayFollow, Cond.code yX6_mayFollow cX6_mayFollow 5 (some .boolean)]
def wsX6_next_r2 : List Cond := [Cond.fieldLink RX6 35 "LeafOrderModel" "isAhead" "[Z", Cond.fieldLink RX6 39 "LeafOrderModel" "isJoined" "[Z", Cond.fieldLink RX6 48 "LeafOrderModel" "barredA" "I", Cond.fieldLink RX6 52 "LeafOrderModel" "barredB" "I", Cond.methodLink RX6 84 yX6_joins, Cond.instanceMethod yX6_joins, Cond.selects RX6 yX6_joins yX6_joins, Cond.code yX6_joins cX6_joins 5 (some .int), Cond.methodLink RX6 80 yX6_isMissing, Cond.instanceMethod yX6_isMissing, Cond.selects RX6 yX6_isMissing yX6_isMissing, Cond.code yX6_isMissing cX6_isMissing 5 (some .boolean), Cond.methodLink RX6 76 yX6_whole, Cond.instanceMethod yX6_whole, Cond.selects RX6 yX6_whole yX6_whole, Cond.code yX6_whole cX6_whole 9 (some .int), Cond.fieldLink RX6 13 "LeafOrderModel" "end" "[I", Cond.fieldLink RX6 7 "LeafOrderModel" "begin" "[I", Cond.fieldLink RX6 16 "LeafOrderModel" "word" "[I", Cond.fieldLink RX6 22 "LeafOrderModel" "cutEnd" "[I", Cond.fieldLink RX6 19 "LeafOrderModel" "cutBegin" "[I", Cond.fieldLink RX6 25 "LeafOrderModel" "stain" "[I", Cond.methodLink RX6 72 yX6_apart, Cond.static yX6_apart]
def wsX6_next_r3 : List Cond := [Cond.code yX6_apart cX6_apart 2 (some .int), Cond.methodLink RX6 99 yX6_keeps, Cond.instanceMethod yX6_keeps, Cond.selects RX6 yX6_keeps yX6_keeps, Cond.code yX6_keeps cX6_keeps 3 none, Cond.methodLink RX6 112 yX6_all, Cond.instanceMethod yX6_all, Cond.selects RX6 yX6_all yX6_all, Cond.code yX6_all cX6_all 1 (some .int), Cond.methodLink RX6 116 yX6_looks, Cond.instanceMethod yX6_looks, Cond.selects RX6 yX6_looks yX6_looks, Cond.code yX6_looks cX6_looks 3 none, Cond.fieldLink RX6 103 "LeafOrderModel" "setLeast" "I", Cond.methodLink RX6 120 yX6_told, Cond.instanceMethod yX6_told, Cond.selects RX6 yX6_told yX6_told, Cond.code yX6_told cX6_told 2 (some .int)]
def wsX6_next : List Cond := .code yX6_next cX6_next 1 (some .int) :: ((wsX6_next_r1 ++ (wsX6_next_r2 ++ wsX6_next_r3)) ++ wsX60)
def wsX6_sure_r1 : List Cond := [Cond.fieldLink RX6 48 "LeafOrderModel" "barredA" "I", Cond.fieldLink RX6 52 "LeafOrderModel" "barredB" "I", Cond.methodLink RX6 68 yX6_isLeaf, Cond.instanceMethod yX6_isLeaf, Cond.selects RX6 yX6_isLeaf yX6_isLeaf, Cond.initialized RX6, Cond.code yX6_isLeaf cX6_isLeaf 2 (some .boolean), Cond.fieldLink RX6 61 "LeafOrderModel" "leaves" "I", Cond.methodLink RX6 64 yX6_in, Cond.static yX6_in, Cond.code yX6_in cX6_in 3 (some .boolean), Cond.methodLink RX6 124 yX6_best, Cond.instanceMethod yX6_best, Cond.selects RX6 yX6_best yX6_best, Cond.code yX6_best cX6_best 1 (some .int), Cond.fieldLink RX6 103 "LeafOrderModel" "setLeast" "I", Cond.methodLink RX6 109 yX6_orders, Cond.instanceMethod yX6_orders, Cond.selects RX6 yX6_orders yX6_orders, Cond.code yX6_orders cX6_orders 7 none, Cond.fieldLink RX6 31 "LeafOrderModel" "mayTurn" "Z", Cond.fieldLink RX6 42 "LeafOrderModel" "least" "[I", Cond.constant RX6 87 (1000000000), Cond.fieldLink RX6 45 "LeafOrderModel" "second" "[I"]
def wsX6_sure_r2 : List Cond := [Cond.fieldLink RX6 28 "LeafOrderModel" "weight" "[I", Cond.methodLink RX6 88 yX6_stands, Cond.instanceMethod yX6_stands, Cond.selects RX6 yX6_stands yX6_stands, Cond.code yX6_stands cX6_stands 4 (some .int), Cond.methodLink RX6 92 yX6_goesOn, Cond.instanceMethod yX6_goesOn, Cond.selects RX6 yX6_goesOn yX6_goesOn, Cond.code yX6_goesOn cX6_goesOn 11 none, Cond.methodLink RX6 96 yX6_mayFollow, Cond.instanceMethod yX6_mayFollow, Cond.selects RX6 yX6_mayFollow yX6_mayFollow, Cond.code yX6_mayFollow cX6_mayFollow 5 (some .boolean), Cond.fieldLink RX6 35 "LeafOrderModel" "isAhead" "[Z", Cond.fieldLink RX6 39 "LeafOrderModel" "isJoined" "[Z", Cond.methodLink RX6 84 yX6_joins, Cond.instanceMethod yX6_joins, Cond.selects RX6 yX6_joins yX6_joins, Cond.code yX6_joins cX6_joins 5 (some .int), Cond.methodLink RX6 80 yX6_isMissing, Cond.instanceMethod yX6_isMissing, Cond.selects RX6 yX6_isMissing yX6_isMissing, Cond.code yX6_isMissing cX6_isMissing 5 (some .boolean), Cond.methodLink RX6 76 yX6_whole]
def wsX6_sure_r3 : List Cond := [Cond.instanceMethod yX6_whole, Cond.selects RX6 yX6_whole yX6_whole, Cond.code yX6_whole cX6_whole 9 (some .int), Cond.fieldLink RX6 13 "LeafOrderModel" "end" "[I", Cond.fieldLink RX6 7 "LeafOrderModel" "begin" "[I", Cond.fieldLink RX6 16 "LeafOrderModel" "word" "[I", Cond.fieldLink RX6 22 "LeafOrderModel" "cutEnd" "[I", Cond.fieldLink RX6 19 "LeafOrderModel" "cutBegin" "[I", Cond.fieldLink RX6 25 "LeafOrderModel" "stain" "[I", Cond.methodLink RX6 72 yX6_apart, Cond.static yX6_apart, Cond.code yX6_apart cX6_apart 2 (some .int), Cond.methodLink RX6 99 yX6_keeps, Cond.instanceMethod yX6_keeps, Cond.selects RX6 yX6_keeps yX6_keeps, Cond.code yX6_keeps cX6_keeps 3 none, Cond.methodLink RX6 112 yX6_all, Cond.instanceMethod yX6_all, Cond.selects RX6 yX6_all yX6_all, Cond.code yX6_all cX6_all 1 (some .int), Cond.methodLink RX6 116 yX6_looks, Cond.instanceMethod yX6_looks, Cond.selects RX6 yX6_looks yX6_looks, Cond.code yX6_looks cX6_looks 3 none]
def wsX6_sure_r4 : List Cond := [Cond.fieldLink RX6 106 "LeafOrderModel" "setSecond" "I", Cond.methodLink RX6 120 yX6_told, Cond.instanceMethod yX6_told, Cond.selects RX6 yX6_told yX6_told, Cond.code yX6_told cX6_told 2 (some .int)]
def wsX6_sure : List Cond := .code yX6_sure cX6_sure 6 (some .int) :: ((wsX6_sure_r1 ++ (wsX6_sure_r2 ++ (wsX6_sure_r3 ++ wsX6_sure_r4))) ++ wsX60)
def wsX6_parts : List Cond := .code yX6_parts cX6_parts 6 (some .int) :: ([.constant RX6 87 (1000000000), .fieldLink RX6 103 "LeafOrderModel" "setLeast" "I", .fieldLink RX6 131 "LeafOrderModel" "parted" "I", .methodLink RX6 112 yX6_all, .instanceMethod yX6_all, .selects RX6 yX6_all yX6_all, .initialized RX6, .code yX6_all cX6_all 1 (some .int), .fieldLink RX6 61 "LeafOrderModel" "leaves" "I", .methodLink RX6 116 yX6_looks, .instanceMethod yX6_looks, .selects RX6 yX6_looks yX6_looks, .code yX6_looks cX6_looks 3 none, .fieldLink RX6 106 "LeafOrderModel" "setSecond" "I", .fieldLink RX6 42 "LeafOrderModel" "least" "[I", .fieldLink RX6 45 "LeafOrderModel" "second" "[I"] ++ wsX60)
def wsX6_two_r1 : List Cond := [Cond.fieldLink RX6 61 "LeafOrderModel" "leaves" "I", Cond.methodLink RX6 109 yX6_orders, Cond.instanceMethod yX6_orders, Cond.selects RX6 yX6_orders yX6_orders, Cond.initialized RX6, Cond.code yX6_orders cX6_orders 7 none, Cond.fieldLink RX6 31 "LeafOrderModel" "mayTurn" "Z", Cond.fieldLink RX6 42 "LeafOrderModel" "least" "[I", Cond.constant RX6 87 (1000000000), Cond.fieldLink RX6 45 "LeafOrderModel" "second" "[I", Cond.fieldLink RX6 28 "LeafOrderModel" "weight" "[I", Cond.methodLink RX6 88 yX6_stands, Cond.instanceMethod yX6_stands, Cond.selects RX6 yX6_stands yX6_stands, Cond.code yX6_stands cX6_stands 4 (some .int), Cond.methodLink RX6 92 yX6_goesOn, Cond.instanceMethod yX6_goesOn, Cond.selects RX6 yX6_goesOn yX6_goesOn, Cond.code yX6_goesOn cX6_goesOn 11 none, Cond.methodLink RX6 96 yX6_mayFollow, Cond.instanceMethod yX6_mayFollow, Cond.selects RX6 yX6_mayFollow yX6_mayFollow, Cond.code yX6_mayFollow cX6_mayFollow 5 (some .boolean), Cond.fieldLink RX6 35 "LeafOrderModel" "isAhead" "[Z"]
def wsX6_two_r2 : List Cond := [Cond.fieldLink RX6 39 "LeafOrderModel" "isJoined" "[Z", Cond.fieldLink RX6 48 "LeafOrderModel" "barredA" "I", Cond.fieldLink RX6 52 "LeafOrderModel" "barredB" "I", Cond.methodLink RX6 84 yX6_joins, Cond.instanceMethod yX6_joins, Cond.selects RX6 yX6_joins yX6_joins, Cond.code yX6_joins cX6_joins 5 (some .int), Cond.methodLink RX6 80 yX6_isMissing, Cond.instanceMethod yX6_isMissing, Cond.selects RX6 yX6_isMissing yX6_isMissing, Cond.code yX6_isMissing cX6_isMissing 5 (some .boolean), Cond.methodLink RX6 76 yX6_whole, Cond.instanceMethod yX6_whole, Cond.selects RX6 yX6_whole yX6_whole, Cond.code yX6_whole cX6_whole 9 (some .int), Cond.fieldLink RX6 13 "LeafOrderModel" "end" "[I", Cond.fieldLink RX6 7 "LeafOrderModel" "begin" "[I", Cond.fieldLink RX6 16 "LeafOrderModel" "word" "[I", Cond.fieldLink RX6 22 "LeafOrderModel" "cutEnd" "[I", Cond.fieldLink RX6 19 "LeafOrderModel" "cutBegin" "[I", Cond.fieldLink RX6 25 "LeafOrderModel" "stain" "[I", Cond.methodLink RX6 72 yX6_apart, Cond.static yX6_apart, Cond.code yX6_apart cX6_apart 2 (some .int)]
def wsX6_two_r3 : List Cond := [Cond.methodLink RX6 99 yX6_keeps, Cond.instanceMethod yX6_keeps, Cond.selects RX6 yX6_keeps yX6_keeps, Cond.code yX6_keeps cX6_keeps 3 none, Cond.methodLink RX6 134 yX6_parts, Cond.instanceMethod yX6_parts, Cond.selects RX6 yX6_parts yX6_parts, Cond.code yX6_parts cX6_parts 6 (some .int), Cond.fieldLink RX6 103 "LeafOrderModel" "setLeast" "I", Cond.fieldLink RX6 131 "LeafOrderModel" "parted" "I", Cond.methodLink RX6 112 yX6_all, Cond.instanceMethod yX6_all, Cond.selects RX6 yX6_all yX6_all, Cond.code yX6_all cX6_all 1 (some .int), Cond.methodLink RX6 116 yX6_looks, Cond.instanceMethod yX6_looks, Cond.selects RX6 yX6_looks yX6_looks, Cond.code yX6_looks cX6_looks 3 none, Cond.fieldLink RX6 106 "LeafOrderModel" "setSecond" "I", Cond.methodLink RX6 120 yX6_told, Cond.instanceMethod yX6_told, Cond.selects RX6 yX6_told yX6_told, Cond.code yX6_told cX6_told 2 (some .int)]
def wsX6_two : List Cond := .code yX6_two cX6_two 1 (some .int) :: ((wsX6_two_r1 ++ (wsX6_two_r2 ++ wsX6_two_r3)) ++ wsX60)
def wsX6_book_r1 : List Cond := [Cond.fieldLink RX6 131 "LeafOrderModel" "parted" "I", Cond.methodLink RX6 68 yX6_isLeaf, Cond.instanceMethod yX6_isLeaf, Cond.selects RX6 yX6_isLeaf yX6_isLeaf, Cond.initialized RX6, Cond.code yX6_isLeaf cX6_isLeaf 2 (some .boolean), Cond.fieldLink RX6 61 "LeafOrderModel" "leaves" "I", Cond.methodLink RX6 64 yX6_in, Cond.static yX6_in, Cond.code yX6_in cX6_in 3 (some .boolean), Cond.methodLink RX6 137 yX6_two, Cond.instanceMethod yX6_two, Cond.selects RX6 yX6_two yX6_two, Cond.code yX6_two cX6_two 1 (some .int), Cond.methodLink RX6 109 yX6_orders, Cond.instanceMethod yX6_orders, Cond.selects RX6 yX6_orders yX6_orders, Cond.code yX6_orders cX6_orders 7 none, Cond.fieldLink RX6 31 "LeafOrderModel" "mayTurn" "Z", Cond.fieldLink RX6 42 "LeafOrderModel" "least" "[I", Cond.constant RX6 87 (1000000000), Cond.fieldLink RX6 45 "LeafOrderModel" "second" "[I", Cond.fieldLink RX6 28 "LeafOrderModel" "weight" "[I", Cond.methodLink RX6 88 yX6_stands]
def wsX6_book_r2 : List Cond := [Cond.instanceMethod yX6_stands, Cond.selects RX6 yX6_stands yX6_stands, Cond.code yX6_stands cX6_stands 4 (some .int), Cond.methodLink RX6 92 yX6_goesOn, Cond.instanceMethod yX6_goesOn, Cond.selects RX6 yX6_goesOn yX6_goesOn, Cond.code yX6_goesOn cX6_goesOn 11 none, Cond.methodLink RX6 96 yX6_mayFollow, Cond.instanceMethod yX6_mayFollow, Cond.selects RX6 yX6_mayFollow yX6_mayFollow, Cond.code yX6_mayFollow cX6_mayFollow 5 (some .boolean), Cond.fieldLink RX6 35 "LeafOrderModel" "isAhead" "[Z", Cond.fieldLink RX6 39 "LeafOrderModel" "isJoined" "[Z", Cond.fieldLink RX6 48 "LeafOrderModel" "barredA" "I", Cond.fieldLink RX6 52 "LeafOrderModel" "barredB" "I", Cond.methodLink RX6 84 yX6_joins, Cond.instanceMethod yX6_joins, Cond.selects RX6 yX6_joins yX6_joins, Cond.code yX6_joins cX6_joins 5 (some .int), Cond.methodLink RX6 80 yX6_isMissing, Cond.instanceMethod yX6_isMissing, Cond.selects RX6 yX6_isMissing yX6_isMissing, Cond.code yX6_isMissing cX6_isMissing 5 (some .boolean), Cond.methodLink RX6 76 yX6_whole]
def wsX6_book_r3 : List Cond := [Cond.instanceMethod yX6_whole, Cond.selects RX6 yX6_whole yX6_whole, Cond.code yX6_whole cX6_whole 9 (some .int), Cond.fieldLink RX6 13 "LeafOrderModel" "end" "[I", Cond.fieldLink RX6 7 "LeafOrderModel" "begin" "[I", Cond.fieldLink RX6 16 "LeafOrderModel" "word" "[I", Cond.fieldLink RX6 22 "LeafOrderModel" "cutEnd" "[I", Cond.fieldLink RX6 19 "LeafOrderModel" "cutBegin" "[I", Cond.fieldLink RX6 25 "LeafOrderModel" "stain" "[I", Cond.methodLink RX6 72 yX6_apart, Cond.static yX6_apart, Cond.code yX6_apart cX6_apart 2 (some .int), Cond.methodLink RX6 99 yX6_keeps, Cond.instanceMethod yX6_keeps, Cond.selects RX6 yX6_keeps yX6_keeps, Cond.code yX6_keeps cX6_keeps 3 none, Cond.methodLink RX6 134 yX6_parts, Cond.instanceMethod yX6_parts, Cond.selects RX6 yX6_parts yX6_parts, Cond.code yX6_parts cX6_parts 6 (some .int), Cond.fieldLink RX6 103 "LeafOrderModel" "setLeast" "I", Cond.methodLink RX6 112 yX6_all, Cond.instanceMethod yX6_all, Cond.selects RX6 yX6_all yX6_all]
def wsX6_book_r4 : List Cond := [Cond.code yX6_all cX6_all 1 (some .int), Cond.methodLink RX6 116 yX6_looks, Cond.instanceMethod yX6_looks, Cond.selects RX6 yX6_looks yX6_looks, Cond.code yX6_looks cX6_looks 3 none, Cond.fieldLink RX6 106 "LeafOrderModel" "setSecond" "I", Cond.methodLink RX6 120 yX6_told, Cond.instanceMethod yX6_told, Cond.selects RX6 yX6_told yX6_told, Cond.code yX6_told cX6_told 2 (some .int)]
def wsX6_book : List Cond := .code yX6_book cX6_book 2 (some .int) :: ((wsX6_book_r1 ++ (wsX6_book_r2 ++ (wsX6_book_r3 ++ wsX6_book_r4))) ++ wsX60)
def wsX6_doubt_r1 : List Cond := [Cond.fieldLink RX6 131 "LeafOrderModel" "parted" "I", Cond.methodLink RX6 68 yX6_isLeaf, Cond.instanceMethod yX6_isLeaf, Cond.selects RX6 yX6_isLeaf yX6_isLeaf, Cond.initialized RX6, Cond.code yX6_isLeaf cX6_isLeaf 2 (some .boolean), Cond.fieldLink RX6 61 "LeafOrderModel" "leaves" "I", Cond.methodLink RX6 64 yX6_in, Cond.static yX6_in, Cond.code yX6_in cX6_in 3 (some .boolean), Cond.methodLink RX6 137 yX6_two, Cond.instanceMethod yX6_two, Cond.selects RX6 yX6_two yX6_two, Cond.code yX6_two cX6_two 1 (some .int), Cond.methodLink RX6 109 yX6_orders, Cond.instanceMethod yX6_orders, Cond.selects RX6 yX6_orders yX6_orders, Cond.code yX6_orders cX6_orders 7 none, Cond.fieldLink RX6 31 "LeafOrderModel" "mayTurn" "Z", Cond.fieldLink RX6 42 "LeafOrderModel" "least" "[I", Cond.constant RX6 87 (1000000000), Cond.fieldLink RX6 45 "LeafOrderModel" "second" "[I", Cond.fieldLink RX6 28 "LeafOrderModel" "weight" "[I", Cond.methodLink RX6 88 yX6_stands]
def wsX6_doubt_r2 : List Cond := [Cond.instanceMethod yX6_stands, Cond.selects RX6 yX6_stands yX6_stands, Cond.code yX6_stands cX6_stands 4 (some .int), Cond.methodLink RX6 92 yX6_goesOn, Cond.instanceMethod yX6_goesOn, Cond.selects RX6 yX6_goesOn yX6_goesOn, Cond.code yX6_goesOn cX6_goesOn 11 none, Cond.methodLink RX6 96 yX6_mayFollow, Cond.instanceMethod yX6_mayFollow, Cond.selects RX6 yX6_mayFollow yX6_mayFollow, Cond.code yX6_mayFollow cX6_mayFollow 5 (some .boolean), Cond.fieldLink RX6 35 "LeafOrderModel" "isAhead" "[Z", Cond.fieldLink RX6 39 "LeafOrderModel" "isJoined" "[Z", Cond.fieldLink RX6 48 "LeafOrderModel" "barredA" "I", Cond.fieldLink RX6 52 "LeafOrderModel" "barredB" "I", Cond.methodLink RX6 84 yX6_joins, Cond.instanceMethod yX6_joins, Cond.selects RX6 yX6_joins yX6_joins, Cond.code yX6_joins cX6_joins 5 (some .int), Cond.methodLink RX6 80 yX6_isMissing, Cond.instanceMethod yX6_isMissing, Cond.selects RX6 yX6_isMissing yX6_isMissing, Cond.code yX6_isMissing cX6_isMissing 5 (some .boolean), Cond.methodLink RX6 76 yX6_whole]
def wsX6_doubt_r3 : List Cond := [Cond.instanceMethod yX6_whole, Cond.selects RX6 yX6_whole yX6_whole, Cond.code yX6_whole cX6_whole 9 (some .int), Cond.fieldLink RX6 13 "LeafOrderModel" "end" "[I", Cond.fieldLink RX6 7 "LeafOrderModel" "begin" "[I", Cond.fieldLink RX6 16 "LeafOrderModel" "word" "[I", Cond.fieldLink RX6 22 "LeafOrderModel" "cutEnd" "[I", Cond.fieldLink RX6 19 "LeafOrderModel" "cutBegin" "[I", Cond.fieldLink RX6 25 "LeafOrderModel" "stain" "[I", Cond.methodLink RX6 72 yX6_apart, Cond.static yX6_apart, Cond.code yX6_apart cX6_apart 2 (some .int), Cond.methodLink RX6 99 yX6_keeps, Cond.instanceMethod yX6_keeps, Cond.selects RX6 yX6_keeps yX6_keeps, Cond.code yX6_keeps cX6_keeps 3 none, Cond.methodLink RX6 134 yX6_parts, Cond.instanceMethod yX6_parts, Cond.selects RX6 yX6_parts yX6_parts, Cond.code yX6_parts cX6_parts 6 (some .int), Cond.fieldLink RX6 103 "LeafOrderModel" "setLeast" "I", Cond.methodLink RX6 112 yX6_all, Cond.instanceMethod yX6_all, Cond.selects RX6 yX6_all yX6_all]
def wsX6_doubt_r4 : List Cond := [Cond.code yX6_all cX6_all 1 (some .int), Cond.methodLink RX6 116 yX6_looks, Cond.instanceMethod yX6_looks, Cond.selects RX6 yX6_looks yX6_looks, Cond.code yX6_looks cX6_looks 3 none, Cond.fieldLink RX6 106 "LeafOrderModel" "setSecond" "I", Cond.methodLink RX6 120 yX6_told, Cond.instanceMethod yX6_told, Cond.selects RX6 yX6_told yX6_told, Cond.code yX6_told cX6_told 2 (some .int)]
def wsX6_doubt : List Cond := .code yX6_doubt cX6_doubt 5 (some .int) :: ((wsX6_doubt_r1 ++ (wsX6_doubt_r2 ++ (wsX6_doubt_r3 ++ wsX6_doubt_r4))) ++ wsX60)
def wsX6_about : List Cond := .code yX6_about cX6_about 2 (some .int) :: ([.fieldLink RX6 61 "LeafOrderModel" "leaves" "I", .fieldLink RX6 28 "LeafOrderModel" "weight" "[I", .fieldLink RX6 31 "LeafOrderModel" "mayTurn" "Z", .methodLink RX6 64 yX6_in, .static yX6_in, .initialized RX6, .code yX6_in cX6_in 3 (some .boolean)] ++ wsX60)
def wsJ9_abs_0f7a4 : List Cond := .code yJ9_abs_0f7a4 cJ9_abs_0f7a4 1 (some .int) :: ([])
def wsJ9_min_7cf53 : List Cond := .code yJ9_min_7cf53 cJ9_min_7cf53 2 (some .int) :: ([])
def wsL_law_r1 : List Cond := [Cond.classLink RL 7 RX5, Cond.instantiable RX5 7, Cond.initialized RX5, Cond.classLink RL 10 RX6, Cond.instantiable RX6 20, Cond.initialized RX6, Cond.methodLink RL 9 yX5_init, Cond.instanceMethod yX5_init, Cond.code yX5_init cX5_init 1 none, Cond.methodLink RX5 3 objectInit, Cond.instanceMethod objectInit, Cond.code objectInit ⟨#[0xb1]⟩ 1 none, Cond.classLink RX5 9 RX1, Cond.instantiable RX1 7, Cond.initialized RX1, Cond.fieldLink RX5 12 "LeafOrder" "pile" "LLeafOrder$Leaves;", Cond.classLink RX5 16 RX3, Cond.instantiable RX3 2, Cond.initialized RX3, Cond.fieldLink RX5 21 "LeafOrder" "scale" "LLeafOrder$Scale;", Cond.classLink RX5 25 RX2, Cond.instantiable RX2 3, Cond.initialized RX2, Cond.fieldLink RX5 28 "LeafOrder" "rules" "LLeafOrder$Rules;"]
def wsL_law_r2 : List Cond := [Cond.classLink RX5 32 RX4, Cond.instantiable RX4 9, Cond.initialized RX4, Cond.fieldLink RX5 37 "LeafOrder" "search" "LLeafOrder$Search;", Cond.classLink RX5 41 RX0, Cond.instantiable RX0 3, Cond.initialized RX0, Cond.fieldLink RX5 46 "LeafOrder" "books" "LLeafOrder$Books;", Cond.fieldLink RX5 50 "LeafOrder" "mayTurn" "Z", Cond.fieldLink RX5 54 "LeafOrder" "stale" "Z", Cond.instanceMethod yX1_init, Cond.code yX1_init cX1_init 1 none, Cond.methodLink RX1 3 objectInit, Cond.arrayClass .int, Cond.fieldLink RX1 9 "LeafOrder$Leaves" "begins" "[I", Cond.fieldLink RX1 15 "LeafOrder$Leaves" "ends" "[I", Cond.fieldLink RX1 18 "LeafOrder$Leaves" "words" "[I", Cond.fieldLink RX1 21 "LeafOrder$Leaves" "cutBegins" "[I", Cond.fieldLink RX1 24 "LeafOrder$Leaves" "cutEnds" "[I", Cond.fieldLink RX1 27 "LeafOrder$Leaves" "stains" "[I", Cond.methodLink RX5 18 yX3_init, Cond.instanceMethod yX3_init, Cond.code yX3_init cX3_init 2 none, Cond.methodLink RX3 3 objectInit]
def wsL_law_r3 : List Cond := [Cond.fieldLink RX3 9 "LeafOrder$Scale" "sizes" "[I", Cond.fieldLink RX3 15 "LeafOrder$Scale" "pile" "LLeafOrder$Leaves;", Cond.instanceMethod yX2_init, Cond.code yX2_init cX2_init 1 none, Cond.methodLink RX2 3 objectInit, Cond.fieldLink RX2 9 "LeafOrder$Rules" "behind" "[I", Cond.fieldLink RX2 15 "LeafOrder$Rules" "rightBehind" "[I", Cond.fieldLink RX2 18 "LeafOrder$Rules" "rightAhead" "[I", Cond.methodLink RX5 34 yX4_init, Cond.instanceMethod yX4_init, Cond.code yX4_init cX4_init 2 none, Cond.methodLink RX4 3 objectInit, Cond.fieldLink RX4 9 "LeafOrder$Search" "joins" "[I", Cond.fieldLink RX4 15 "LeafOrder$Search" "least" "[I", Cond.fieldLink RX4 18 "LeafOrder$Search" "setCosts" "[I", Cond.fieldLink RX4 21 "LeafOrder$Search" "order" "[I", Cond.fieldLink RX4 24 "LeafOrder$Search" "rules" "LLeafOrder$Rules;", Cond.methodLink RX5 43 yX0_init, Cond.instanceMethod yX0_init, Cond.code yX0_init cX0_init 2 none, Cond.methodLink RX0 3 objectInit, Cond.fieldLink RX0 9 "LeafOrder$Books" "search" "LLeafOrder$Search;", Cond.methodLink RL 12 yX6_init, Cond.instanceMethod yX6_init]
def wsL_law_r4 : List Cond := [Cond.code yX6_init cX6_init 1 none, Cond.methodLink RX6 1 objectInit, Cond.fieldLink RX6 7 "LeafOrderModel" "begin" "[I", Cond.fieldLink RX6 13 "LeafOrderModel" "end" "[I", Cond.fieldLink RX6 16 "LeafOrderModel" "word" "[I", Cond.fieldLink RX6 19 "LeafOrderModel" "cutBegin" "[I", Cond.fieldLink RX6 22 "LeafOrderModel" "cutEnd" "[I", Cond.fieldLink RX6 25 "LeafOrderModel" "stain" "[I", Cond.fieldLink RX6 28 "LeafOrderModel" "weight" "[I", Cond.fieldLink RX6 31 "LeafOrderModel" "mayTurn" "Z", Cond.arrayClass .boolean, Cond.fieldLink RX6 35 "LeafOrderModel" "isAhead" "[Z", Cond.fieldLink RX6 39 "LeafOrderModel" "isJoined" "[Z", Cond.fieldLink RX6 42 "LeafOrderModel" "least" "[I", Cond.fieldLink RX6 45 "LeafOrderModel" "second" "[I", Cond.fieldLink RX6 48 "LeafOrderModel" "barredA" "I", Cond.fieldLink RX6 52 "LeafOrderModel" "barredB" "I", Cond.fieldLink RX6 55 "LeafOrderModel" "place" "[I", Cond.fieldLink RX6 58 "LeafOrderModel" "turned" "[I", Cond.methodLink RL 13 yX5_leaf, Cond.instanceMethod yX5_leaf, Cond.selects RX5 yX5_leaf yX5_leaf, Cond.code yX5_leaf cX5_leaf 6 (some .int), Cond.fieldLink RX5 61 "LeafOrder$Leaves" "count" "I"]
def wsL_law_r5 : List Cond := [Cond.methodLink RX5 57 yX5_isMark, Cond.static yX5_isMark, Cond.code yX5_isMark cX5_isMark 1 (some .boolean), Cond.methodLink RX5 86 yX5_isWithin, Cond.static yX5_isWithin, Cond.code yX5_isWithin cX5_isWithin 2 (some .boolean), Cond.methodLink RX5 65 yX1_add, Cond.instanceMethod yX1_add, Cond.selects RX1 yX1_add yX1_add, Cond.code yX1_add cX1_add 6 (some .int), Cond.fieldLink RX1 30 "LeafOrder$Leaves" "count" "I", Cond.methodLink RL 17 yX6_leaf, Cond.instanceMethod yX6_leaf, Cond.selects RX6 yX6_leaf yX6_leaf, Cond.code yX6_leaf cX6_leaf 5 (some .int), Cond.fieldLink RX6 61 "LeafOrderModel" "leaves" "I", Cond.methodLink RX6 64 yX6_in, Cond.static yX6_in, Cond.code yX6_in cX6_in 3 (some .boolean), Cond.methodLink RL 18 yX5_catchword, Cond.instanceMethod yX5_catchword, Cond.selects RX5 yX5_catchword yX5_catchword, Cond.code yX5_catchword cX5_catchword 4 (some .boolean), Cond.fieldLink RX5 73 "LeafOrder$Leaves" "words" "[I"]
def wsL_law_r6 : List Cond := [Cond.methodLink RX5 69 yX1_hasSide, Cond.instanceMethod yX1_hasSide, Cond.selects RX1 yX1_hasSide yX1_hasSide, Cond.code yX1_hasSide cX1_hasSide 3 (some .boolean), Cond.methodLink RX1 34 yX1_has, Cond.instanceMethod yX1_has, Cond.selects RX1 yX1_has yX1_has, Cond.code yX1_has cX1_has 2 (some .boolean), Cond.methodLink RL 22 yX6_catchword, Cond.instanceMethod yX6_catchword, Cond.selects RX6 yX6_catchword yX6_catchword, Cond.code yX6_catchword cX6_catchword 4 (some .boolean), Cond.methodLink RX6 68 yX6_isLeaf, Cond.instanceMethod yX6_isLeaf, Cond.selects RX6 yX6_isLeaf yX6_isLeaf, Cond.code yX6_isLeaf cX6_isLeaf 2 (some .boolean), Cond.methodLink RL 23 yX5_cut, Cond.instanceMethod yX5_cut, Cond.selects RX5 yX5_cut yX5_cut, Cond.code yX5_cut cX5_cut 5 (some .boolean), Cond.fieldLink RX5 77 "LeafOrder$Leaves" "cutBegins" "[I", Cond.fieldLink RX5 80 "LeafOrder$Leaves" "cutEnds" "[I", Cond.methodLink RL 27 yX6_cut, Cond.instanceMethod yX6_cut]
def wsL_law_r7 : List Cond := [Cond.selects RX6 yX6_cut yX6_cut, Cond.code yX6_cut cX6_cut 5 (some .boolean), Cond.methodLink RL 28 yX5_stain, Cond.instanceMethod yX5_stain, Cond.selects RX5 yX5_stain yX5_stain, Cond.code yX5_stain cX5_stain 4 (some .boolean), Cond.fieldLink RX5 89 "LeafOrder$Leaves" "stains" "[I", Cond.methodLink RX5 83 yX1_has, Cond.methodLink RL 31 yX6_stain, Cond.instanceMethod yX6_stain, Cond.selects RX6 yX6_stain yX6_stain, Cond.code yX6_stain cX6_stain 4 (some .boolean), Cond.methodLink RL 32 yX5_weights, Cond.instanceMethod yX5_weights, Cond.selects RX5 yX5_weights yX5_weights, Cond.code yX5_weights cX5_weights 8 (some .boolean), Cond.fieldLink RX5 92 "LeafOrder$Scale" "sizes" "[I", Cond.methodLink RL 36 yX6_weights, Cond.instanceMethod yX6_weights, Cond.selects RX6 yX6_weights yX6_weights, Cond.code yX6_weights cX6_weights 7 (some .boolean), Cond.methodLink RL 37 yX5_turnable, Cond.instanceMethod yX5_turnable, Cond.selects RX5 yX5_turnable yX5_turnable]
def wsL_law_r8 : List Cond := [Cond.code yX5_turnable cX5_turnable 2 none, Cond.methodLink RL 41 yX6_turnable, Cond.instanceMethod yX6_turnable, Cond.selects RX6 yX6_turnable yX6_turnable, Cond.code yX6_turnable cX6_turnable 2 none, Cond.methodLink RL 42 yX5_must, Cond.instanceMethod yX5_must, Cond.selects RX5 yX5_must yX5_must, Cond.code yX5_must cX5_must 5 (some .boolean), Cond.methodLink RX5 95 yX5_areTwo, Cond.instanceMethod yX5_areTwo, Cond.selects RX5 yX5_areTwo yX5_areTwo, Cond.code yX5_areTwo cX5_areTwo 3 (some .boolean), Cond.methodLink RX5 98 yX2_putJoined, Cond.instanceMethod yX2_putJoined, Cond.selects RX2 yX2_putJoined yX2_putJoined, Cond.code yX2_putJoined cX2_putJoined 4 none, Cond.methodLink RX2 21 yX2_withBit, Cond.static yX2_withBit, Cond.code yX2_withBit cX2_withBit 3 (some .int), Cond.methodLink RX5 102 yX2_putAhead, Cond.instanceMethod yX2_putAhead, Cond.selects RX2 yX2_putAhead yX2_putAhead, Cond.code yX2_putAhead cX2_putAhead 4 none]
def wsL_law_r9 : List Cond := [Cond.methodLink RL 46 yX6_must, Cond.instanceMethod yX6_must, Cond.selects RX6 yX6_must yX6_must, Cond.code yX6_must cX6_must 5 (some .boolean), Cond.methodLink RL 47 yX5_join, Cond.instanceMethod yX5_join, Cond.selects RX5 yX5_join yX5_join, Cond.code yX5_join cX5_join 5 (some .int), Cond.methodLink RX5 105 yX5_standOf, Cond.static yX5_standOf, Cond.code yX5_standOf cX5_standOf 2 (some .int), Cond.methodLink RX5 109 yX3_joinCost, Cond.instanceMethod yX3_joinCost, Cond.selects RX3 yX3_joinCost yX3_joinCost, Cond.code yX3_joinCost cX3_joinCost 4 (some .int), Cond.methodLink RX3 19 yX3_fullCost, Cond.instanceMethod yX3_fullCost, Cond.selects RX3 yX3_fullCost yX3_fullCost, Cond.code yX3_fullCost cX3_fullCost 8 (some .int), Cond.fieldLink RX3 27 "LeafOrder$Leaves" "begins" "[I", Cond.fieldLink RX3 32 "LeafOrder$Leaves" "words" "[I", Cond.fieldLink RX3 35 "LeafOrder$Leaves" "ends" "[I", Cond.methodLink RX3 38 Lib.Math.abs.name, Cond.static Lib.Math.abs.name]
def wsL_law_r10 : List Cond := [Cond.initialized "java/lang/Math", Cond.code Lib.Math.abs.name Lib.Math.abs.code 1 (some .int), Cond.fieldLink RX3 44 "LeafOrder$Leaves" "cutEnds" "[I", Cond.fieldLink RX3 47 "LeafOrder$Leaves" "cutBegins" "[I", Cond.methodLink RX3 50 yX1_stainsApart, Cond.instanceMethod yX1_stainsApart, Cond.selects RX1 yX1_stainsApart yX1_stainsApart, Cond.code yX1_stainsApart cX1_stainsApart 5 (some .int), Cond.methodLink RX1 42 Lib.Math.abs.name, Cond.methodLink RX3 23 yX3_isOverGap, Cond.instanceMethod yX3_isOverGap, Cond.selects RX3 yX3_isOverGap yX3_isOverGap, Cond.code yX3_isOverGap cX3_isOverGap 2 (some .boolean), Cond.methodLink RL 51 yX6_join, Cond.instanceMethod yX6_join, Cond.selects RX6 yX6_join yX6_join, Cond.code yX6_join cX6_join 5 (some .int), Cond.methodLink RX6 84 yX6_joins, Cond.instanceMethod yX6_joins, Cond.selects RX6 yX6_joins yX6_joins, Cond.code yX6_joins cX6_joins 5 (some .int), Cond.methodLink RX6 80 yX6_isMissing, Cond.instanceMethod yX6_isMissing, Cond.selects RX6 yX6_isMissing yX6_isMissing]
def wsL_law_r11 : List Cond := [Cond.code yX6_isMissing cX6_isMissing 5 (some .boolean), Cond.methodLink RX6 76 yX6_whole, Cond.instanceMethod yX6_whole, Cond.selects RX6 yX6_whole yX6_whole, Cond.code yX6_whole cX6_whole 9 (some .int), Cond.methodLink RX6 72 yX6_apart, Cond.static yX6_apart, Cond.code yX6_apart cX6_apart 2 (some .int), Cond.methodLink RL 52 yX5_best, Cond.instanceMethod yX5_best, Cond.selects RX5 yX5_best yX5_best, Cond.code yX5_best cX5_best 1 (some .int), Cond.fieldLink RX5 116 "LeafOrder$Search" "bestCost" "I", Cond.methodLink RX5 113 yX5_refresh, Cond.instanceMethod yX5_refresh, Cond.selects RX5 yX5_refresh yX5_refresh, Cond.code yX5_refresh cX5_refresh 1 none, Cond.methodLink RX5 146 yX4_prepare, Cond.instanceMethod yX4_prepare, Cond.selects RX4 yX4_prepare yX4_prepare, Cond.code yX4_prepare cX4_prepare 5 none, Cond.fieldLink RX4 28 "LeafOrder$Scale" "pile" "LLeafOrder$Leaves;", Cond.fieldLink RX4 34 "LeafOrder$Leaves" "count" "I", Cond.fieldLink RX4 40 "LeafOrder$Search" "count" "I"]
def wsL_law_r12 : List Cond := [Cond.fieldLink RX4 41 "LeafOrder$Scale" "sizes" "[I", Cond.constant RX4 44 (1000000), Cond.fieldLink RX4 45 "LeafOrder$Search" "turnCost" "I", Cond.methodLink RX4 48 yX3_joinCost, Cond.methodLink RX5 150 yX4_solve, Cond.instanceMethod yX4_solve, Cond.selects RX4 yX4_solve yX4_solve, Cond.code yX4_solve cX4_solve 2 none, Cond.fieldLink RX4 64 "LeafOrder$Search" "bestCost" "I", Cond.fieldLink RX4 67 "LeafOrder$Search" "nextCost" "I", Cond.methodLink RX4 52 yX4_fill, Cond.instanceMethod yX4_fill, Cond.selects RX4 yX4_fill yX4_fill, Cond.code yX4_fill cX4_fill 7 none, Cond.methodLink RX4 56 yX4_all, Cond.instanceMethod yX4_all, Cond.selects RX4 yX4_all yX4_all, Cond.code yX4_all cX4_all 1 (some .int), Cond.methodLink RX4 77 yX2_neighboursOf, Cond.instanceMethod yX2_neighboursOf, Cond.selects RX2 yX2_neighboursOf yX2_neighboursOf, Cond.code yX2_neighboursOf cX2_neighboursOf 4 (some .int), Cond.methodLink RX2 25 yJ6_bitCount_0f7a4, Cond.static yJ6_bitCount_0f7a4]
def wsL_law_r13 : List Cond := [Cond.initialized RJ6, Cond.code yJ6_bitCount_0f7a4 cJ6_bitCount_0f7a4 1 (some .int), Cond.constant RJ6 265 (1431655765), Cond.constant RJ6 266 (858993459), Cond.constant RJ6 267 (252645135), Cond.methodLink RX4 82 yX4_fillLast, Cond.instanceMethod yX4_fillLast, Cond.selects RX4 yX4_fillLast yX4_fillLast, Cond.code yX4_fillLast cX4_fillLast 8 none, Cond.methodLink RX4 93 Lib.Math.min.name, Cond.static Lib.Math.min.name, Cond.code Lib.Math.min.name Lib.Math.min.code 2 (some .int), Cond.methodLink RX4 86 yX2_mayComeAfter, Cond.instanceMethod yX2_mayComeAfter, Cond.selects RX2 yX2_mayComeAfter yX2_mayComeAfter, Cond.code yX2_mayComeAfter cX2_mayComeAfter 3 (some .boolean), Cond.methodLink RX4 89 yX4_leastUpTo, Cond.instanceMethod yX4_leastUpTo, Cond.selects RX4 yX4_leastUpTo yX4_leastUpTo, Cond.code yX4_leastUpTo cX4_leastUpTo 9 (some .int), Cond.methodLink RX4 60 yX4_leastOf, Cond.instanceMethod yX4_leastOf, Cond.selects RX4 yX4_leastOf yX4_leastOf, Cond.code yX4_leastOf cX4_leastOf 4 (some .int)]
def wsL_law_r14 : List Cond := [Cond.methodLink RX4 70 yX4_trace, Cond.instanceMethod yX4_trace, Cond.selects RX4 yX4_trace yX4_trace, Cond.code yX4_trace cX4_trace 6 none, Cond.methodLink RX4 98 yX4_pick, Cond.instanceMethod yX4_pick, Cond.selects RX4 yX4_pick yX4_pick, Cond.code yX4_pick cX4_pick 9 (some .int), Cond.methodLink RX4 101 yX4_linkCost, Cond.instanceMethod yX4_linkCost, Cond.selects RX4 yX4_linkCost yX4_linkCost, Cond.code yX4_linkCost cX4_linkCost 3 (some .int), Cond.methodLink RX5 153 yX0_part, Cond.instanceMethod yX0_part, Cond.selects RX0 yX0_part yX0_part, Cond.code yX0_part cX0_part 3 none, Cond.constant RX0 15 (1000000), Cond.fieldLink RX0 16 "LeafOrder$Books" "cost" "I", Cond.fieldLink RX0 20 "LeafOrder$Books" "other" "I", Cond.methodLink RX0 23 yX4_all, Cond.methodLink RX0 29 yX0_costOf, Cond.instanceMethod yX0_costOf, Cond.selects RX0 yX0_costOf yX0_costOf, Cond.code yX0_costOf cX0_costOf 2 (some .int)]
def wsL_law_r15 : List Cond := [Cond.fieldLink RX0 39 "LeafOrder$Search" "setCosts" "[I", Cond.methodLink RX5 119 yX5_costOrNone, Cond.static yX5_costOrNone, Cond.code yX5_costOrNone cX5_costOrNone 1 (some .int), Cond.constant RX5 123 (1000000), Cond.methodLink RL 56 yX6_best, Cond.instanceMethod yX6_best, Cond.selects RX6 yX6_best yX6_best, Cond.code yX6_best cX6_best 1 (some .int), Cond.fieldLink RX6 103 "LeafOrderModel" "setLeast" "I", Cond.methodLink RX6 109 yX6_orders, Cond.instanceMethod yX6_orders, Cond.selects RX6 yX6_orders yX6_orders, Cond.code yX6_orders cX6_orders 7 none, Cond.constant RX6 87 (1000000000), Cond.methodLink RX6 88 yX6_stands, Cond.instanceMethod yX6_stands, Cond.selects RX6 yX6_stands yX6_stands, Cond.code yX6_stands cX6_stands 4 (some .int), Cond.methodLink RX6 92 yX6_goesOn, Cond.instanceMethod yX6_goesOn, Cond.selects RX6 yX6_goesOn yX6_goesOn, Cond.code yX6_goesOn cX6_goesOn 11 none, Cond.methodLink RX6 96 yX6_mayFollow]
def wsL_law_r16 : List Cond := [Cond.instanceMethod yX6_mayFollow, Cond.selects RX6 yX6_mayFollow yX6_mayFollow, Cond.code yX6_mayFollow cX6_mayFollow 5 (some .boolean), Cond.methodLink RX6 99 yX6_keeps, Cond.instanceMethod yX6_keeps, Cond.selects RX6 yX6_keeps yX6_keeps, Cond.code yX6_keeps cX6_keeps 3 none, Cond.methodLink RX6 112 yX6_all, Cond.instanceMethod yX6_all, Cond.selects RX6 yX6_all yX6_all, Cond.code yX6_all cX6_all 1 (some .int), Cond.methodLink RX6 116 yX6_looks, Cond.instanceMethod yX6_looks, Cond.selects RX6 yX6_looks yX6_looks, Cond.code yX6_looks cX6_looks 3 none, Cond.fieldLink RX6 106 "LeafOrderModel" "setSecond" "I", Cond.methodLink RX6 120 yX6_told, Cond.instanceMethod yX6_told, Cond.selects RX6 yX6_told yX6_told, Cond.code yX6_told cX6_told 2 (some .int), Cond.methodLink RL 57 yX5_at, Cond.instanceMethod yX5_at, Cond.selects RX5 yX5_at yX5_at, Cond.code yX5_at cX5_at 4 (some .int)]
def wsL_law_r17 : List Cond := [Cond.fieldLink RX5 124 "LeafOrder$Search" "order" "[I", Cond.methodLink RX5 127 yX3_isMissing, Cond.instanceMethod yX3_isMissing, Cond.selects RX3 yX3_isMissing yX3_isMissing, Cond.code yX3_isMissing cX3_isMissing 3 (some .boolean), Cond.methodLink RL 61 yX6_at, Cond.instanceMethod yX6_at, Cond.selects RX6 yX6_at yX6_at, Cond.code yX6_at cX6_at 3 (some .int), Cond.methodLink RX6 127 yX6_reads, Cond.instanceMethod yX6_reads, Cond.selects RX6 yX6_reads yX6_reads, Cond.code yX6_reads cX6_reads 9 (some .boolean), Cond.methodLink RX6 124 yX6_best, Cond.methodLink RL 62 yX5_next, Cond.instanceMethod yX5_next, Cond.selects RX5 yX5_next yX5_next, Cond.code yX5_next cX5_next 1 (some .int), Cond.fieldLink RX5 130 "LeafOrder$Search" "nextCost" "I", Cond.methodLink RL 65 yX6_next, Cond.instanceMethod yX6_next, Cond.selects RX6 yX6_next yX6_next, Cond.code yX6_next cX6_next 1 (some .int), Cond.methodLink RL 66 yX5_sure]
def wsL_law_r18 : List Cond := [Cond.instanceMethod yX5_sure, Cond.selects RX5 yX5_sure yX5_sure, Cond.code yX5_sure cX5_sure 4 (some .int), Cond.methodLink RX5 133 yX4_isSure, Cond.instanceMethod yX4_isSure, Cond.selects RX4 yX4_isSure yX4_isSure, Cond.code yX4_isSure cX4_isSure 4 (some .boolean), Cond.methodLink RX4 73 yX4_isInBest, Cond.instanceMethod yX4_isInBest, Cond.selects RX4 yX4_isInBest yX4_isInBest, Cond.code yX4_isInBest cX4_isInBest 4 (some .boolean), Cond.methodLink RL 70 yX6_sure, Cond.instanceMethod yX6_sure, Cond.selects RX6 yX6_sure yX6_sure, Cond.code yX6_sure cX6_sure 6 (some .int), Cond.methodLink RL 71 yX5_two, Cond.instanceMethod yX5_two, Cond.selects RX5 yX5_two yX5_two, Cond.code yX5_two cX5_two 1 (some .int), Cond.fieldLink RX5 137 "LeafOrder$Books" "cost" "I", Cond.methodLink RL 74 yX6_two, Cond.instanceMethod yX6_two, Cond.selects RX6 yX6_two yX6_two, Cond.code yX6_two cX6_two 1 (some .int)]
def wsL_law_r19 : List Cond := [Cond.methodLink RX6 134 yX6_parts, Cond.instanceMethod yX6_parts, Cond.selects RX6 yX6_parts yX6_parts, Cond.code yX6_parts cX6_parts 6 (some .int), Cond.fieldLink RX6 131 "LeafOrderModel" "parted" "I", Cond.methodLink RL 75 yX5_book, Cond.instanceMethod yX5_book, Cond.selects RX5 yX5_book yX5_book, Cond.code yX5_book cX5_book 2 (some .int), Cond.fieldLink RX5 140 "LeafOrder$Books" "other" "I", Cond.methodLink RL 79 yX6_book, Cond.instanceMethod yX6_book, Cond.selects RX6 yX6_book yX6_book, Cond.code yX6_book cX6_book 2 (some .int), Cond.methodLink RX6 137 yX6_two, Cond.methodLink RL 80 yX5_doubt, Cond.instanceMethod yX5_doubt, Cond.selects RX5 yX5_doubt yX5_doubt, Cond.code yX5_doubt cX5_doubt 3 (some .int), Cond.methodLink RX5 143 yX0_leastWithMoved, Cond.instanceMethod yX0_leastWithMoved, Cond.selects RX0 yX0_leastWithMoved yX0_leastWithMoved, Cond.code yX0_leastWithMoved cX0_leastWithMoved 4 (some .int), Cond.methodLink RX0 33 Lib.Math.min.name]
def wsL_law_r20 : List Cond := [Cond.methodLink RL 83 yX6_doubt, Cond.instanceMethod yX6_doubt, Cond.selects RX6 yX6_doubt yX6_doubt, Cond.code yX6_doubt cX6_doubt 5 (some .int), Cond.methodLink RL 84 yX5_about, Cond.instanceMethod yX5_about, Cond.selects RX5 yX5_about yX5_about, Cond.code yX5_about cX5_about 2 (some .int), Cond.methodLink RL 87 yX6_about, Cond.instanceMethod yX6_about, Cond.selects RX6 yX6_about yX6_about, Cond.code yX6_about cX6_about 2 (some .int)]
def wsL_law : List Cond := (wsL_law_r1 ++ (wsL_law_r2 ++ (wsL_law_r3 ++ (wsL_law_r4 ++ (wsL_law_r5 ++ (wsL_law_r6 ++ (wsL_law_r7 ++ (wsL_law_r8 ++ (wsL_law_r9 ++ (wsL_law_r10 ++ (wsL_law_r11 ++ (wsL_law_r12 ++ (wsL_law_r13 ++ (wsL_law_r14 ++ (wsL_law_r15 ++ (wsL_law_r16 ++ (wsL_law_r17 ++ (wsL_law_r18 ++ (wsL_law_r19 ++ wsL_law_r20))))))))))))))))))) ++ wsX50 ++ wsX60 ++ wsX10 ++ wsX30 ++ wsX20 ++ wsX40 ++ wsX00 ++ ([] : List Cond)
abbrev vwCl : List vw_C := [(RX0, TX0, 3), (RX1, TX1, 7), (RX2, TX2, 3), (RX3, TX3, 2), (RX4, TX4, 9), (RX5, TX5, 7), (RX6, TX6, 20)]
end
section
theorem dX0_init_0 : decode cX0_init 0 = .ok (.aload_n 0, 1) := by decide +kernel
theorem dX0_init_1 : decode cX0_init 1 = .ok (.invokespecial 3, 3) := by decide +kernel
theorem dX0_init_4 : decode cX0_init 4 = .ok (.aload_n 0, 1) := by decide +kernel
theorem dX0_init_5 : decode cX0_init 5 = .ok (.aload_n 1, 1) := by decide +kernel
theorem dX0_init_6 : decode cX0_init 6 = .ok (.putfield 9, 3) := by decide +kernel
theorem dX0_init_9 : decode cX0_init 9 = .ok (.return_, 1) := by decide +kernel
set_option maxRecDepth 20000 in
theorem ggX0_part_X4_all : GoodIn wsX0_part wsX4_all := goodIn_r _ [9, 10, 20, 21, 22, 23, 24, 25, 26, 27, 28] (by decide +kernel) (by decide +kernel)
set_option maxRecDepth 20000 in
theorem gX0_part_X4_all : GoodIn wsX0_part (wsV RX0 23 RX4 yX4_all wsX4_all) := goodIn_app (goodIn_of _ (by decide +kernel)) ggX0_part_X4_all
set_option maxRecDepth 20000 in
theorem ggX0_part_X0_costOf : GoodIn wsX0_part wsX0_costOf := goodIn_r _ [15, 4, 16, 5, 6, 7, 8, 9, 10, 17, 18, 19, 20, 21, 22, 23, 24, 25, 26, 27, 28] (by decide +kernel) (by decide +kernel)
set_option maxRecDepth 20000 in
theorem gX0_part_X0_costOf : GoodIn wsX0_part (wsV RX0 29 RX0 yX0_costOf wsX0_costOf) := goodIn_app (goodIn_of _ (by decide +kernel)) ggX0_part_X0_costOf
theorem dX0_part_0 : decode cX0_part 0 = .ok (.aload_n 0, 1) := by decide +kernel
theorem dX0_part_1 : decode cX0_part 1 = .ok (.ldc 15, 2) := by decide +kernel
theorem dX0_part_3 : decode cX0_part 3 = .ok (.putfield 16, 3) := by decide +kernel
theorem dX0_part_6 : decode cX0_part 6 = .ok (.aload_n 0, 1) := by decide +kernel
theorem dX0_part_7 : decode cX0_part 7 = .ok (.iconst 0, 1) := by decide +kernel
theorem dX0_part_8 : decode cX0_part 8 = .ok (.putfield 20, 3) := by decide +kernel
theorem dX0_part_11 : decode cX0_part 11 = .ok (.iconst 2, 1) := by decide +kernel
theorem dX0_part_12 : decode cX0_part 12 = .ok (.istore_n 1, 1) := by decide +kernel
theorem dX0_part_13 : decode cX0_part 13 = .ok (.iload_n 1, 1) := by decide +kernel
theorem dX0_part_14 : decode cX0_part 14 = .ok (.aload_n 0, 1) := by decide +kernel
theorem dX0_part_15 : decode cX0_part 15 = .ok (.getfield 9, 3) := by decide +kernel
theorem dX0_part_18 : decode cX0_part 18 = .ok (.invokevirtual 23, 3) := by decide +kernel
theorem dX0_part_21 : decode cX0_part 21 = .ok (.if_icmp .gt 33, 3) := by decide +kernel
theorem dX0_part_24 : decode cX0_part 24 = .ok (.aload_n 0, 1) := by decide +kernel
theorem dX0_part_25 : decode cX0_part 25 = .ok (.iload_n 1, 1) := by decide +kernel
theorem dX0_part_26 : decode cX0_part 26 = .ok (.invokevirtual 29, 3) := by decide +kernel
theorem dX0_part_29 : decode cX0_part 29 = .ok (.istore_n 2, 1) := by decide +kernel
theorem dX0_part_30 : decode cX0_part 30 = .ok (.iload_n 2, 1) := by decide +kernel
theorem dX0_part_31 : decode cX0_part 31 = .ok (.aload_n 0, 1) := by decide +kernel
theorem dX0_part_32 : decode cX0_part 32 = .ok (.getfield 16, 3) := by decide +kernel
theorem dX0_part_35 : decode cX0_part 35 = .ok (.if_icmp .ge 13, 3) := by decide +kernel
theorem dX0_part_38 : decode cX0_part 38 = .ok (.aload_n 0, 1) := by decide +kernel
theorem dX0_part_39 : decode cX0_part 39 = .ok (.iload_n 2, 1) := by decide +kernel
theorem dX0_part_40 : decode cX0_part 40 = .ok (.putfield 16, 3) := by decide +kernel
theorem dX0_part_43 : decode cX0_part 43 = .ok (.aload_n 0, 1) := by decide +kernel
theorem dX0_part_44 : decode cX0_part 44 = .ok (.iload_n 1, 1) := by decide +kernel
theorem dX0_part_45 : decode cX0_part 45 = .ok (.putfield 20, 3) := by decide +kernel
theorem dX0_part_48 : decode cX0_part 48 = .ok (.iinc 1 2, 3) := by decide +kernel
theorem dX0_part_51 : decode cX0_part 51 = .ok (.goto (-38), 3) := by decide +kernel
theorem dX0_part_54 : decode cX0_part 54 = .ok (.return_, 1) := by decide +kernel
set_option maxRecDepth 20000 in
theorem ggX0_leastWithMoved_X4_all : GoodIn wsX0_leastWithMoved wsX4_all := goodIn_r _ [12, 13, 23, 24, 25, 26, 27, 28, 29, 30, 31] (by decide +kernel) (by decide +kernel)
set_option maxRecDepth 20000 in
theorem gX0_leastWithMoved_X4_all : GoodIn wsX0_leastWithMoved (wsV RX0 23 RX4 yX4_all wsX4_all) := goodIn_app (goodIn_of _ (by decide +kernel)) ggX0_leastWithMoved_X4_all
set_option maxRecDepth 20000 in
theorem ggX0_leastWithMoved_X0_costOf : GoodIn wsX0_leastWithMoved wsX0_costOf := goodIn_r _ [18, 2, 19, 8, 9, 10, 11, 12, 13, 20, 21, 22, 23, 24, 25, 26, 27, 28, 29, 30, 31] (by decide +kernel) (by decide +kernel)
set_option maxRecDepth 20000 in
theorem gX0_leastWithMoved_X0_costOf : GoodIn wsX0_leastWithMoved (wsV RX0 29 RX0 yX0_costOf wsX0_costOf) := goodIn_app (goodIn_of _ (by decide +kernel)) ggX0_leastWithMoved_X0_costOf
theorem dX0_leastWithMoved_0 : decode cX0_leastWithMoved 0 = .ok (.ldc 15, 2) := by decide +kernel
theorem dX0_leastWithMoved_2 : decode cX0_leastWithMoved 2 = .ok (.istore_n 2, 1) := by decide +kernel
theorem dX0_leastWithMoved_3 : decode cX0_leastWithMoved 3 = .ok (.iconst 2, 1) := by decide +kernel
theorem dX0_leastWithMoved_4 : decode cX0_leastWithMoved 4 = .ok (.istore_n 3, 1) := by decide +kernel
theorem dX0_leastWithMoved_5 : decode cX0_leastWithMoved 5 = .ok (.iload_n 3, 1) := by decide +kernel
theorem dX0_leastWithMoved_6 : decode cX0_leastWithMoved 6 = .ok (.aload_n 0, 1) := by decide +kernel
theorem dX0_leastWithMoved_7 : decode cX0_leastWithMoved 7 = .ok (.getfield 9, 3) := by decide +kernel
theorem dX0_leastWithMoved_10 : decode cX0_leastWithMoved 10 = .ok (.invokevirtual 23, 3) := by decide +kernel
theorem dX0_leastWithMoved_13 : decode cX0_leastWithMoved 13 = .ok (.if_icmp .gt 32, 3) := by decide +kernel
theorem dX0_leastWithMoved_16 : decode cX0_leastWithMoved 16 = .ok (.iload_n 3, 1) := by decide +kernel
theorem dX0_leastWithMoved_17 : decode cX0_leastWithMoved 17 = .ok (.aload_n 0, 1) := by decide +kernel
theorem dX0_leastWithMoved_18 : decode cX0_leastWithMoved 18 = .ok (.getfield 20, 3) := by decide +kernel
theorem dX0_leastWithMoved_21 : decode cX0_leastWithMoved 21 = .ok (.ixor, 1) := by decide +kernel
theorem dX0_leastWithMoved_22 : decode cX0_leastWithMoved 22 = .ok (.iload_n 1, 1) := by decide +kernel
theorem dX0_leastWithMoved_23 : decode cX0_leastWithMoved 23 = .ok (.ishr, 1) := by decide +kernel
theorem dX0_leastWithMoved_24 : decode cX0_leastWithMoved 24 = .ok (.iconst 1, 1) := by decide +kernel
theorem dX0_leastWithMoved_25 : decode cX0_leastWithMoved 25 = .ok (.iand, 1) := by decide +kernel
theorem dX0_leastWithMoved_26 : decode cX0_leastWithMoved 26 = .ok (.ifCond .eq 13, 3) := by decide +kernel
theorem dX0_leastWithMoved_29 : decode cX0_leastWithMoved 29 = .ok (.iload_n 2, 1) := by decide +kernel
theorem dX0_leastWithMoved_30 : decode cX0_leastWithMoved 30 = .ok (.aload_n 0, 1) := by decide +kernel
theorem dX0_leastWithMoved_31 : decode cX0_leastWithMoved 31 = .ok (.iload_n 3, 1) := by decide +kernel
theorem dX0_leastWithMoved_32 : decode cX0_leastWithMoved 32 = .ok (.invokevirtual 29, 3) := by decide +kernel
theorem dX0_leastWithMoved_35 : decode cX0_leastWithMoved 35 = .ok (.invokestatic 33, 3) := by decide +kernel
theorem dX0_leastWithMoved_38 : decode cX0_leastWithMoved 38 = .ok (.istore_n 2, 1) := by decide +kernel
theorem dX0_leastWithMoved_39 : decode cX0_leastWithMoved 39 = .ok (.iinc 3 2, 3) := by decide +kernel
theorem dX0_leastWithMoved_42 : decode cX0_leastWithMoved 42 = .ok (.goto (-37), 3) := by decide +kernel
theorem dX0_leastWithMoved_45 : decode cX0_leastWithMoved 45 = .ok (.iload_n 2, 1) := by decide +kernel
theorem dX0_leastWithMoved_46 : decode cX0_leastWithMoved 46 = .ok (.ireturn, 1) := by decide +kernel
set_option maxRecDepth 20000 in
theorem ggX0_costOf_X4_all : GoodIn wsX0_costOf wsX4_all := goodIn_r _ [7, 8, 12, 13, 14, 15, 16, 17, 18, 19, 20] (by decide +kernel) (by decide +kernel)
set_option maxRecDepth 20000 in
theorem gX0_costOf_X4_all : GoodIn wsX0_costOf (wsV RX0 23 RX4 yX4_all wsX4_all) := goodIn_app (goodIn_of _ (by decide +kernel)) ggX0_costOf_X4_all
theorem dX0_costOf_0 : decode cX0_costOf 0 = .ok (.aload_n 0, 1) := by decide +kernel
theorem dX0_costOf_1 : decode cX0_costOf 1 = .ok (.getfield 9, 3) := by decide +kernel
theorem dX0_costOf_4 : decode cX0_costOf 4 = .ok (.getfield 39, 3) := by decide +kernel
theorem dX0_costOf_7 : decode cX0_costOf 7 = .ok (.iload_n 1, 1) := by decide +kernel
theorem dX0_costOf_8 : decode cX0_costOf 8 = .ok (.iaload, 1) := by decide +kernel
theorem dX0_costOf_9 : decode cX0_costOf 9 = .ok (.aload_n 0, 1) := by decide +kernel
theorem dX0_costOf_10 : decode cX0_costOf 10 = .ok (.getfield 9, 3) := by decide +kernel
theorem dX0_costOf_13 : decode cX0_costOf 13 = .ok (.getfield 39, 3) := by decide +kernel
theorem dX0_costOf_16 : decode cX0_costOf 16 = .ok (.aload_n 0, 1) := by decide +kernel
theorem dX0_costOf_17 : decode cX0_costOf 17 = .ok (.getfield 9, 3) := by decide +kernel
theorem dX0_costOf_20 : decode cX0_costOf 20 = .ok (.invokevirtual 23, 3) := by decide +kernel
theorem dX0_costOf_23 : decode cX0_costOf 23 = .ok (.iload_n 1, 1) := by decide +kernel
theorem dX0_costOf_24 : decode cX0_costOf 24 = .ok (.iconst (-1), 1) := by decide +kernel
theorem dX0_costOf_25 : decode cX0_costOf 25 = .ok (.ixor, 1) := by decide +kernel
theorem dX0_costOf_26 : decode cX0_costOf 26 = .ok (.iand, 1) := by decide +kernel
theorem dX0_costOf_27 : decode cX0_costOf 27 = .ok (.iaload, 1) := by decide +kernel
theorem dX0_costOf_28 : decode cX0_costOf 28 = .ok (.iadd, 1) := by decide +kernel
theorem dX0_costOf_29 : decode cX0_costOf 29 = .ok (.ireturn, 1) := by decide +kernel
theorem dX1_init_0 : decode cX1_init 0 = .ok (.aload_n 0, 1) := by decide +kernel
theorem dX1_init_1 : decode cX1_init 1 = .ok (.invokespecial 3, 3) := by decide +kernel
theorem dX1_init_4 : decode cX1_init 4 = .ok (.aload_n 0, 1) := by decide +kernel
theorem dX1_init_5 : decode cX1_init 5 = .ok (.bipush 18, 2) := by decide +kernel
theorem dX1_init_7 : decode cX1_init 7 = .ok (.newarray .int, 2) := by decide +kernel
theorem dX1_init_9 : decode cX1_init 9 = .ok (.putfield 9, 3) := by decide +kernel
theorem dX1_init_12 : decode cX1_init 12 = .ok (.aload_n 0, 1) := by decide +kernel
theorem dX1_init_13 : decode cX1_init 13 = .ok (.bipush 18, 2) := by decide +kernel
theorem dX1_init_15 : decode cX1_init 15 = .ok (.newarray .int, 2) := by decide +kernel
theorem dX1_init_17 : decode cX1_init 17 = .ok (.putfield 15, 3) := by decide +kernel
theorem dX1_init_20 : decode cX1_init 20 = .ok (.aload_n 0, 1) := by decide +kernel
theorem dX1_init_21 : decode cX1_init 21 = .ok (.bipush 18, 2) := by decide +kernel
theorem dX1_init_23 : decode cX1_init 23 = .ok (.newarray .int, 2) := by decide +kernel
theorem dX1_init_25 : decode cX1_init 25 = .ok (.putfield 18, 3) := by decide +kernel
theorem dX1_init_28 : decode cX1_init 28 = .ok (.aload_n 0, 1) := by decide +kernel
theorem dX1_init_29 : decode cX1_init 29 = .ok (.bipush 18, 2) := by decide +kernel
theorem dX1_init_31 : decode cX1_init 31 = .ok (.newarray .int, 2) := by decide +kernel
theorem dX1_init_33 : decode cX1_init 33 = .ok (.putfield 21, 3) := by decide +kernel
theorem dX1_init_36 : decode cX1_init 36 = .ok (.aload_n 0, 1) := by decide +kernel
theorem dX1_init_37 : decode cX1_init 37 = .ok (.bipush 18, 2) := by decide +kernel
theorem dX1_init_39 : decode cX1_init 39 = .ok (.newarray .int, 2) := by decide +kernel
theorem dX1_init_41 : decode cX1_init 41 = .ok (.putfield 24, 3) := by decide +kernel
theorem dX1_init_44 : decode cX1_init 44 = .ok (.aload_n 0, 1) := by decide +kernel
theorem dX1_init_45 : decode cX1_init 45 = .ok (.bipush 27, 2) := by decide +kernel
theorem dX1_init_47 : decode cX1_init 47 = .ok (.newarray .int, 2) := by decide +kernel
theorem dX1_init_49 : decode cX1_init 49 = .ok (.putfield 27, 3) := by decide +kernel
theorem dX1_init_52 : decode cX1_init 52 = .ok (.return_, 1) := by decide +kernel
theorem dX1_add_0 : decode cX1_add 0 = .ok (.iconst 2, 1) := by decide +kernel
theorem dX1_add_1 : decode cX1_add 1 = .ok (.aload_n 0, 1) := by decide +kernel
theorem dX1_add_2 : decode cX1_add 2 = .ok (.getfield 30, 3) := by decide +kernel
theorem dX1_add_5 : decode cX1_add 5 = .ok (.imul, 1) := by decide +kernel
theorem dX1_add_6 : decode cX1_add 6 = .ok (.istore 5, 2) := by decide +kernel
theorem dX1_add_8 : decode cX1_add 8 = .ok (.aload_n 0, 1) := by decide +kernel
theorem dX1_add_9 : decode cX1_add 9 = .ok (.getfield 9, 3) := by decide +kernel
theorem dX1_add_12 : decode cX1_add 12 = .ok (.iload 5, 2) := by decide +kernel
theorem dX1_add_14 : decode cX1_add 14 = .ok (.iload_n 1, 1) := by decide +kernel
theorem dX1_add_15 : decode cX1_add 15 = .ok (.iastore, 1) := by decide +kernel
theorem dX1_add_16 : decode cX1_add 16 = .ok (.aload_n 0, 1) := by decide +kernel
theorem dX1_add_17 : decode cX1_add 17 = .ok (.getfield 15, 3) := by decide +kernel
theorem dX1_add_20 : decode cX1_add 20 = .ok (.iload 5, 2) := by decide +kernel
theorem dX1_add_22 : decode cX1_add 22 = .ok (.iload_n 2, 1) := by decide +kernel
theorem dX1_add_23 : decode cX1_add 23 = .ok (.iastore, 1) := by decide +kernel
theorem dX1_add_24 : decode cX1_add 24 = .ok (.aload_n 0, 1) := by decide +kernel
theorem dX1_add_25 : decode cX1_add 25 = .ok (.getfield 18, 3) := by decide +kernel
theorem dX1_add_28 : decode cX1_add 28 = .ok (.iload 5, 2) := by decide +kernel
theorem dX1_add_30 : decode cX1_add 30 = .ok (.iconst (-1), 1) := by decide +kernel
theorem dX1_add_31 : decode cX1_add 31 = .ok (.iastore, 1) := by decide +kernel
theorem dX1_add_32 : decode cX1_add 32 = .ok (.aload_n 0, 1) := by decide +kernel
theorem dX1_add_33 : decode cX1_add 33 = .ok (.getfield 9, 3) := by decide +kernel
theorem dX1_add_36 : decode cX1_add 36 = .ok (.iload 5, 2) := by decide +kernel
theorem dX1_add_38 : decode cX1_add 38 = .ok (.iconst 1, 1) := by decide +kernel
theorem dX1_add_39 : decode cX1_add 39 = .ok (.iadd, 1) := by decide +kernel
theorem dX1_add_40 : decode cX1_add 40 = .ok (.iload_n 3, 1) := by decide +kernel
theorem dX1_add_41 : decode cX1_add 41 = .ok (.iastore, 1) := by decide +kernel
theorem dX1_add_42 : decode cX1_add 42 = .ok (.aload_n 0, 1) := by decide +kernel
theorem dX1_add_43 : decode cX1_add 43 = .ok (.getfield 15, 3) := by decide +kernel
theorem dX1_add_46 : decode cX1_add 46 = .ok (.iload 5, 2) := by decide +kernel
theorem dX1_add_48 : decode cX1_add 48 = .ok (.iconst 1, 1) := by decide +kernel
theorem dX1_add_49 : decode cX1_add 49 = .ok (.iadd, 1) := by decide +kernel
theorem dX1_add_50 : decode cX1_add 50 = .ok (.iload 4, 2) := by decide +kernel
theorem dX1_add_52 : decode cX1_add 52 = .ok (.iastore, 1) := by decide +kernel
theorem dX1_add_53 : decode cX1_add 53 = .ok (.aload_n 0, 1) := by decide +kernel
theorem dX1_add_54 : decode cX1_add 54 = .ok (.getfield 18, 3) := by decide +kernel
theorem dX1_add_57 : decode cX1_add 57 = .ok (.iload 5, 2) := by decide +kernel
theorem dX1_add_59 : decode cX1_add 59 = .ok (.iconst 1, 1) := by decide +kernel
theorem dX1_add_60 : decode cX1_add 60 = .ok (.iadd, 1) := by decide +kernel
theorem dX1_add_61 : decode cX1_add 61 = .ok (.iconst (-1), 1) := by decide +kernel
theorem dX1_add_62 : decode cX1_add 62 = .ok (.iastore, 1) := by decide +kernel
theorem dX1_add_63 : decode cX1_add 63 = .ok (.aload_n 0, 1) := by decide +kernel
theorem dX1_add_64 : decode cX1_add 64 = .ok (.dup, 1) := by decide +kernel
theorem dX1_add_65 : decode cX1_add 65 = .ok (.getfield 30, 3) := by decide +kernel
theorem dX1_add_68 : decode cX1_add 68 = .ok (.iconst 1, 1) := by decide +kernel
theorem dX1_add_69 : decode cX1_add 69 = .ok (.iadd, 1) := by decide +kernel
theorem dX1_add_70 : decode cX1_add 70 = .ok (.putfield 30, 3) := by decide +kernel
theorem dX1_add_73 : decode cX1_add 73 = .ok (.aload_n 0, 1) := by decide +kernel
theorem dX1_add_74 : decode cX1_add 74 = .ok (.getfield 30, 3) := by decide +kernel
theorem dX1_add_77 : decode cX1_add 77 = .ok (.iconst 1, 1) := by decide +kernel
theorem dX1_add_78 : decode cX1_add 78 = .ok (.isub, 1) := by decide +kernel
theorem dX1_add_79 : decode cX1_add 79 = .ok (.ireturn, 1) := by decide +kernel
theorem dX1_has_0 : decode cX1_has 0 = .ok (.iload_n 1, 1) := by decide +kernel
theorem dX1_has_1 : decode cX1_has 1 = .ok (.ifCond .lt 15, 3) := by decide +kernel
theorem dX1_has_4 : decode cX1_has 4 = .ok (.iload_n 1, 1) := by decide +kernel
theorem dX1_has_5 : decode cX1_has 5 = .ok (.aload_n 0, 1) := by decide +kernel
theorem dX1_has_6 : decode cX1_has 6 = .ok (.getfield 30, 3) := by decide +kernel
theorem dX1_has_9 : decode cX1_has 9 = .ok (.if_icmp .ge 7, 3) := by decide +kernel
theorem dX1_has_12 : decode cX1_has 12 = .ok (.iconst 1, 1) := by decide +kernel
theorem dX1_has_13 : decode cX1_has 13 = .ok (.goto 4, 3) := by decide +kernel
theorem dX1_has_16 : decode cX1_has 16 = .ok (.iconst 0, 1) := by decide +kernel
theorem dX1_has_17 : decode cX1_has 17 = .ok (.ireturn, 1) := by decide +kernel
set_option maxRecDepth 20000 in
theorem ggX1_hasSide_X1_has : GoodIn wsX1_hasSide wsX1_has := goodIn_r _ [5, 6, 10, 11, 12, 13, 14, 15, 16] (by decide +kernel) (by decide +kernel)
set_option maxRecDepth 20000 in
theorem gX1_hasSide_X1_has : GoodIn wsX1_hasSide (wsV RX1 34 RX1 yX1_has wsX1_has) := goodIn_app (goodIn_of _ (by decide +kernel)) ggX1_hasSide_X1_has
set_option maxRecDepth 20000 in
theorem ggX1_hasSide_X5_isWithin : GoodIn wsX1_hasSide wsX5_isWithin := goodIn_r _ [9] (by decide +kernel) (by decide +kernel)
set_option maxRecDepth 20000 in
theorem gX1_hasSide_X5_isWithin_n38 : GoodIn wsX1_hasSide (wsX5_isWithin) := ggX1_hasSide_X5_isWithin
theorem dX1_hasSide_0 : decode cX1_hasSide 0 = .ok (.aload_n 0, 1) := by decide +kernel
theorem dX1_hasSide_1 : decode cX1_hasSide 1 = .ok (.iload_n 1, 1) := by decide +kernel
theorem dX1_hasSide_2 : decode cX1_hasSide 2 = .ok (.invokevirtual 34, 3) := by decide +kernel
theorem dX1_hasSide_5 : decode cX1_hasSide 5 = .ok (.ifCond .eq 15, 3) := by decide +kernel
theorem dX1_hasSide_8 : decode cX1_hasSide 8 = .ok (.iload_n 2, 1) := by decide +kernel
theorem dX1_hasSide_9 : decode cX1_hasSide 9 = .ok (.iconst 1, 1) := by decide +kernel
theorem dX1_hasSide_10 : decode cX1_hasSide 10 = .ok (.invokestatic 38, 3) := by decide +kernel
theorem dX1_hasSide_13 : decode cX1_hasSide 13 = .ok (.ifCond .eq 7, 3) := by decide +kernel
theorem dX1_hasSide_16 : decode cX1_hasSide 16 = .ok (.iconst 1, 1) := by decide +kernel
theorem dX1_hasSide_17 : decode cX1_hasSide 17 = .ok (.goto 4, 3) := by decide +kernel
theorem dX1_hasSide_20 : decode cX1_hasSide 20 = .ok (.iconst 0, 1) := by decide +kernel
theorem dX1_hasSide_21 : decode cX1_hasSide 21 = .ok (.ireturn, 1) := by decide +kernel
theorem dX1_stainsApart_0 : decode cX1_stainsApart 0 = .ok (.iconst 0, 1) := by decide +kernel
theorem dX1_stainsApart_1 : decode cX1_stainsApart 1 = .ok (.istore_n 3, 1) := by decide +kernel
theorem dX1_stainsApart_2 : decode cX1_stainsApart 2 = .ok (.iconst 0, 1) := by decide +kernel
theorem dX1_stainsApart_3 : decode cX1_stainsApart 3 = .ok (.istore 4, 2) := by decide +kernel
theorem dX1_stainsApart_5 : decode cX1_stainsApart 5 = .ok (.iload 4, 2) := by decide +kernel
theorem dX1_stainsApart_7 : decode cX1_stainsApart 7 = .ok (.iconst 3, 1) := by decide +kernel
theorem dX1_stainsApart_8 : decode cX1_stainsApart 8 = .ok (.if_icmp .ge 38, 3) := by decide +kernel
theorem dX1_stainsApart_11 : decode cX1_stainsApart 11 = .ok (.iload_n 3, 1) := by decide +kernel
theorem dX1_stainsApart_12 : decode cX1_stainsApart 12 = .ok (.aload_n 0, 1) := by decide +kernel
theorem dX1_stainsApart_13 : decode cX1_stainsApart 13 = .ok (.getfield 27, 3) := by decide +kernel
theorem dX1_stainsApart_16 : decode cX1_stainsApart 16 = .ok (.iconst 3, 1) := by decide +kernel
theorem dX1_stainsApart_17 : decode cX1_stainsApart 17 = .ok (.iload_n 1, 1) := by decide +kernel
theorem dX1_stainsApart_18 : decode cX1_stainsApart 18 = .ok (.imul, 1) := by decide +kernel
theorem dX1_stainsApart_19 : decode cX1_stainsApart 19 = .ok (.iload 4, 2) := by decide +kernel
theorem dX1_stainsApart_21 : decode cX1_stainsApart 21 = .ok (.iadd, 1) := by decide +kernel
theorem dX1_stainsApart_22 : decode cX1_stainsApart 22 = .ok (.iaload, 1) := by decide +kernel
theorem dX1_stainsApart_23 : decode cX1_stainsApart 23 = .ok (.aload_n 0, 1) := by decide +kernel
theorem dX1_stainsApart_24 : decode cX1_stainsApart 24 = .ok (.getfield 27, 3) := by decide +kernel
theorem dX1_stainsApart_27 : decode cX1_stainsApart 27 = .ok (.iconst 3, 1) := by decide +kernel
theorem dX1_stainsApart_28 : decode cX1_stainsApart 28 = .ok (.iload_n 2, 1) := by decide +kernel
theorem dX1_stainsApart_29 : decode cX1_stainsApart 29 = .ok (.imul, 1) := by decide +kernel
theorem dX1_stainsApart_30 : decode cX1_stainsApart 30 = .ok (.iload 4, 2) := by decide +kernel
theorem dX1_stainsApart_32 : decode cX1_stainsApart 32 = .ok (.iadd, 1) := by decide +kernel
theorem dX1_stainsApart_33 : decode cX1_stainsApart 33 = .ok (.iaload, 1) := by decide +kernel
theorem dX1_stainsApart_34 : decode cX1_stainsApart 34 = .ok (.isub, 1) := by decide +kernel
theorem dX1_stainsApart_35 : decode cX1_stainsApart 35 = .ok (.invokestatic 42, 3) := by decide +kernel
theorem dX1_stainsApart_38 : decode cX1_stainsApart 38 = .ok (.iadd, 1) := by decide +kernel
theorem dX1_stainsApart_39 : decode cX1_stainsApart 39 = .ok (.istore_n 3, 1) := by decide +kernel
theorem dX1_stainsApart_40 : decode cX1_stainsApart 40 = .ok (.iinc 4 1, 3) := by decide +kernel
theorem dX1_stainsApart_43 : decode cX1_stainsApart 43 = .ok (.goto (-38), 3) := by decide +kernel
theorem dX1_stainsApart_46 : decode cX1_stainsApart 46 = .ok (.iload_n 3, 1) := by decide +kernel
theorem dX1_stainsApart_47 : decode cX1_stainsApart 47 = .ok (.ireturn, 1) := by decide +kernel
theorem dX2_init_0 : decode cX2_init 0 = .ok (.aload_n 0, 1) := by decide +kernel
theorem dX2_init_1 : decode cX2_init 1 = .ok (.invokespecial 3, 3) := by decide +kernel
theorem dX2_init_4 : decode cX2_init 4 = .ok (.aload_n 0, 1) := by decide +kernel
theorem dX2_init_5 : decode cX2_init 5 = .ok (.bipush 9, 2) := by decide +kernel
theorem dX2_init_7 : decode cX2_init 7 = .ok (.newarray .int, 2) := by decide +kernel
theorem dX2_init_9 : decode cX2_init 9 = .ok (.putfield 9, 3) := by decide +kernel
theorem dX2_init_12 : decode cX2_init 12 = .ok (.aload_n 0, 1) := by decide +kernel
theorem dX2_init_13 : decode cX2_init 13 = .ok (.bipush 9, 2) := by decide +kernel
theorem dX2_init_15 : decode cX2_init 15 = .ok (.newarray .int, 2) := by decide +kernel
theorem dX2_init_17 : decode cX2_init 17 = .ok (.putfield 15, 3) := by decide +kernel
theorem dX2_init_20 : decode cX2_init 20 = .ok (.aload_n 0, 1) := by decide +kernel
theorem dX2_init_21 : decode cX2_init 21 = .ok (.bipush 9, 2) := by decide +kernel
theorem dX2_init_23 : decode cX2_init 23 = .ok (.newarray .int, 2) := by decide +kernel
theorem dX2_init_25 : decode cX2_init 25 = .ok (.putfield 18, 3) := by decide +kernel
theorem dX2_init_28 : decode cX2_init 28 = .ok (.return_, 1) := by decide +kernel
set_option maxRecDepth 20000 in
theorem ggX2_putAhead_X2_withBit : GoodIn wsX2_putAhead wsX2_withBit := goodIn_r _ [5] (by decide +kernel) (by decide +kernel)
set_option maxRecDepth 20000 in
theorem gX2_putAhead_X2_withBit : GoodIn wsX2_putAhead (va_wsS RX2 21 yX2_withBit wsX2_withBit) := goodIn_app (goodIn_of _ (by decide +kernel)) ggX2_putAhead_X2_withBit
theorem dX2_putAhead_0 : decode cX2_putAhead 0 = .ok (.aload_n 0, 1) := by decide +kernel
theorem dX2_putAhead_1 : decode cX2_putAhead 1 = .ok (.getfield 9, 3) := by decide +kernel
theorem dX2_putAhead_4 : decode cX2_putAhead 4 = .ok (.iload_n 1, 1) := by decide +kernel
theorem dX2_putAhead_5 : decode cX2_putAhead 5 = .ok (.aload_n 0, 1) := by decide +kernel
theorem dX2_putAhead_6 : decode cX2_putAhead 6 = .ok (.getfield 9, 3) := by decide +kernel
theorem dX2_putAhead_9 : decode cX2_putAhead 9 = .ok (.iload_n 1, 1) := by decide +kernel
theorem dX2_putAhead_10 : decode cX2_putAhead 10 = .ok (.iaload, 1) := by decide +kernel
theorem dX2_putAhead_11 : decode cX2_putAhead 11 = .ok (.iload_n 2, 1) := by decide +kernel
theorem dX2_putAhead_12 : decode cX2_putAhead 12 = .ok (.iload_n 3, 1) := by decide +kernel
theorem dX2_putAhead_13 : decode cX2_putAhead 13 = .ok (.invokestatic 21, 3) := by decide +kernel
theorem dX2_putAhead_16 : decode cX2_putAhead 16 = .ok (.iastore, 1) := by decide +kernel
theorem dX2_putAhead_17 : decode cX2_putAhead 17 = .ok (.return_, 1) := by decide +kernel
set_option maxRecDepth 20000 in
theorem ggX2_putJoined_X2_withBit : GoodIn wsX2_putJoined wsX2_withBit := goodIn_r _ [6] (by decide +kernel) (by decide +kernel)
set_option maxRecDepth 20000 in
theorem gX2_putJoined_X2_withBit : GoodIn wsX2_putJoined (va_wsS RX2 21 yX2_withBit wsX2_withBit) := goodIn_app (goodIn_of _ (by decide +kernel)) ggX2_putJoined_X2_withBit
theorem dX2_putJoined_0 : decode cX2_putJoined 0 = .ok (.aload_n 0, 1) := by decide +kernel
theorem dX2_putJoined_1 : decode cX2_putJoined 1 = .ok (.getfield 15, 3) := by decide +kernel
theorem dX2_putJoined_4 : decode cX2_putJoined 4 = .ok (.iload_n 1, 1) := by decide +kernel
theorem dX2_putJoined_5 : decode cX2_putJoined 5 = .ok (.aload_n 0, 1) := by decide +kernel
theorem dX2_putJoined_6 : decode cX2_putJoined 6 = .ok (.getfield 15, 3) := by decide +kernel
theorem dX2_putJoined_9 : decode cX2_putJoined 9 = .ok (.iload_n 1, 1) := by decide +kernel
theorem dX2_putJoined_10 : decode cX2_putJoined 10 = .ok (.iaload, 1) := by decide +kernel
theorem dX2_putJoined_11 : decode cX2_putJoined 11 = .ok (.iload_n 2, 1) := by decide +kernel
theorem dX2_putJoined_12 : decode cX2_putJoined 12 = .ok (.iload_n 3, 1) := by decide +kernel
theorem dX2_putJoined_13 : decode cX2_putJoined 13 = .ok (.invokestatic 21, 3) := by decide +kernel
theorem dX2_putJoined_16 : decode cX2_putJoined 16 = .ok (.iastore, 1) := by decide +kernel
theorem dX2_putJoined_17 : decode cX2_putJoined 17 = .ok (.aload_n 0, 1) := by decide +kernel
theorem dX2_putJoined_18 : decode cX2_putJoined 18 = .ok (.getfield 18, 3) := by decide +kernel
theorem dX2_putJoined_21 : decode cX2_putJoined 21 = .ok (.iload_n 2, 1) := by decide +kernel
theorem dX2_putJoined_22 : decode cX2_putJoined 22 = .ok (.aload_n 0, 1) := by decide +kernel
theorem dX2_putJoined_23 : decode cX2_putJoined 23 = .ok (.getfield 18, 3) := by decide +kernel
theorem dX2_putJoined_26 : decode cX2_putJoined 26 = .ok (.iload_n 2, 1) := by decide +kernel
theorem dX2_putJoined_27 : decode cX2_putJoined 27 = .ok (.iaload, 1) := by decide +kernel
theorem dX2_putJoined_28 : decode cX2_putJoined 28 = .ok (.iload_n 1, 1) := by decide +kernel
theorem dX2_putJoined_29 : decode cX2_putJoined 29 = .ok (.iload_n 3, 1) := by decide +kernel
theorem dX2_putJoined_30 : decode cX2_putJoined 30 = .ok (.invokestatic 21, 3) := by decide +kernel
theorem dX2_putJoined_33 : decode cX2_putJoined 33 = .ok (.iastore, 1) := by decide +kernel
theorem dX2_putJoined_34 : decode cX2_putJoined 34 = .ok (.return_, 1) := by decide +kernel
theorem dX2_mayComeAfter_0 : decode cX2_mayComeAfter 0 = .ok (.aload_n 0, 1) := by decide +kernel
theorem dX2_mayComeAfter_1 : decode cX2_mayComeAfter 1 = .ok (.getfield 9, 3) := by decide +kernel
theorem dX2_mayComeAfter_4 : decode cX2_mayComeAfter 4 = .ok (.iload_n 1, 1) := by decide +kernel
theorem dX2_mayComeAfter_5 : decode cX2_mayComeAfter 5 = .ok (.iaload, 1) := by decide +kernel
theorem dX2_mayComeAfter_6 : decode cX2_mayComeAfter 6 = .ok (.aload_n 0, 1) := by decide +kernel
theorem dX2_mayComeAfter_7 : decode cX2_mayComeAfter 7 = .ok (.getfield 15, 3) := by decide +kernel
theorem dX2_mayComeAfter_10 : decode cX2_mayComeAfter 10 = .ok (.iload_n 1, 1) := by decide +kernel
theorem dX2_mayComeAfter_11 : decode cX2_mayComeAfter 11 = .ok (.iaload, 1) := by decide +kernel
theorem dX2_mayComeAfter_12 : decode cX2_mayComeAfter 12 = .ok (.ior, 1) := by decide +kernel
theorem dX2_mayComeAfter_13 : decode cX2_mayComeAfter 13 = .ok (.iload_n 2, 1) := by decide +kernel
theorem dX2_mayComeAfter_14 : decode cX2_mayComeAfter 14 = .ok (.iand, 1) := by decide +kernel
theorem dX2_mayComeAfter_15 : decode cX2_mayComeAfter 15 = .ok (.ifCond .ne 7, 3) := by decide +kernel
theorem dX2_mayComeAfter_18 : decode cX2_mayComeAfter 18 = .ok (.iconst 1, 1) := by decide +kernel
theorem dX2_mayComeAfter_19 : decode cX2_mayComeAfter 19 = .ok (.goto 4, 3) := by decide +kernel
theorem dX2_mayComeAfter_22 : decode cX2_mayComeAfter 22 = .ok (.iconst 0, 1) := by decide +kernel
theorem dX2_mayComeAfter_23 : decode cX2_mayComeAfter 23 = .ok (.ireturn, 1) := by decide +kernel
set_option maxRecDepth 20000 in
theorem ggX2_neighboursOf_J6_bitCount_0f7a4 : GoodIn wsX2_neighboursOf wsJ6_bitCount_0f7a4 := goodIn_r _ [5, 6, 7, 8] (by decide +kernel) (by decide +kernel)
set_option maxRecDepth 20000 in
theorem gX2_neighboursOf_J6_bitCount_0f7a4 : GoodIn wsX2_neighboursOf (va_wsS RX2 25 yJ6_bitCount_0f7a4 wsJ6_bitCount_0f7a4) := goodIn_app (goodIn_of _ (by decide +kernel)) ggX2_neighboursOf_J6_bitCount_0f7a4
theorem dX2_neighboursOf_0 : decode cX2_neighboursOf 0 = .ok (.aload_n 0, 1) := by decide +kernel
theorem dX2_neighboursOf_1 : decode cX2_neighboursOf 1 = .ok (.getfield 18, 3) := by decide +kernel
theorem dX2_neighboursOf_4 : decode cX2_neighboursOf 4 = .ok (.iload_n 1, 1) := by decide +kernel
theorem dX2_neighboursOf_5 : decode cX2_neighboursOf 5 = .ok (.iaload, 1) := by decide +kernel
theorem dX2_neighboursOf_6 : decode cX2_neighboursOf 6 = .ok (.iload_n 2, 1) := by decide +kernel
theorem dX2_neighboursOf_7 : decode cX2_neighboursOf 7 = .ok (.iand, 1) := by decide +kernel
theorem dX2_neighboursOf_8 : decode cX2_neighboursOf 8 = .ok (.istore_n 3, 1) := by decide +kernel
theorem dX2_neighboursOf_9 : decode cX2_neighboursOf 9 = .ok (.iload_n 3, 1) := by decide +kernel
theorem dX2_neighboursOf_10 : decode cX2_neighboursOf 10 = .ok (.ifCond .ne 5, 3) := by decide +kernel
theorem dX2_neighboursOf_13 : decode cX2_neighboursOf 13 = .ok (.iload_n 2, 1) := by decide +kernel
theorem dX2_neighboursOf_14 : decode cX2_neighboursOf 14 = .ok (.ireturn, 1) := by decide +kernel
theorem dX2_neighboursOf_15 : decode cX2_neighboursOf 15 = .ok (.iload_n 3, 1) := by decide +kernel
theorem dX2_neighboursOf_16 : decode cX2_neighboursOf 16 = .ok (.invokestatic 25, 3) := by decide +kernel
theorem dX2_neighboursOf_19 : decode cX2_neighboursOf 19 = .ok (.iconst 1, 1) := by decide +kernel
theorem dX2_neighboursOf_20 : decode cX2_neighboursOf 20 = .ok (.if_icmp .ne 7, 3) := by decide +kernel
theorem dX2_neighboursOf_23 : decode cX2_neighboursOf 23 = .ok (.iload_n 3, 1) := by decide +kernel
theorem dX2_neighboursOf_24 : decode cX2_neighboursOf 24 = .ok (.goto 4, 3) := by decide +kernel
theorem dX2_neighboursOf_27 : decode cX2_neighboursOf 27 = .ok (.iconst 0, 1) := by decide +kernel
theorem dX2_neighboursOf_28 : decode cX2_neighboursOf 28 = .ok (.ireturn, 1) := by decide +kernel
theorem dX2_withBit_0 : decode cX2_withBit 0 = .ok (.iload_n 2, 1) := by decide +kernel
theorem dX2_withBit_1 : decode cX2_withBit 1 = .ok (.ifCond .eq 11, 3) := by decide +kernel
theorem dX2_withBit_4 : decode cX2_withBit 4 = .ok (.iload_n 0, 1) := by decide +kernel
theorem dX2_withBit_5 : decode cX2_withBit 5 = .ok (.iconst 1, 1) := by decide +kernel
theorem dX2_withBit_6 : decode cX2_withBit 6 = .ok (.iload_n 1, 1) := by decide +kernel
theorem dX2_withBit_7 : decode cX2_withBit 7 = .ok (.ishl, 1) := by decide +kernel
theorem dX2_withBit_8 : decode cX2_withBit 8 = .ok (.ior, 1) := by decide +kernel
theorem dX2_withBit_9 : decode cX2_withBit 9 = .ok (.goto 10, 3) := by decide +kernel
theorem dX2_withBit_12 : decode cX2_withBit 12 = .ok (.iload_n 0, 1) := by decide +kernel
theorem dX2_withBit_13 : decode cX2_withBit 13 = .ok (.iconst 1, 1) := by decide +kernel
theorem dX2_withBit_14 : decode cX2_withBit 14 = .ok (.iload_n 1, 1) := by decide +kernel
theorem dX2_withBit_15 : decode cX2_withBit 15 = .ok (.ishl, 1) := by decide +kernel
theorem dX2_withBit_16 : decode cX2_withBit 16 = .ok (.iconst (-1), 1) := by decide +kernel
theorem dX2_withBit_17 : decode cX2_withBit 17 = .ok (.ixor, 1) := by decide +kernel
theorem dX2_withBit_18 : decode cX2_withBit 18 = .ok (.iand, 1) := by decide +kernel
theorem dX2_withBit_19 : decode cX2_withBit 19 = .ok (.ireturn, 1) := by decide +kernel
theorem dX3_init_0 : decode cX3_init 0 = .ok (.aload_n 0, 1) := by decide +kernel
theorem dX3_init_1 : decode cX3_init 1 = .ok (.invokespecial 3, 3) := by decide +kernel
theorem dX3_init_4 : decode cX3_init 4 = .ok (.aload_n 0, 1) := by decide +kernel
theorem dX3_init_5 : decode cX3_init 5 = .ok (.bipush 6, 2) := by decide +kernel
theorem dX3_init_7 : decode cX3_init 7 = .ok (.newarray .int, 2) := by decide +kernel
theorem dX3_init_9 : decode cX3_init 9 = .ok (.dup, 1) := by decide +kernel
theorem dX3_init_10 : decode cX3_init 10 = .ok (.iconst 0, 1) := by decide +kernel
theorem dX3_init_11 : decode cX3_init 11 = .ok (.iconst 1, 1) := by decide +kernel
theorem dX3_init_12 : decode cX3_init 12 = .ok (.iastore, 1) := by decide +kernel
theorem dX3_init_13 : decode cX3_init 13 = .ok (.dup, 1) := by decide +kernel
theorem dX3_init_14 : decode cX3_init 14 = .ok (.iconst 1, 1) := by decide +kernel
theorem dX3_init_15 : decode cX3_init 15 = .ok (.iconst 0, 1) := by decide +kernel
theorem dX3_init_16 : decode cX3_init 16 = .ok (.iastore, 1) := by decide +kernel
theorem dX3_init_17 : decode cX3_init 17 = .ok (.dup, 1) := by decide +kernel
theorem dX3_init_18 : decode cX3_init 18 = .ok (.iconst 2, 1) := by decide +kernel
theorem dX3_init_19 : decode cX3_init 19 = .ok (.bipush 20, 2) := by decide +kernel
theorem dX3_init_21 : decode cX3_init 21 = .ok (.iastore, 1) := by decide +kernel
theorem dX3_init_22 : decode cX3_init 22 = .ok (.dup, 1) := by decide +kernel
theorem dX3_init_23 : decode cX3_init 23 = .ok (.iconst 3, 1) := by decide +kernel
theorem dX3_init_24 : decode cX3_init 24 = .ok (.bipush 10, 2) := by decide +kernel
theorem dX3_init_26 : decode cX3_init 26 = .ok (.iastore, 1) := by decide +kernel
theorem dX3_init_27 : decode cX3_init 27 = .ok (.dup, 1) := by decide +kernel
theorem dX3_init_28 : decode cX3_init 28 = .ok (.iconst 4, 1) := by decide +kernel
theorem dX3_init_29 : decode cX3_init 29 = .ok (.bipush 30, 2) := by decide +kernel
theorem dX3_init_31 : decode cX3_init 31 = .ok (.iastore, 1) := by decide +kernel
theorem dX3_init_32 : decode cX3_init 32 = .ok (.dup, 1) := by decide +kernel
theorem dX3_init_33 : decode cX3_init 33 = .ok (.iconst 5, 1) := by decide +kernel
theorem dX3_init_34 : decode cX3_init 34 = .ok (.iconst 0, 1) := by decide +kernel
theorem dX3_init_35 : decode cX3_init 35 = .ok (.iastore, 1) := by decide +kernel
theorem dX3_init_36 : decode cX3_init 36 = .ok (.putfield 9, 3) := by decide +kernel
theorem dX3_init_39 : decode cX3_init 39 = .ok (.aload_n 0, 1) := by decide +kernel
theorem dX3_init_40 : decode cX3_init 40 = .ok (.aload_n 1, 1) := by decide +kernel
theorem dX3_init_41 : decode cX3_init 41 = .ok (.putfield 15, 3) := by decide +kernel
theorem dX3_init_44 : decode cX3_init 44 = .ok (.return_, 1) := by decide +kernel
set_option maxRecDepth 20000 in
theorem ggX3_joinCost_X3_fullCost : GoodIn wsX3_joinCost wsX3_fullCost := goodIn_r _ [6, 7, 8, 9, 1, 10, 11, 12, 13, 14, 15, 16, 17, 18, 19, 20, 21, 22, 23, 28, 29, 30, 31, 32, 33, 34, 35, 36] (by decide +kernel) (by decide +kernel)
set_option maxRecDepth 20000 in
theorem gX3_joinCost_X3_fullCost : GoodIn wsX3_joinCost (wsV RX3 19 RX3 yX3_fullCost wsX3_fullCost) := goodIn_app (goodIn_of _ (by decide +kernel)) ggX3_joinCost_X3_fullCost
set_option maxRecDepth 20000 in
theorem ggX3_joinCost_X3_isOverGap : GoodIn wsX3_joinCost wsX3_isOverGap := goodIn_r _ [27, 1, 28, 29] (by decide +kernel) (by decide +kernel)
set_option maxRecDepth 20000 in
theorem gX3_joinCost_X3_isOverGap : GoodIn wsX3_joinCost (wsV RX3 23 RX3 yX3_isOverGap wsX3_isOverGap) := goodIn_app (goodIn_of _ (by decide +kernel)) ggX3_joinCost_X3_isOverGap
theorem dX3_joinCost_0 : decode cX3_joinCost 0 = .ok (.aload_n 0, 1) := by decide +kernel
theorem dX3_joinCost_1 : decode cX3_joinCost 1 = .ok (.iload_n 1, 1) := by decide +kernel
theorem dX3_joinCost_2 : decode cX3_joinCost 2 = .ok (.iload_n 2, 1) := by decide +kernel
theorem dX3_joinCost_3 : decode cX3_joinCost 3 = .ok (.invokevirtual 19, 3) := by decide +kernel
theorem dX3_joinCost_6 : decode cX3_joinCost 6 = .ok (.istore_n 3, 1) := by decide +kernel
theorem dX3_joinCost_7 : decode cX3_joinCost 7 = .ok (.aload_n 0, 1) := by decide +kernel
theorem dX3_joinCost_8 : decode cX3_joinCost 8 = .ok (.iload_n 3, 1) := by decide +kernel
theorem dX3_joinCost_9 : decode cX3_joinCost 9 = .ok (.invokevirtual 23, 3) := by decide +kernel
theorem dX3_joinCost_12 : decode cX3_joinCost 12 = .ok (.ifCond .eq 12, 3) := by decide +kernel
theorem dX3_joinCost_15 : decode cX3_joinCost 15 = .ok (.aload_n 0, 1) := by decide +kernel
theorem dX3_joinCost_16 : decode cX3_joinCost 16 = .ok (.getfield 9, 3) := by decide +kernel
theorem dX3_joinCost_19 : decode cX3_joinCost 19 = .ok (.iconst 5, 1) := by decide +kernel
theorem dX3_joinCost_20 : decode cX3_joinCost 20 = .ok (.iaload, 1) := by decide +kernel
theorem dX3_joinCost_21 : decode cX3_joinCost 21 = .ok (.goto 4, 3) := by decide +kernel
theorem dX3_joinCost_24 : decode cX3_joinCost 24 = .ok (.iload_n 3, 1) := by decide +kernel
theorem dX3_joinCost_25 : decode cX3_joinCost 25 = .ok (.ireturn, 1) := by decide +kernel
set_option maxRecDepth 20000 in
theorem ggX3_isMissing_X3_fullCost : GoodIn wsX3_isMissing wsX3_fullCost := goodIn_r _ [5, 6, 7, 8, 9, 10, 11, 12, 13, 14, 15, 16, 17, 18, 19, 20, 21, 22, 23, 28, 29, 30, 31, 32, 33, 34, 35, 36] (by decide +kernel) (by decide +kernel)
set_option maxRecDepth 20000 in
theorem gX3_isMissing_X3_fullCost : GoodIn wsX3_isMissing (wsV RX3 19 RX3 yX3_fullCost wsX3_fullCost) := goodIn_app (goodIn_of _ (by decide +kernel)) ggX3_isMissing_X3_fullCost
set_option maxRecDepth 20000 in
theorem ggX3_isMissing_X3_isOverGap : GoodIn wsX3_isMissing wsX3_isOverGap := goodIn_r _ [27, 9, 28, 29] (by decide +kernel) (by decide +kernel)
set_option maxRecDepth 20000 in
theorem gX3_isMissing_X3_isOverGap : GoodIn wsX3_isMissing (wsV RX3 23 RX3 yX3_isOverGap wsX3_isOverGap) := goodIn_app (goodIn_of _ (by decide +kernel)) ggX3_isMissing_X3_isOverGap
theorem dX3_isMissing_0 : decode cX3_isMissing 0 = .ok (.aload_n 0, 1) := by decide +kernel
theorem dX3_isMissing_1 : decode cX3_isMissing 1 = .ok (.aload_n 0, 1) := by decide +kernel
theorem dX3_isMissing_2 : decode cX3_isMissing 2 = .ok (.iload_n 1, 1) := by decide +kernel
theorem dX3_isMissing_3 : decode cX3_isMissing 3 = .ok (.iload_n 2, 1) := by decide +kernel
theorem dX3_isMissing_4 : decode cX3_isMissing 4 = .ok (.invokevirtual 19, 3) := by decide +kernel
theorem dX3_isMissing_7 : decode cX3_isMissing 7 = .ok (.invokevirtual 23, 3) := by decide +kernel
theorem dX3_isMissing_10 : decode cX3_isMissing 10 = .ok (.ireturn, 1) := by decide +kernel
theorem dX3_isOverGap_0 : decode cX3_isOverGap 0 = .ok (.aload_n 0, 1) := by decide +kernel
theorem dX3_isOverGap_1 : decode cX3_isOverGap 1 = .ok (.getfield 9, 3) := by decide +kernel
theorem dX3_isOverGap_4 : decode cX3_isOverGap 4 = .ok (.iconst 5, 1) := by decide +kernel
theorem dX3_isOverGap_5 : decode cX3_isOverGap 5 = .ok (.iaload, 1) := by decide +kernel
theorem dX3_isOverGap_6 : decode cX3_isOverGap 6 = .ok (.ifCond .le 17, 3) := by decide +kernel
theorem dX3_isOverGap_9 : decode cX3_isOverGap 9 = .ok (.iload_n 1, 1) := by decide +kernel
theorem dX3_isOverGap_10 : decode cX3_isOverGap 10 = .ok (.aload_n 0, 1) := by decide +kernel
theorem dX3_isOverGap_11 : decode cX3_isOverGap 11 = .ok (.getfield 9, 3) := by decide +kernel
theorem dX3_isOverGap_14 : decode cX3_isOverGap 14 = .ok (.iconst 5, 1) := by decide +kernel
theorem dX3_isOverGap_15 : decode cX3_isOverGap 15 = .ok (.iaload, 1) := by decide +kernel
theorem dX3_isOverGap_16 : decode cX3_isOverGap 16 = .ok (.if_icmp .le 7, 3) := by decide +kernel
theorem dX3_isOverGap_19 : decode cX3_isOverGap 19 = .ok (.iconst 1, 1) := by decide +kernel
theorem dX3_isOverGap_20 : decode cX3_isOverGap 20 = .ok (.goto 4, 3) := by decide +kernel
theorem dX3_isOverGap_23 : decode cX3_isOverGap 23 = .ok (.iconst 0, 1) := by decide +kernel
theorem dX3_isOverGap_24 : decode cX3_isOverGap 24 = .ok (.ireturn, 1) := by decide +kernel
set_option maxRecDepth 20000 in
theorem ggX3_fullCost_X1_stainsApart : GoodIn wsX3_fullCost wsX1_stainsApart := goodIn_r _ [16, 17, 18, 7, 8, 9, 21, 22, 23, 24, 25, 26, 27] (by decide +kernel) (by decide +kernel)
set_option maxRecDepth 20000 in
theorem gX3_fullCost_X1_stainsApart : GoodIn wsX3_fullCost (wsV RX3 50 RX1 yX1_stainsApart wsX1_stainsApart) := goodIn_app (goodIn_of _ (by decide +kernel)) ggX3_fullCost_X1_stainsApart
theorem dX3_fullCost_0 : decode cX3_fullCost 0 = .ok (.iload_n 1, 1) := by decide +kernel
theorem dX3_fullCost_1 : decode cX3_fullCost 1 = .ok (.iconst 1, 1) := by decide +kernel
theorem dX3_fullCost_2 : decode cX3_fullCost 2 = .ok (.ixor, 1) := by decide +kernel
theorem dX3_fullCost_3 : decode cX3_fullCost 3 = .ok (.istore_n 3, 1) := by decide +kernel
theorem dX3_fullCost_4 : decode cX3_fullCost 4 = .ok (.iload_n 2, 1) := by decide +kernel
theorem dX3_fullCost_5 : decode cX3_fullCost 5 = .ok (.istore 4, 2) := by decide +kernel
theorem dX3_fullCost_7 : decode cX3_fullCost 7 = .ok (.aload_n 0, 1) := by decide +kernel
theorem dX3_fullCost_8 : decode cX3_fullCost 8 = .ok (.getfield 15, 3) := by decide +kernel
theorem dX3_fullCost_11 : decode cX3_fullCost 11 = .ok (.getfield 27, 3) := by decide +kernel
theorem dX3_fullCost_14 : decode cX3_fullCost 14 = .ok (.iload 4, 2) := by decide +kernel
theorem dX3_fullCost_16 : decode cX3_fullCost 16 = .ok (.iaload, 1) := by decide +kernel
theorem dX3_fullCost_17 : decode cX3_fullCost 17 = .ok (.istore 5, 2) := by decide +kernel
theorem dX3_fullCost_19 : decode cX3_fullCost 19 = .ok (.aload_n 0, 1) := by decide +kernel
theorem dX3_fullCost_20 : decode cX3_fullCost 20 = .ok (.getfield 15, 3) := by decide +kernel
theorem dX3_fullCost_23 : decode cX3_fullCost 23 = .ok (.getfield 32, 3) := by decide +kernel
theorem dX3_fullCost_26 : decode cX3_fullCost 26 = .ok (.iload_n 3, 1) := by decide +kernel
theorem dX3_fullCost_27 : decode cX3_fullCost 27 = .ok (.iaload, 1) := by decide +kernel
theorem dX3_fullCost_28 : decode cX3_fullCost 28 = .ok (.istore 6, 2) := by decide +kernel
theorem dX3_fullCost_30 : decode cX3_fullCost 30 = .ok (.aload_n 0, 1) := by decide +kernel
theorem dX3_fullCost_31 : decode cX3_fullCost 31 = .ok (.getfield 9, 3) := by decide +kernel
theorem dX3_fullCost_34 : decode cX3_fullCost 34 = .ok (.iconst 0, 1) := by decide +kernel
theorem dX3_fullCost_35 : decode cX3_fullCost 35 = .ok (.iaload, 1) := by decide +kernel
theorem dX3_fullCost_36 : decode cX3_fullCost 36 = .ok (.iload 5, 2) := by decide +kernel
theorem dX3_fullCost_38 : decode cX3_fullCost 38 = .ok (.aload_n 0, 1) := by decide +kernel
theorem dX3_fullCost_39 : decode cX3_fullCost 39 = .ok (.getfield 15, 3) := by decide +kernel
theorem dX3_fullCost_42 : decode cX3_fullCost 42 = .ok (.getfield 35, 3) := by decide +kernel
theorem dX3_fullCost_45 : decode cX3_fullCost 45 = .ok (.iload_n 3, 1) := by decide +kernel
theorem dX3_fullCost_46 : decode cX3_fullCost 46 = .ok (.iaload, 1) := by decide +kernel
theorem dX3_fullCost_47 : decode cX3_fullCost 47 = .ok (.isub, 1) := by decide +kernel
theorem dX3_fullCost_48 : decode cX3_fullCost 48 = .ok (.invokestatic 38, 3) := by decide +kernel
theorem dX3_fullCost_51 : decode cX3_fullCost 51 = .ok (.imul, 1) := by decide +kernel
theorem dX3_fullCost_52 : decode cX3_fullCost 52 = .ok (.istore 7, 2) := by decide +kernel
theorem dX3_fullCost_54 : decode cX3_fullCost 54 = .ok (.iload 6, 2) := by decide +kernel
theorem dX3_fullCost_56 : decode cX3_fullCost 56 = .ok (.iconst (-1), 1) := by decide +kernel
theorem dX3_fullCost_57 : decode cX3_fullCost 57 = .ok (.if_icmp .eq 21, 3) := by decide +kernel
theorem dX3_fullCost_60 : decode cX3_fullCost 60 = .ok (.iload 6, 2) := by decide +kernel
theorem dX3_fullCost_62 : decode cX3_fullCost 62 = .ok (.iload 5, 2) := by decide +kernel
theorem dX3_fullCost_64 : decode cX3_fullCost 64 = .ok (.if_icmp .eq 14, 3) := by decide +kernel
theorem dX3_fullCost_67 : decode cX3_fullCost 67 = .ok (.iload 7, 2) := by decide +kernel
theorem dX3_fullCost_69 : decode cX3_fullCost 69 = .ok (.aload_n 0, 1) := by decide +kernel
theorem dX3_fullCost_70 : decode cX3_fullCost 70 = .ok (.getfield 9, 3) := by decide +kernel
theorem dX3_fullCost_73 : decode cX3_fullCost 73 = .ok (.iconst 2, 1) := by decide +kernel
theorem dX3_fullCost_74 : decode cX3_fullCost 74 = .ok (.iaload, 1) := by decide +kernel
theorem dX3_fullCost_75 : decode cX3_fullCost 75 = .ok (.iadd, 1) := by decide +kernel
theorem dX3_fullCost_76 : decode cX3_fullCost 76 = .ok (.istore 7, 2) := by decide +kernel
theorem dX3_fullCost_78 : decode cX3_fullCost 78 = .ok (.aload_n 0, 1) := by decide +kernel
theorem dX3_fullCost_79 : decode cX3_fullCost 79 = .ok (.getfield 15, 3) := by decide +kernel
theorem dX3_fullCost_82 : decode cX3_fullCost 82 = .ok (.getfield 44, 3) := by decide +kernel
theorem dX3_fullCost_85 : decode cX3_fullCost 85 = .ok (.iload_n 3, 1) := by decide +kernel
theorem dX3_fullCost_86 : decode cX3_fullCost 86 = .ok (.iaload, 1) := by decide +kernel
theorem dX3_fullCost_87 : decode cX3_fullCost 87 = .ok (.aload_n 0, 1) := by decide +kernel
theorem dX3_fullCost_88 : decode cX3_fullCost 88 = .ok (.getfield 15, 3) := by decide +kernel
theorem dX3_fullCost_91 : decode cX3_fullCost 91 = .ok (.getfield 47, 3) := by decide +kernel
theorem dX3_fullCost_94 : decode cX3_fullCost 94 = .ok (.iload 4, 2) := by decide +kernel
theorem dX3_fullCost_96 : decode cX3_fullCost 96 = .ok (.iaload, 1) := by decide +kernel
theorem dX3_fullCost_97 : decode cX3_fullCost 97 = .ok (.if_icmp .eq 14, 3) := by decide +kernel
theorem dX3_fullCost_100 : decode cX3_fullCost 100 = .ok (.iload 7, 2) := by decide +kernel
theorem dX3_fullCost_102 : decode cX3_fullCost 102 = .ok (.aload_n 0, 1) := by decide +kernel
theorem dX3_fullCost_103 : decode cX3_fullCost 103 = .ok (.getfield 9, 3) := by decide +kernel
theorem dX3_fullCost_106 : decode cX3_fullCost 106 = .ok (.iconst 3, 1) := by decide +kernel
theorem dX3_fullCost_107 : decode cX3_fullCost 107 = .ok (.iaload, 1) := by decide +kernel
theorem dX3_fullCost_108 : decode cX3_fullCost 108 = .ok (.iadd, 1) := by decide +kernel
theorem dX3_fullCost_109 : decode cX3_fullCost 109 = .ok (.istore 7, 2) := by decide +kernel
theorem dX3_fullCost_111 : decode cX3_fullCost 111 = .ok (.iload 7, 2) := by decide +kernel
theorem dX3_fullCost_113 : decode cX3_fullCost 113 = .ok (.aload_n 0, 1) := by decide +kernel
theorem dX3_fullCost_114 : decode cX3_fullCost 114 = .ok (.getfield 9, 3) := by decide +kernel
theorem dX3_fullCost_117 : decode cX3_fullCost 117 = .ok (.iconst 1, 1) := by decide +kernel
theorem dX3_fullCost_118 : decode cX3_fullCost 118 = .ok (.iaload, 1) := by decide +kernel
theorem dX3_fullCost_119 : decode cX3_fullCost 119 = .ok (.aload_n 0, 1) := by decide +kernel
theorem dX3_fullCost_120 : decode cX3_fullCost 120 = .ok (.getfield 15, 3) := by decide +kernel
theorem dX3_fullCost_123 : decode cX3_fullCost 123 = .ok (.iload_n 1, 1) := by decide +kernel
theorem dX3_fullCost_124 : decode cX3_fullCost 124 = .ok (.iconst 1, 1) := by decide +kernel
theorem dX3_fullCost_125 : decode cX3_fullCost 125 = .ok (.ishr, 1) := by decide +kernel
theorem dX3_fullCost_126 : decode cX3_fullCost 126 = .ok (.iload_n 2, 1) := by decide +kernel
theorem dX3_fullCost_127 : decode cX3_fullCost 127 = .ok (.iconst 1, 1) := by decide +kernel
theorem dX3_fullCost_128 : decode cX3_fullCost 128 = .ok (.ishr, 1) := by decide +kernel
theorem dX3_fullCost_129 : decode cX3_fullCost 129 = .ok (.invokevirtual 50, 3) := by decide +kernel
theorem dX3_fullCost_132 : decode cX3_fullCost 132 = .ok (.imul, 1) := by decide +kernel
theorem dX3_fullCost_133 : decode cX3_fullCost 133 = .ok (.iadd, 1) := by decide +kernel
theorem dX3_fullCost_134 : decode cX3_fullCost 134 = .ok (.ireturn, 1) := by decide +kernel
theorem dX4_init_0 : decode cX4_init 0 = .ok (.aload_n 0, 1) := by decide +kernel
theorem dX4_init_1 : decode cX4_init 1 = .ok (.invokespecial 3, 3) := by decide +kernel
theorem dX4_init_4 : decode cX4_init 4 = .ok (.aload_n 0, 1) := by decide +kernel
theorem dX4_init_5 : decode cX4_init 5 = .ok (.sipush 324, 3) := by decide +kernel
theorem dX4_init_8 : decode cX4_init 8 = .ok (.newarray .int, 2) := by decide +kernel
theorem dX4_init_10 : decode cX4_init 10 = .ok (.putfield 9, 3) := by decide +kernel
theorem dX4_init_13 : decode cX4_init 13 = .ok (.aload_n 0, 1) := by decide +kernel
theorem dX4_init_14 : decode cX4_init 14 = .ok (.sipush 9216, 3) := by decide +kernel
theorem dX4_init_17 : decode cX4_init 17 = .ok (.newarray .int, 2) := by decide +kernel
theorem dX4_init_19 : decode cX4_init 19 = .ok (.putfield 15, 3) := by decide +kernel
theorem dX4_init_22 : decode cX4_init 22 = .ok (.aload_n 0, 1) := by decide +kernel
theorem dX4_init_23 : decode cX4_init 23 = .ok (.sipush 512, 3) := by decide +kernel
theorem dX4_init_26 : decode cX4_init 26 = .ok (.newarray .int, 2) := by decide +kernel
theorem dX4_init_28 : decode cX4_init 28 = .ok (.putfield 18, 3) := by decide +kernel
theorem dX4_init_31 : decode cX4_init 31 = .ok (.aload_n 0, 1) := by decide +kernel
theorem dX4_init_32 : decode cX4_init 32 = .ok (.bipush 9, 2) := by decide +kernel
theorem dX4_init_34 : decode cX4_init 34 = .ok (.newarray .int, 2) := by decide +kernel
theorem dX4_init_36 : decode cX4_init 36 = .ok (.putfield 21, 3) := by decide +kernel
theorem dX4_init_39 : decode cX4_init 39 = .ok (.aload_n 0, 1) := by decide +kernel
theorem dX4_init_40 : decode cX4_init 40 = .ok (.aload_n 1, 1) := by decide +kernel
theorem dX4_init_41 : decode cX4_init 41 = .ok (.putfield 24, 3) := by decide +kernel
theorem dX4_init_44 : decode cX4_init 44 = .ok (.return_, 1) := by decide +kernel
set_option maxRecDepth 20000 in
theorem ggX4_prepare_X3_joinCost : GoodIn wsX4_prepare wsX3_joinCost := goodIn_r _ [12, 13, 14, 15, 16, 11, 17, 18, 19, 20, 21, 22, 23, 24, 25, 26, 27, 28, 29, 30, 31, 32, 33, 34, 35, 36, 37, 38, 39, 40, 41, 42, 43, 44, 45, 46, 47] (by decide +kernel) (by decide +kernel)
set_option maxRecDepth 20000 in
theorem gX4_prepare_X3_joinCost : GoodIn wsX4_prepare (wsV RX4 48 RX3 yX3_joinCost wsX3_joinCost) := goodIn_app (goodIn_of _ (by decide +kernel)) ggX4_prepare_X3_joinCost
theorem dX4_prepare_0 : decode cX4_prepare 0 = .ok (.aload_n 0, 1) := by decide +kernel
theorem dX4_prepare_1 : decode cX4_prepare 1 = .ok (.aload_n 1, 1) := by decide +kernel
theorem dX4_prepare_2 : decode cX4_prepare 2 = .ok (.getfield 28, 3) := by decide +kernel
theorem dX4_prepare_5 : decode cX4_prepare 5 = .ok (.getfield 34, 3) := by decide +kernel
theorem dX4_prepare_8 : decode cX4_prepare 8 = .ok (.putfield 40, 3) := by decide +kernel
theorem dX4_prepare_11 : decode cX4_prepare 11 = .ok (.aload_n 0, 1) := by decide +kernel
theorem dX4_prepare_12 : decode cX4_prepare 12 = .ok (.iload_n 2, 1) := by decide +kernel
theorem dX4_prepare_13 : decode cX4_prepare 13 = .ok (.ifCond .eq 12, 3) := by decide +kernel
theorem dX4_prepare_16 : decode cX4_prepare 16 = .ok (.aload_n 1, 1) := by decide +kernel
theorem dX4_prepare_17 : decode cX4_prepare 17 = .ok (.getfield 41, 3) := by decide +kernel
theorem dX4_prepare_20 : decode cX4_prepare 20 = .ok (.iconst 4, 1) := by decide +kernel
theorem dX4_prepare_21 : decode cX4_prepare 21 = .ok (.iaload, 1) := by decide +kernel
theorem dX4_prepare_22 : decode cX4_prepare 22 = .ok (.goto 5, 3) := by decide +kernel
theorem dX4_prepare_25 : decode cX4_prepare 25 = .ok (.ldc 44, 2) := by decide +kernel
theorem dX4_prepare_27 : decode cX4_prepare 27 = .ok (.putfield 45, 3) := by decide +kernel
theorem dX4_prepare_30 : decode cX4_prepare 30 = .ok (.iconst 0, 1) := by decide +kernel
theorem dX4_prepare_31 : decode cX4_prepare 31 = .ok (.istore_n 3, 1) := by decide +kernel
theorem dX4_prepare_32 : decode cX4_prepare 32 = .ok (.iload_n 3, 1) := by decide +kernel
theorem dX4_prepare_33 : decode cX4_prepare 33 = .ok (.iconst 2, 1) := by decide +kernel
theorem dX4_prepare_34 : decode cX4_prepare 34 = .ok (.aload_n 0, 1) := by decide +kernel
theorem dX4_prepare_35 : decode cX4_prepare 35 = .ok (.getfield 40, 3) := by decide +kernel
theorem dX4_prepare_38 : decode cX4_prepare 38 = .ok (.imul, 1) := by decide +kernel
theorem dX4_prepare_39 : decode cX4_prepare 39 = .ok (.if_icmp .ge 48, 3) := by decide +kernel
theorem dX4_prepare_42 : decode cX4_prepare 42 = .ok (.iconst 0, 1) := by decide +kernel
theorem dX4_prepare_43 : decode cX4_prepare 43 = .ok (.istore 4, 2) := by decide +kernel
theorem dX4_prepare_45 : decode cX4_prepare 45 = .ok (.iload 4, 2) := by decide +kernel
theorem dX4_prepare_47 : decode cX4_prepare 47 = .ok (.iconst 2, 1) := by decide +kernel
theorem dX4_prepare_48 : decode cX4_prepare 48 = .ok (.aload_n 0, 1) := by decide +kernel
theorem dX4_prepare_49 : decode cX4_prepare 49 = .ok (.getfield 40, 3) := by decide +kernel
theorem dX4_prepare_52 : decode cX4_prepare 52 = .ok (.imul, 1) := by decide +kernel
theorem dX4_prepare_53 : decode cX4_prepare 53 = .ok (.if_icmp .ge 28, 3) := by decide +kernel
theorem dX4_prepare_56 : decode cX4_prepare 56 = .ok (.aload_n 0, 1) := by decide +kernel
theorem dX4_prepare_57 : decode cX4_prepare 57 = .ok (.getfield 9, 3) := by decide +kernel
theorem dX4_prepare_60 : decode cX4_prepare 60 = .ok (.iload_n 3, 1) := by decide +kernel
theorem dX4_prepare_61 : decode cX4_prepare 61 = .ok (.bipush 18, 2) := by decide +kernel
theorem dX4_prepare_63 : decode cX4_prepare 63 = .ok (.imul, 1) := by decide +kernel
theorem dX4_prepare_64 : decode cX4_prepare 64 = .ok (.iload 4, 2) := by decide +kernel
theorem dX4_prepare_66 : decode cX4_prepare 66 = .ok (.iadd, 1) := by decide +kernel
theorem dX4_prepare_67 : decode cX4_prepare 67 = .ok (.aload_n 1, 1) := by decide +kernel
theorem dX4_prepare_68 : decode cX4_prepare 68 = .ok (.iload_n 3, 1) := by decide +kernel
theorem dX4_prepare_69 : decode cX4_prepare 69 = .ok (.iload 4, 2) := by decide +kernel
theorem dX4_prepare_71 : decode cX4_prepare 71 = .ok (.invokevirtual 48, 3) := by decide +kernel
theorem dX4_prepare_74 : decode cX4_prepare 74 = .ok (.iastore, 1) := by decide +kernel
theorem dX4_prepare_75 : decode cX4_prepare 75 = .ok (.iinc 4 1, 3) := by decide +kernel
theorem dX4_prepare_78 : decode cX4_prepare 78 = .ok (.goto (-33), 3) := by decide +kernel
theorem dX4_prepare_81 : decode cX4_prepare 81 = .ok (.iinc 3 1, 3) := by decide +kernel
theorem dX4_prepare_84 : decode cX4_prepare 84 = .ok (.goto (-52), 3) := by decide +kernel
theorem dX4_prepare_87 : decode cX4_prepare 87 = .ok (.return_, 1) := by decide +kernel
set_option maxRecDepth 20000 in
theorem ggX4_solve_X4_fill : GoodIn wsX4_solve wsX4_fill := goodIn_r _ [9, 10, 11, 12, 13, 14, 8, 15, 16, 17, 18, 19, 20, 21, 22, 23, 24, 25, 26, 27, 28, 29, 30, 31, 32, 3, 33, 34, 35, 36, 37, 38, 39, 40, 41, 42, 43, 44, 45, 46, 47, 48, 49, 67, 68, 69, 70, 71, 72, 73, 74, 75, 76, 77, 78] (by decide +kernel) (by decide +kernel)
set_option maxRecDepth 20000 in
theorem gX4_solve_X4_fill : GoodIn wsX4_solve (wsV RX4 52 RX4 yX4_fill wsX4_fill) := goodIn_app (goodIn_of _ (by decide +kernel)) ggX4_solve_X4_fill
set_option maxRecDepth 20000 in
theorem ggX4_solve_X4_all : GoodIn wsX4_solve wsX4_all := goodIn_r _ [15, 10, 67, 68, 69, 70, 71, 72, 73, 74, 75] (by decide +kernel) (by decide +kernel)
set_option maxRecDepth 20000 in
theorem gX4_solve_X4_all : GoodIn wsX4_solve (wsV RX4 56 RX4 yX4_all wsX4_all) := goodIn_app (goodIn_of _ (by decide +kernel)) ggX4_solve_X4_all
set_option maxRecDepth 20000 in
theorem ggX4_solve_X4_leastOf : GoodIn wsX4_solve wsX4_leastOf := goodIn_r _ [53, 3, 10, 38, 34, 35, 36, 37, 67, 68, 69, 70, 71, 72, 73, 74, 75] (by decide +kernel) (by decide +kernel)
set_option maxRecDepth 20000 in
theorem gX4_solve_X4_leastOf : GoodIn wsX4_solve (wsV RX4 60 RX4 yX4_leastOf wsX4_leastOf) := goodIn_app (goodIn_of _ (by decide +kernel)) ggX4_solve_X4_leastOf
set_option maxRecDepth 20000 in
theorem ggX4_solve_X4_trace : GoodIn wsX4_solve wsX4_trace := goodIn_r _ [57, 10, 58, 33, 12, 13, 14, 8, 15, 59, 60, 61, 62, 11, 3, 38, 4, 34, 35, 36, 37, 16, 17, 18, 19, 20, 21, 22, 23, 24, 25, 26, 27, 28, 63, 64, 65, 66, 49, 67, 68, 69, 70, 71, 72, 73, 74, 75, 76, 77, 78] (by decide +kernel) (by decide +kernel)
set_option maxRecDepth 20000 in
theorem gX4_solve_X4_trace : GoodIn wsX4_solve (wsV RX4 70 RX4 yX4_trace wsX4_trace) := goodIn_app (goodIn_of _ (by decide +kernel)) ggX4_solve_X4_trace
theorem dX4_solve_0 : decode cX4_solve 0 = .ok (.aload_n 0, 1) := by decide +kernel
theorem dX4_solve_1 : decode cX4_solve 1 = .ok (.iconst (-1), 1) := by decide +kernel
theorem dX4_solve_2 : decode cX4_solve 2 = .ok (.iconst (-1), 1) := by decide +kernel
theorem dX4_solve_3 : decode cX4_solve 3 = .ok (.invokevirtual 52, 3) := by decide +kernel
theorem dX4_solve_6 : decode cX4_solve 6 = .ok (.aload_n 0, 1) := by decide +kernel
theorem dX4_solve_7 : decode cX4_solve 7 = .ok (.getfield 18, 3) := by decide +kernel
theorem dX4_solve_10 : decode cX4_solve 10 = .ok (.iconst 0, 1) := by decide +kernel
theorem dX4_solve_11 : decode cX4_solve 11 = .ok (.iconst 0, 1) := by decide +kernel
theorem dX4_solve_12 : decode cX4_solve 12 = .ok (.iastore, 1) := by decide +kernel
theorem dX4_solve_13 : decode cX4_solve 13 = .ok (.iconst 1, 1) := by decide +kernel
theorem dX4_solve_14 : decode cX4_solve 14 = .ok (.istore_n 1, 1) := by decide +kernel
theorem dX4_solve_15 : decode cX4_solve 15 = .ok (.iload_n 1, 1) := by decide +kernel
theorem dX4_solve_16 : decode cX4_solve 16 = .ok (.aload_n 0, 1) := by decide +kernel
theorem dX4_solve_17 : decode cX4_solve 17 = .ok (.invokevirtual 56, 3) := by decide +kernel
theorem dX4_solve_20 : decode cX4_solve 20 = .ok (.if_icmp .gt 20, 3) := by decide +kernel
theorem dX4_solve_23 : decode cX4_solve 23 = .ok (.aload_n 0, 1) := by decide +kernel
theorem dX4_solve_24 : decode cX4_solve 24 = .ok (.getfield 18, 3) := by decide +kernel
theorem dX4_solve_27 : decode cX4_solve 27 = .ok (.iload_n 1, 1) := by decide +kernel
theorem dX4_solve_28 : decode cX4_solve 28 = .ok (.aload_n 0, 1) := by decide +kernel
theorem dX4_solve_29 : decode cX4_solve 29 = .ok (.iload_n 1, 1) := by decide +kernel
theorem dX4_solve_30 : decode cX4_solve 30 = .ok (.invokevirtual 60, 3) := by decide +kernel
theorem dX4_solve_33 : decode cX4_solve 33 = .ok (.iastore, 1) := by decide +kernel
theorem dX4_solve_34 : decode cX4_solve 34 = .ok (.iinc 1 1, 3) := by decide +kernel
theorem dX4_solve_37 : decode cX4_solve 37 = .ok (.goto (-22), 3) := by decide +kernel
theorem dX4_solve_40 : decode cX4_solve 40 = .ok (.aload_n 0, 1) := by decide +kernel
theorem dX4_solve_41 : decode cX4_solve 41 = .ok (.aload_n 0, 1) := by decide +kernel
theorem dX4_solve_42 : decode cX4_solve 42 = .ok (.getfield 18, 3) := by decide +kernel
theorem dX4_solve_45 : decode cX4_solve 45 = .ok (.aload_n 0, 1) := by decide +kernel
theorem dX4_solve_46 : decode cX4_solve 46 = .ok (.invokevirtual 56, 3) := by decide +kernel
theorem dX4_solve_49 : decode cX4_solve 49 = .ok (.iaload, 1) := by decide +kernel
theorem dX4_solve_50 : decode cX4_solve 50 = .ok (.putfield 64, 3) := by decide +kernel
theorem dX4_solve_53 : decode cX4_solve 53 = .ok (.aload_n 0, 1) := by decide +kernel
theorem dX4_solve_54 : decode cX4_solve 54 = .ok (.ldc 44, 2) := by decide +kernel
theorem dX4_solve_56 : decode cX4_solve 56 = .ok (.putfield 67, 3) := by decide +kernel
theorem dX4_solve_59 : decode cX4_solve 59 = .ok (.aload_n 0, 1) := by decide +kernel
theorem dX4_solve_60 : decode cX4_solve 60 = .ok (.getfield 64, 3) := by decide +kernel
theorem dX4_solve_63 : decode cX4_solve 63 = .ok (.ldc 44, 2) := by decide +kernel
theorem dX4_solve_65 : decode cX4_solve 65 = .ok (.if_icmp .ge 7, 3) := by decide +kernel
theorem dX4_solve_68 : decode cX4_solve 68 = .ok (.aload_n 0, 1) := by decide +kernel
theorem dX4_solve_69 : decode cX4_solve 69 = .ok (.invokevirtual 70, 3) := by decide +kernel
theorem dX4_solve_72 : decode cX4_solve 72 = .ok (.return_, 1) := by decide +kernel
set_option maxRecDepth 20000 in
theorem ggX4_isSure_X4_isInBest : GoodIn wsX4_isSure wsX4_isInBest := goodIn_r _ [7, 8, 9, 58, 59, 60, 61, 62, 63, 64, 65, 66] (by decide +kernel) (by decide +kernel)
set_option maxRecDepth 20000 in
theorem gX4_isSure_X4_isInBest : GoodIn wsX4_isSure (wsV RX4 73 RX4 yX4_isInBest wsX4_isInBest) := goodIn_app (goodIn_of _ (by decide +kernel)) ggX4_isSure_X4_isInBest
set_option maxRecDepth 20000 in
theorem ggX4_isSure_X4_fill : GoodIn wsX4_isSure wsX4_fill := goodIn_r _ [13, 8, 14, 15, 16, 17, 6, 18, 19, 20, 21, 22, 23, 24, 25, 26, 27, 28, 29, 30, 31, 32, 33, 34, 35, 36, 37, 38, 39, 40, 41, 42, 43, 44, 45, 46, 47, 48, 49, 50, 51, 52, 53, 58, 59, 60, 61, 62, 63, 64, 65, 66, 67, 68, 69] (by decide +kernel) (by decide +kernel)
set_option maxRecDepth 20000 in
theorem gX4_isSure_X4_fill : GoodIn wsX4_isSure (wsV RX4 52 RX4 yX4_fill wsX4_fill) := goodIn_app (goodIn_of _ (by decide +kernel)) ggX4_isSure_X4_fill
set_option maxRecDepth 20000 in
theorem ggX4_isSure_X4_all : GoodIn wsX4_isSure wsX4_all := goodIn_r _ [18, 8, 58, 59, 60, 61, 62, 63, 64, 65, 66] (by decide +kernel) (by decide +kernel)
set_option maxRecDepth 20000 in
theorem gX4_isSure_X4_all : GoodIn wsX4_isSure (wsV RX4 56 RX4 yX4_all wsX4_all) := goodIn_app (goodIn_of _ (by decide +kernel)) ggX4_isSure_X4_all
set_option maxRecDepth 20000 in
theorem ggX4_isSure_X4_leastOf : GoodIn wsX4_isSure wsX4_leastOf := goodIn_r _ [57, 36, 8, 42, 38, 39, 40, 41, 58, 59, 60, 61, 62, 63, 64, 65, 66] (by decide +kernel) (by decide +kernel)
set_option maxRecDepth 20000 in
theorem gX4_isSure_X4_leastOf : GoodIn wsX4_isSure (wsV RX4 60 RX4 yX4_leastOf wsX4_leastOf) := goodIn_app (goodIn_of _ (by decide +kernel)) ggX4_isSure_X4_leastOf
theorem dX4_isSure_0 : decode cX4_isSure 0 = .ok (.aload_n 0, 1) := by decide +kernel
theorem dX4_isSure_1 : decode cX4_isSure 1 = .ok (.iload_n 1, 1) := by decide +kernel
theorem dX4_isSure_2 : decode cX4_isSure 2 = .ok (.iload_n 2, 1) := by decide +kernel
theorem dX4_isSure_3 : decode cX4_isSure 3 = .ok (.invokevirtual 73, 3) := by decide +kernel
theorem dX4_isSure_6 : decode cX4_isSure 6 = .ok (.ifCond .ne 5, 3) := by decide +kernel
theorem dX4_isSure_9 : decode cX4_isSure 9 = .ok (.iconst 0, 1) := by decide +kernel
theorem dX4_isSure_10 : decode cX4_isSure 10 = .ok (.ireturn, 1) := by decide +kernel
theorem dX4_isSure_11 : decode cX4_isSure 11 = .ok (.aload_n 0, 1) := by decide +kernel
theorem dX4_isSure_12 : decode cX4_isSure 12 = .ok (.getfield 67, 3) := by decide +kernel
theorem dX4_isSure_15 : decode cX4_isSure 15 = .ok (.aload_n 0, 1) := by decide +kernel
theorem dX4_isSure_16 : decode cX4_isSure 16 = .ok (.getfield 64, 3) := by decide +kernel
theorem dX4_isSure_19 : decode cX4_isSure 19 = .ok (.iload_n 3, 1) := by decide +kernel
theorem dX4_isSure_20 : decode cX4_isSure 20 = .ok (.iadd, 1) := by decide +kernel
theorem dX4_isSure_21 : decode cX4_isSure 21 = .ok (.if_icmp .le 5, 3) := by decide +kernel
theorem dX4_isSure_24 : decode cX4_isSure 24 = .ok (.iconst 1, 1) := by decide +kernel
theorem dX4_isSure_25 : decode cX4_isSure 25 = .ok (.ireturn, 1) := by decide +kernel
theorem dX4_isSure_26 : decode cX4_isSure 26 = .ok (.aload_n 0, 1) := by decide +kernel
theorem dX4_isSure_27 : decode cX4_isSure 27 = .ok (.iload_n 1, 1) := by decide +kernel
theorem dX4_isSure_28 : decode cX4_isSure 28 = .ok (.iload_n 2, 1) := by decide +kernel
theorem dX4_isSure_29 : decode cX4_isSure 29 = .ok (.invokevirtual 52, 3) := by decide +kernel
theorem dX4_isSure_32 : decode cX4_isSure 32 = .ok (.aload_n 0, 1) := by decide +kernel
theorem dX4_isSure_33 : decode cX4_isSure 33 = .ok (.aload_n 0, 1) := by decide +kernel
theorem dX4_isSure_34 : decode cX4_isSure 34 = .ok (.invokevirtual 56, 3) := by decide +kernel
theorem dX4_isSure_37 : decode cX4_isSure 37 = .ok (.invokevirtual 60, 3) := by decide +kernel
theorem dX4_isSure_40 : decode cX4_isSure 40 = .ok (.aload_n 0, 1) := by decide +kernel
theorem dX4_isSure_41 : decode cX4_isSure 41 = .ok (.getfield 64, 3) := by decide +kernel
theorem dX4_isSure_44 : decode cX4_isSure 44 = .ok (.iload_n 3, 1) := by decide +kernel
theorem dX4_isSure_45 : decode cX4_isSure 45 = .ok (.iadd, 1) := by decide +kernel
theorem dX4_isSure_46 : decode cX4_isSure 46 = .ok (.if_icmp .le 7, 3) := by decide +kernel
theorem dX4_isSure_49 : decode cX4_isSure 49 = .ok (.iconst 1, 1) := by decide +kernel
theorem dX4_isSure_50 : decode cX4_isSure 50 = .ok (.goto 4, 3) := by decide +kernel
theorem dX4_isSure_53 : decode cX4_isSure 53 = .ok (.iconst 0, 1) := by decide +kernel
theorem dX4_isSure_54 : decode cX4_isSure 54 = .ok (.ireturn, 1) := by decide +kernel
theorem dX4_all_0 : decode cX4_all 0 = .ok (.iconst 1, 1) := by decide +kernel
theorem dX4_all_1 : decode cX4_all 1 = .ok (.aload_n 0, 1) := by decide +kernel
theorem dX4_all_2 : decode cX4_all 2 = .ok (.getfield 40, 3) := by decide +kernel
theorem dX4_all_5 : decode cX4_all 5 = .ok (.ishl, 1) := by decide +kernel
theorem dX4_all_6 : decode cX4_all 6 = .ok (.iconst 1, 1) := by decide +kernel
theorem dX4_all_7 : decode cX4_all 7 = .ok (.isub, 1) := by decide +kernel
theorem dX4_all_8 : decode cX4_all 8 = .ok (.ireturn, 1) := by decide +kernel
set_option maxRecDepth 20000 in
theorem ggX4_fill_X4_all : GoodIn wsX4_fill wsX4_all := goodIn_r _ [7, 1, 43, 44, 45, 46, 47, 48, 49, 50, 51] (by decide +kernel) (by decide +kernel)
set_option maxRecDepth 20000 in
theorem gX4_fill_X4_all : GoodIn wsX4_fill (wsV RX4 56 RX4 yX4_all wsX4_all) := goodIn_app (goodIn_of _ (by decide +kernel)) ggX4_fill_X4_all
set_option maxRecDepth 20000 in
theorem ggX4_fill_X2_neighboursOf : GoodIn wsX4_fill wsX2_neighboursOf := goodIn_r _ [12, 13, 14, 15, 16, 17, 18, 19, 20, 52, 53, 54] (by decide +kernel) (by decide +kernel)
set_option maxRecDepth 20000 in
theorem gX4_fill_X2_neighboursOf : GoodIn wsX4_fill (wsV RX4 77 RX2 yX2_neighboursOf wsX2_neighboursOf) := goodIn_app (goodIn_of _ (by decide +kernel)) ggX4_fill_X2_neighboursOf
set_option maxRecDepth 20000 in
theorem ggX4_fill_X4_fillLast : GoodIn wsX4_fill wsX4_fillLast := goodIn_r _ [24, 25, 2, 26, 27, 28, 29, 30, 31, 32, 33, 34, 11, 35, 36, 37, 38, 39, 40, 6, 41, 1, 42, 43, 44, 45, 46, 47, 48, 49, 50, 51, 52, 53, 54] (by decide +kernel) (by decide +kernel)
set_option maxRecDepth 20000 in
theorem gX4_fill_X4_fillLast : GoodIn wsX4_fill (wsV RX4 82 RX4 yX4_fillLast wsX4_fillLast) := goodIn_app (goodIn_of _ (by decide +kernel)) ggX4_fill_X4_fillLast
theorem dX4_fill_0 : decode cX4_fill 0 = .ok (.iconst 1, 1) := by decide +kernel
theorem dX4_fill_1 : decode cX4_fill 1 = .ok (.istore_n 3, 1) := by decide +kernel
theorem dX4_fill_2 : decode cX4_fill 2 = .ok (.iload_n 3, 1) := by decide +kernel
theorem dX4_fill_3 : decode cX4_fill 3 = .ok (.aload_n 0, 1) := by decide +kernel
theorem dX4_fill_4 : decode cX4_fill 4 = .ok (.invokevirtual 56, 3) := by decide +kernel
theorem dX4_fill_7 : decode cX4_fill 7 = .ok (.if_icmp .gt 84, 3) := by decide +kernel
theorem dX4_fill_10 : decode cX4_fill 10 = .ok (.iconst 0, 1) := by decide +kernel
theorem dX4_fill_11 : decode cX4_fill 11 = .ok (.istore 4, 2) := by decide +kernel
theorem dX4_fill_13 : decode cX4_fill 13 = .ok (.iload 4, 2) := by decide +kernel
theorem dX4_fill_15 : decode cX4_fill 15 = .ok (.aload_n 0, 1) := by decide +kernel
theorem dX4_fill_16 : decode cX4_fill 16 = .ok (.getfield 40, 3) := by decide +kernel
theorem dX4_fill_19 : decode cX4_fill 19 = .ok (.if_icmp .ge 66, 3) := by decide +kernel
theorem dX4_fill_22 : decode cX4_fill 22 = .ok (.iload_n 3, 1) := by decide +kernel
theorem dX4_fill_23 : decode cX4_fill 23 = .ok (.iload 4, 2) := by decide +kernel
theorem dX4_fill_25 : decode cX4_fill 25 = .ok (.ishr, 1) := by decide +kernel
theorem dX4_fill_26 : decode cX4_fill 26 = .ok (.iconst 1, 1) := by decide +kernel
theorem dX4_fill_27 : decode cX4_fill 27 = .ok (.iand, 1) := by decide +kernel
theorem dX4_fill_28 : decode cX4_fill 28 = .ok (.ifCond .eq 51, 3) := by decide +kernel
theorem dX4_fill_31 : decode cX4_fill 31 = .ok (.iload_n 3, 1) := by decide +kernel
theorem dX4_fill_32 : decode cX4_fill 32 = .ok (.iconst 1, 1) := by decide +kernel
theorem dX4_fill_33 : decode cX4_fill 33 = .ok (.iload 4, 2) := by decide +kernel
theorem dX4_fill_35 : decode cX4_fill 35 = .ok (.ishl, 1) := by decide +kernel
theorem dX4_fill_36 : decode cX4_fill 36 = .ok (.iconst (-1), 1) := by decide +kernel
theorem dX4_fill_37 : decode cX4_fill 37 = .ok (.ixor, 1) := by decide +kernel
theorem dX4_fill_38 : decode cX4_fill 38 = .ok (.iand, 1) := by decide +kernel
theorem dX4_fill_39 : decode cX4_fill 39 = .ok (.istore 5, 2) := by decide +kernel
theorem dX4_fill_41 : decode cX4_fill 41 = .ok (.aload_n 0, 1) := by decide +kernel
theorem dX4_fill_42 : decode cX4_fill 42 = .ok (.getfield 24, 3) := by decide +kernel
theorem dX4_fill_45 : decode cX4_fill 45 = .ok (.iload 4, 2) := by decide +kernel
theorem dX4_fill_47 : decode cX4_fill 47 = .ok (.iload 5, 2) := by decide +kernel
theorem dX4_fill_49 : decode cX4_fill 49 = .ok (.invokevirtual 77, 3) := by decide +kernel
theorem dX4_fill_52 : decode cX4_fill 52 = .ok (.istore 6, 2) := by decide +kernel
theorem dX4_fill_54 : decode cX4_fill 54 = .ok (.iload 4, 2) := by decide +kernel
theorem dX4_fill_56 : decode cX4_fill 56 = .ok (.iload_n 2, 1) := by decide +kernel
theorem dX4_fill_57 : decode cX4_fill 57 = .ok (.if_icmp .ne 13, 3) := by decide +kernel
theorem dX4_fill_60 : decode cX4_fill 60 = .ok (.iload 6, 2) := by decide +kernel
theorem dX4_fill_62 : decode cX4_fill 62 = .ok (.iconst 1, 1) := by decide +kernel
theorem dX4_fill_63 : decode cX4_fill 63 = .ok (.iload_n 1, 1) := by decide +kernel
theorem dX4_fill_64 : decode cX4_fill 64 = .ok (.ishl, 1) := by decide +kernel
theorem dX4_fill_65 : decode cX4_fill 65 = .ok (.iconst (-1), 1) := by decide +kernel
theorem dX4_fill_66 : decode cX4_fill 66 = .ok (.ixor, 1) := by decide +kernel
theorem dX4_fill_67 : decode cX4_fill 67 = .ok (.iand, 1) := by decide +kernel
theorem dX4_fill_68 : decode cX4_fill 68 = .ok (.istore 6, 2) := by decide +kernel
theorem dX4_fill_70 : decode cX4_fill 70 = .ok (.aload_n 0, 1) := by decide +kernel
theorem dX4_fill_71 : decode cX4_fill 71 = .ok (.iload_n 3, 1) := by decide +kernel
theorem dX4_fill_72 : decode cX4_fill 72 = .ok (.iload 4, 2) := by decide +kernel
theorem dX4_fill_74 : decode cX4_fill 74 = .ok (.iload 6, 2) := by decide +kernel
theorem dX4_fill_76 : decode cX4_fill 76 = .ok (.invokevirtual 82, 3) := by decide +kernel
theorem dX4_fill_79 : decode cX4_fill 79 = .ok (.iinc 4 1, 3) := by decide +kernel
theorem dX4_fill_82 : decode cX4_fill 82 = .ok (.goto (-69), 3) := by decide +kernel
theorem dX4_fill_85 : decode cX4_fill 85 = .ok (.iinc 3 1, 3) := by decide +kernel
theorem dX4_fill_88 : decode cX4_fill 88 = .ok (.goto (-86), 3) := by decide +kernel
theorem dX4_fill_91 : decode cX4_fill 91 = .ok (.return_, 1) := by decide +kernel
set_option maxRecDepth 20000 in
theorem ggX4_fillLast_X2_mayComeAfter : GoodIn wsX4_fillLast wsX2_mayComeAfter := goodIn_r _ [13, 14, 15, 32, 33, 34] (by decide +kernel) (by decide +kernel)
set_option maxRecDepth 20000 in
theorem gX4_fillLast_X2_mayComeAfter : GoodIn wsX4_fillLast (wsV RX4 86 RX2 yX2_mayComeAfter wsX2_mayComeAfter) := goodIn_app (goodIn_of _ (by decide +kernel)) ggX4_fillLast_X2_mayComeAfter
set_option maxRecDepth 20000 in
theorem ggX4_fillLast_X4_leastUpTo : GoodIn wsX4_fillLast wsX4_leastUpTo := goodIn_r _ [20, 1, 21, 8, 22, 4, 5, 6, 7, 23, 24, 25, 26, 27, 28, 29, 30, 31] (by decide +kernel) (by decide +kernel)
set_option maxRecDepth 20000 in
theorem gX4_fillLast_X4_leastUpTo : GoodIn wsX4_fillLast (wsV RX4 89 RX4 yX4_leastUpTo wsX4_leastUpTo) := goodIn_app (goodIn_of _ (by decide +kernel)) ggX4_fillLast_X4_leastUpTo
theorem dX4_fillLast_0 : decode cX4_fillLast 0 = .ok (.iload_n 1, 1) := by decide +kernel
theorem dX4_fillLast_1 : decode cX4_fillLast 1 = .ok (.iconst 1, 1) := by decide +kernel
theorem dX4_fillLast_2 : decode cX4_fillLast 2 = .ok (.iload_n 2, 1) := by decide +kernel
theorem dX4_fillLast_3 : decode cX4_fillLast 3 = .ok (.ishl, 1) := by decide +kernel
theorem dX4_fillLast_4 : decode cX4_fillLast 4 = .ok (.iconst (-1), 1) := by decide +kernel
theorem dX4_fillLast_5 : decode cX4_fillLast 5 = .ok (.ixor, 1) := by decide +kernel
theorem dX4_fillLast_6 : decode cX4_fillLast 6 = .ok (.iand, 1) := by decide +kernel
theorem dX4_fillLast_7 : decode cX4_fillLast 7 = .ok (.istore 4, 2) := by decide +kernel
theorem dX4_fillLast_9 : decode cX4_fillLast 9 = .ok (.iconst 2, 1) := by decide +kernel
theorem dX4_fillLast_10 : decode cX4_fillLast 10 = .ok (.iload_n 2, 1) := by decide +kernel
theorem dX4_fillLast_11 : decode cX4_fillLast 11 = .ok (.imul, 1) := by decide +kernel
theorem dX4_fillLast_12 : decode cX4_fillLast 12 = .ok (.istore 5, 2) := by decide +kernel
theorem dX4_fillLast_14 : decode cX4_fillLast 14 = .ok (.ldc 44, 2) := by decide +kernel
theorem dX4_fillLast_16 : decode cX4_fillLast 16 = .ok (.istore 6, 2) := by decide +kernel
theorem dX4_fillLast_18 : decode cX4_fillLast 18 = .ok (.ldc 44, 2) := by decide +kernel
theorem dX4_fillLast_20 : decode cX4_fillLast 20 = .ok (.istore 7, 2) := by decide +kernel
theorem dX4_fillLast_22 : decode cX4_fillLast 22 = .ok (.aload_n 0, 1) := by decide +kernel
theorem dX4_fillLast_23 : decode cX4_fillLast 23 = .ok (.getfield 24, 3) := by decide +kernel
theorem dX4_fillLast_26 : decode cX4_fillLast 26 = .ok (.iload_n 2, 1) := by decide +kernel
theorem dX4_fillLast_27 : decode cX4_fillLast 27 = .ok (.iload 4, 2) := by decide +kernel
theorem dX4_fillLast_29 : decode cX4_fillLast 29 = .ok (.invokevirtual 86, 3) := by decide +kernel
theorem dX4_fillLast_32 : decode cX4_fillLast 32 = .ok (.ifCond .eq 46, 3) := by decide +kernel
theorem dX4_fillLast_35 : decode cX4_fillLast 35 = .ok (.aload_n 0, 1) := by decide +kernel
theorem dX4_fillLast_36 : decode cX4_fillLast 36 = .ok (.iload 4, 2) := by decide +kernel
theorem dX4_fillLast_38 : decode cX4_fillLast 38 = .ok (.iload_n 3, 1) := by decide +kernel
theorem dX4_fillLast_39 : decode cX4_fillLast 39 = .ok (.iload 5, 2) := by decide +kernel
theorem dX4_fillLast_41 : decode cX4_fillLast 41 = .ok (.invokevirtual 89, 3) := by decide +kernel
theorem dX4_fillLast_44 : decode cX4_fillLast 44 = .ok (.istore 6, 2) := by decide +kernel
theorem dX4_fillLast_46 : decode cX4_fillLast 46 = .ok (.aload_n 0, 1) := by decide +kernel
theorem dX4_fillLast_47 : decode cX4_fillLast 47 = .ok (.getfield 45, 3) := by decide +kernel
theorem dX4_fillLast_50 : decode cX4_fillLast 50 = .ok (.ldc 44, 2) := by decide +kernel
theorem dX4_fillLast_52 : decode cX4_fillLast 52 = .ok (.if_icmp .ge 26, 3) := by decide +kernel
theorem dX4_fillLast_55 : decode cX4_fillLast 55 = .ok (.ldc 44, 2) := by decide +kernel
theorem dX4_fillLast_57 : decode cX4_fillLast 57 = .ok (.aload_n 0, 1) := by decide +kernel
theorem dX4_fillLast_58 : decode cX4_fillLast 58 = .ok (.iload 4, 2) := by decide +kernel
theorem dX4_fillLast_60 : decode cX4_fillLast 60 = .ok (.iload_n 3, 1) := by decide +kernel
theorem dX4_fillLast_61 : decode cX4_fillLast 61 = .ok (.iload 5, 2) := by decide +kernel
theorem dX4_fillLast_63 : decode cX4_fillLast 63 = .ok (.iconst 1, 1) := by decide +kernel
theorem dX4_fillLast_64 : decode cX4_fillLast 64 = .ok (.iadd, 1) := by decide +kernel
theorem dX4_fillLast_65 : decode cX4_fillLast 65 = .ok (.invokevirtual 89, 3) := by decide +kernel
theorem dX4_fillLast_68 : decode cX4_fillLast 68 = .ok (.aload_n 0, 1) := by decide +kernel
theorem dX4_fillLast_69 : decode cX4_fillLast 69 = .ok (.getfield 45, 3) := by decide +kernel
theorem dX4_fillLast_72 : decode cX4_fillLast 72 = .ok (.iadd, 1) := by decide +kernel
theorem dX4_fillLast_73 : decode cX4_fillLast 73 = .ok (.invokestatic 93, 3) := by decide +kernel
theorem dX4_fillLast_76 : decode cX4_fillLast 76 = .ok (.istore 7, 2) := by decide +kernel
theorem dX4_fillLast_78 : decode cX4_fillLast 78 = .ok (.aload_n 0, 1) := by decide +kernel
theorem dX4_fillLast_79 : decode cX4_fillLast 79 = .ok (.getfield 15, 3) := by decide +kernel
theorem dX4_fillLast_82 : decode cX4_fillLast 82 = .ok (.iload_n 1, 1) := by decide +kernel
theorem dX4_fillLast_83 : decode cX4_fillLast 83 = .ok (.bipush 18, 2) := by decide +kernel
theorem dX4_fillLast_85 : decode cX4_fillLast 85 = .ok (.imul, 1) := by decide +kernel
theorem dX4_fillLast_86 : decode cX4_fillLast 86 = .ok (.iload 5, 2) := by decide +kernel
theorem dX4_fillLast_88 : decode cX4_fillLast 88 = .ok (.iadd, 1) := by decide +kernel
theorem dX4_fillLast_89 : decode cX4_fillLast 89 = .ok (.iload 6, 2) := by decide +kernel
theorem dX4_fillLast_91 : decode cX4_fillLast 91 = .ok (.iastore, 1) := by decide +kernel
theorem dX4_fillLast_92 : decode cX4_fillLast 92 = .ok (.aload_n 0, 1) := by decide +kernel
theorem dX4_fillLast_93 : decode cX4_fillLast 93 = .ok (.getfield 15, 3) := by decide +kernel
theorem dX4_fillLast_96 : decode cX4_fillLast 96 = .ok (.iload_n 1, 1) := by decide +kernel
theorem dX4_fillLast_97 : decode cX4_fillLast 97 = .ok (.bipush 18, 2) := by decide +kernel
theorem dX4_fillLast_99 : decode cX4_fillLast 99 = .ok (.imul, 1) := by decide +kernel
theorem dX4_fillLast_100 : decode cX4_fillLast 100 = .ok (.iload 5, 2) := by decide +kernel
theorem dX4_fillLast_102 : decode cX4_fillLast 102 = .ok (.iadd, 1) := by decide +kernel
theorem dX4_fillLast_103 : decode cX4_fillLast 103 = .ok (.iconst 1, 1) := by decide +kernel
theorem dX4_fillLast_104 : decode cX4_fillLast 104 = .ok (.iadd, 1) := by decide +kernel
theorem dX4_fillLast_105 : decode cX4_fillLast 105 = .ok (.iload 7, 2) := by decide +kernel
theorem dX4_fillLast_107 : decode cX4_fillLast 107 = .ok (.iastore, 1) := by decide +kernel
theorem dX4_fillLast_108 : decode cX4_fillLast 108 = .ok (.return_, 1) := by decide +kernel
theorem dX4_leastUpTo_0 : decode cX4_leastUpTo 0 = .ok (.iload_n 1, 1) := by decide +kernel
theorem dX4_leastUpTo_1 : decode cX4_leastUpTo 1 = .ok (.ifCond .ne 5, 3) := by decide +kernel
theorem dX4_leastUpTo_4 : decode cX4_leastUpTo 4 = .ok (.iconst 0, 1) := by decide +kernel
theorem dX4_leastUpTo_5 : decode cX4_leastUpTo 5 = .ok (.ireturn, 1) := by decide +kernel
theorem dX4_leastUpTo_6 : decode cX4_leastUpTo 6 = .ok (.ldc 44, 2) := by decide +kernel
theorem dX4_leastUpTo_8 : decode cX4_leastUpTo 8 = .ok (.istore 4, 2) := by decide +kernel
theorem dX4_leastUpTo_10 : decode cX4_leastUpTo 10 = .ok (.iconst 0, 1) := by decide +kernel
theorem dX4_leastUpTo_11 : decode cX4_leastUpTo 11 = .ok (.istore 5, 2) := by decide +kernel
theorem dX4_leastUpTo_13 : decode cX4_leastUpTo 13 = .ok (.iload 5, 2) := by decide +kernel
theorem dX4_leastUpTo_15 : decode cX4_leastUpTo 15 = .ok (.aload_n 0, 1) := by decide +kernel
theorem dX4_leastUpTo_16 : decode cX4_leastUpTo 16 = .ok (.getfield 40, 3) := by decide +kernel
theorem dX4_leastUpTo_19 : decode cX4_leastUpTo 19 = .ok (.if_icmp .ge 91, 3) := by decide +kernel
theorem dX4_leastUpTo_22 : decode cX4_leastUpTo 22 = .ok (.iload_n 2, 1) := by decide +kernel
theorem dX4_leastUpTo_23 : decode cX4_leastUpTo 23 = .ok (.iload 5, 2) := by decide +kernel
theorem dX4_leastUpTo_25 : decode cX4_leastUpTo 25 = .ok (.ishr, 1) := by decide +kernel
theorem dX4_leastUpTo_26 : decode cX4_leastUpTo 26 = .ok (.iconst 1, 1) := by decide +kernel
theorem dX4_leastUpTo_27 : decode cX4_leastUpTo 27 = .ok (.iand, 1) := by decide +kernel
theorem dX4_leastUpTo_28 : decode cX4_leastUpTo 28 = .ok (.ifCond .eq 76, 3) := by decide +kernel
theorem dX4_leastUpTo_31 : decode cX4_leastUpTo 31 = .ok (.iconst 2, 1) := by decide +kernel
theorem dX4_leastUpTo_32 : decode cX4_leastUpTo 32 = .ok (.iload 5, 2) := by decide +kernel
theorem dX4_leastUpTo_34 : decode cX4_leastUpTo 34 = .ok (.imul, 1) := by decide +kernel
theorem dX4_leastUpTo_35 : decode cX4_leastUpTo 35 = .ok (.istore 6, 2) := by decide +kernel
theorem dX4_leastUpTo_37 : decode cX4_leastUpTo 37 = .ok (.iload_n 1, 1) := by decide +kernel
theorem dX4_leastUpTo_38 : decode cX4_leastUpTo 38 = .ok (.bipush 18, 2) := by decide +kernel
theorem dX4_leastUpTo_40 : decode cX4_leastUpTo 40 = .ok (.imul, 1) := by decide +kernel
theorem dX4_leastUpTo_41 : decode cX4_leastUpTo 41 = .ok (.iload 6, 2) := by decide +kernel
theorem dX4_leastUpTo_43 : decode cX4_leastUpTo 43 = .ok (.iadd, 1) := by decide +kernel
theorem dX4_leastUpTo_44 : decode cX4_leastUpTo 44 = .ok (.istore 7, 2) := by decide +kernel
theorem dX4_leastUpTo_46 : decode cX4_leastUpTo 46 = .ok (.iload 6, 2) := by decide +kernel
theorem dX4_leastUpTo_48 : decode cX4_leastUpTo 48 = .ok (.bipush 18, 2) := by decide +kernel
theorem dX4_leastUpTo_50 : decode cX4_leastUpTo 50 = .ok (.imul, 1) := by decide +kernel
theorem dX4_leastUpTo_51 : decode cX4_leastUpTo 51 = .ok (.iload_n 3, 1) := by decide +kernel
theorem dX4_leastUpTo_52 : decode cX4_leastUpTo 52 = .ok (.iadd, 1) := by decide +kernel
theorem dX4_leastUpTo_53 : decode cX4_leastUpTo 53 = .ok (.istore 8, 2) := by decide +kernel
theorem dX4_leastUpTo_55 : decode cX4_leastUpTo 55 = .ok (.iload 4, 2) := by decide +kernel
theorem dX4_leastUpTo_57 : decode cX4_leastUpTo 57 = .ok (.aload_n 0, 1) := by decide +kernel
theorem dX4_leastUpTo_58 : decode cX4_leastUpTo 58 = .ok (.getfield 15, 3) := by decide +kernel
theorem dX4_leastUpTo_61 : decode cX4_leastUpTo 61 = .ok (.iload 7, 2) := by decide +kernel
theorem dX4_leastUpTo_63 : decode cX4_leastUpTo 63 = .ok (.iaload, 1) := by decide +kernel
theorem dX4_leastUpTo_64 : decode cX4_leastUpTo 64 = .ok (.aload_n 0, 1) := by decide +kernel
theorem dX4_leastUpTo_65 : decode cX4_leastUpTo 65 = .ok (.getfield 9, 3) := by decide +kernel
theorem dX4_leastUpTo_68 : decode cX4_leastUpTo 68 = .ok (.iload 8, 2) := by decide +kernel
theorem dX4_leastUpTo_70 : decode cX4_leastUpTo 70 = .ok (.iaload, 1) := by decide +kernel
theorem dX4_leastUpTo_71 : decode cX4_leastUpTo 71 = .ok (.iadd, 1) := by decide +kernel
theorem dX4_leastUpTo_72 : decode cX4_leastUpTo 72 = .ok (.invokestatic 93, 3) := by decide +kernel
theorem dX4_leastUpTo_75 : decode cX4_leastUpTo 75 = .ok (.istore 4, 2) := by decide +kernel
theorem dX4_leastUpTo_77 : decode cX4_leastUpTo 77 = .ok (.iload 4, 2) := by decide +kernel
theorem dX4_leastUpTo_79 : decode cX4_leastUpTo 79 = .ok (.aload_n 0, 1) := by decide +kernel
theorem dX4_leastUpTo_80 : decode cX4_leastUpTo 80 = .ok (.getfield 15, 3) := by decide +kernel
theorem dX4_leastUpTo_83 : decode cX4_leastUpTo 83 = .ok (.iload 7, 2) := by decide +kernel
theorem dX4_leastUpTo_85 : decode cX4_leastUpTo 85 = .ok (.iconst 1, 1) := by decide +kernel
theorem dX4_leastUpTo_86 : decode cX4_leastUpTo 86 = .ok (.iadd, 1) := by decide +kernel
theorem dX4_leastUpTo_87 : decode cX4_leastUpTo 87 = .ok (.iaload, 1) := by decide +kernel
theorem dX4_leastUpTo_88 : decode cX4_leastUpTo 88 = .ok (.aload_n 0, 1) := by decide +kernel
theorem dX4_leastUpTo_89 : decode cX4_leastUpTo 89 = .ok (.getfield 9, 3) := by decide +kernel
theorem dX4_leastUpTo_92 : decode cX4_leastUpTo 92 = .ok (.iload 8, 2) := by decide +kernel
theorem dX4_leastUpTo_94 : decode cX4_leastUpTo 94 = .ok (.bipush 18, 2) := by decide +kernel
theorem dX4_leastUpTo_96 : decode cX4_leastUpTo 96 = .ok (.iadd, 1) := by decide +kernel
theorem dX4_leastUpTo_97 : decode cX4_leastUpTo 97 = .ok (.iaload, 1) := by decide +kernel
theorem dX4_leastUpTo_98 : decode cX4_leastUpTo 98 = .ok (.iadd, 1) := by decide +kernel
theorem dX4_leastUpTo_99 : decode cX4_leastUpTo 99 = .ok (.invokestatic 93, 3) := by decide +kernel
theorem dX4_leastUpTo_102 : decode cX4_leastUpTo 102 = .ok (.istore 4, 2) := by decide +kernel
theorem dX4_leastUpTo_104 : decode cX4_leastUpTo 104 = .ok (.iinc 5 1, 3) := by decide +kernel
theorem dX4_leastUpTo_107 : decode cX4_leastUpTo 107 = .ok (.goto (-94), 3) := by decide +kernel
theorem dX4_leastUpTo_110 : decode cX4_leastUpTo 110 = .ok (.iload 4, 2) := by decide +kernel
theorem dX4_leastUpTo_112 : decode cX4_leastUpTo 112 = .ok (.ireturn, 1) := by decide +kernel
theorem dX4_leastOf_0 : decode cX4_leastOf 0 = .ok (.ldc 44, 2) := by decide +kernel
theorem dX4_leastOf_2 : decode cX4_leastOf 2 = .ok (.istore_n 2, 1) := by decide +kernel
theorem dX4_leastOf_3 : decode cX4_leastOf 3 = .ok (.iconst 0, 1) := by decide +kernel
theorem dX4_leastOf_4 : decode cX4_leastOf 4 = .ok (.istore_n 3, 1) := by decide +kernel
theorem dX4_leastOf_5 : decode cX4_leastOf 5 = .ok (.iload_n 3, 1) := by decide +kernel
theorem dX4_leastOf_6 : decode cX4_leastOf 6 = .ok (.iconst 2, 1) := by decide +kernel
theorem dX4_leastOf_7 : decode cX4_leastOf 7 = .ok (.aload_n 0, 1) := by decide +kernel
theorem dX4_leastOf_8 : decode cX4_leastOf 8 = .ok (.getfield 40, 3) := by decide +kernel
theorem dX4_leastOf_11 : decode cX4_leastOf 11 = .ok (.imul, 1) := by decide +kernel
theorem dX4_leastOf_12 : decode cX4_leastOf 12 = .ok (.if_icmp .ge 35, 3) := by decide +kernel
theorem dX4_leastOf_15 : decode cX4_leastOf 15 = .ok (.iload_n 1, 1) := by decide +kernel
theorem dX4_leastOf_16 : decode cX4_leastOf 16 = .ok (.iload_n 3, 1) := by decide +kernel
theorem dX4_leastOf_17 : decode cX4_leastOf 17 = .ok (.iconst 1, 1) := by decide +kernel
theorem dX4_leastOf_18 : decode cX4_leastOf 18 = .ok (.ishr, 1) := by decide +kernel
theorem dX4_leastOf_19 : decode cX4_leastOf 19 = .ok (.ishr, 1) := by decide +kernel
theorem dX4_leastOf_20 : decode cX4_leastOf 20 = .ok (.iconst 1, 1) := by decide +kernel
theorem dX4_leastOf_21 : decode cX4_leastOf 21 = .ok (.iand, 1) := by decide +kernel
theorem dX4_leastOf_22 : decode cX4_leastOf 22 = .ok (.ifCond .eq 19, 3) := by decide +kernel
theorem dX4_leastOf_25 : decode cX4_leastOf 25 = .ok (.iload_n 2, 1) := by decide +kernel
theorem dX4_leastOf_26 : decode cX4_leastOf 26 = .ok (.aload_n 0, 1) := by decide +kernel
theorem dX4_leastOf_27 : decode cX4_leastOf 27 = .ok (.getfield 15, 3) := by decide +kernel
theorem dX4_leastOf_30 : decode cX4_leastOf 30 = .ok (.iload_n 1, 1) := by decide +kernel
theorem dX4_leastOf_31 : decode cX4_leastOf 31 = .ok (.bipush 18, 2) := by decide +kernel
theorem dX4_leastOf_33 : decode cX4_leastOf 33 = .ok (.imul, 1) := by decide +kernel
theorem dX4_leastOf_34 : decode cX4_leastOf 34 = .ok (.iload_n 3, 1) := by decide +kernel
theorem dX4_leastOf_35 : decode cX4_leastOf 35 = .ok (.iadd, 1) := by decide +kernel
theorem dX4_leastOf_36 : decode cX4_leastOf 36 = .ok (.iaload, 1) := by decide +kernel
theorem dX4_leastOf_37 : decode cX4_leastOf 37 = .ok (.invokestatic 93, 3) := by decide +kernel
theorem dX4_leastOf_40 : decode cX4_leastOf 40 = .ok (.istore_n 2, 1) := by decide +kernel
theorem dX4_leastOf_41 : decode cX4_leastOf 41 = .ok (.iinc 3 1, 3) := by decide +kernel
theorem dX4_leastOf_44 : decode cX4_leastOf 44 = .ok (.goto (-39), 3) := by decide +kernel
theorem dX4_leastOf_47 : decode cX4_leastOf 47 = .ok (.iload_n 2, 1) := by decide +kernel
theorem dX4_leastOf_48 : decode cX4_leastOf 48 = .ok (.ireturn, 1) := by decide +kernel
set_option maxRecDepth 20000 in
theorem ggX4_trace_X4_all : GoodIn wsX4_trace wsX4_all := goodIn_r _ [8, 1, 39, 40, 41, 42, 43, 44, 45, 46, 47] (by decide +kernel) (by decide +kernel)
set_option maxRecDepth 20000 in
theorem gX4_trace_X4_all : GoodIn wsX4_trace (wsV RX4 56 RX4 yX4_all wsX4_all) := goodIn_app (goodIn_of _ (by decide +kernel)) ggX4_trace_X4_all
set_option maxRecDepth 20000 in
theorem ggX4_trace_X4_pick : GoodIn wsX4_trace wsX4_pick := goodIn_r _ [12, 13, 14, 1, 15, 16, 17, 18, 19, 20, 21, 22, 23, 24, 25, 26, 27, 28, 29, 30, 31, 32, 33, 34, 35, 36, 7, 37, 38, 39, 40, 41, 42, 43, 44, 45, 46, 47, 48, 49, 50] (by decide +kernel) (by decide +kernel)
set_option maxRecDepth 20000 in
theorem gX4_trace_X4_pick : GoodIn wsX4_trace (wsV RX4 98 RX4 yX4_pick wsX4_pick) := goodIn_app (goodIn_of _ (by decide +kernel)) ggX4_trace_X4_pick
set_option maxRecDepth 20000 in
theorem ggX4_trace_X4_linkCost : GoodIn wsX4_trace wsX4_linkCost := goodIn_r _ [37, 38, 39, 40, 41, 42, 43, 44, 45, 46, 47] (by decide +kernel) (by decide +kernel)
set_option maxRecDepth 20000 in
theorem gX4_trace_X4_linkCost : GoodIn wsX4_trace (wsV RX4 101 RX4 yX4_linkCost wsX4_linkCost) := goodIn_app (goodIn_of _ (by decide +kernel)) ggX4_trace_X4_linkCost
theorem dX4_trace_0 : decode cX4_trace 0 = .ok (.aload_n 0, 1) := by decide +kernel
theorem dX4_trace_1 : decode cX4_trace 1 = .ok (.invokevirtual 56, 3) := by decide +kernel
theorem dX4_trace_4 : decode cX4_trace 4 = .ok (.istore_n 1, 1) := by decide +kernel
theorem dX4_trace_5 : decode cX4_trace 5 = .ok (.iconst (-1), 1) := by decide +kernel
theorem dX4_trace_6 : decode cX4_trace 6 = .ok (.istore_n 2, 1) := by decide +kernel
theorem dX4_trace_7 : decode cX4_trace 7 = .ok (.iconst 0, 1) := by decide +kernel
theorem dX4_trace_8 : decode cX4_trace 8 = .ok (.istore_n 3, 1) := by decide +kernel
theorem dX4_trace_9 : decode cX4_trace 9 = .ok (.aload_n 0, 1) := by decide +kernel
theorem dX4_trace_10 : decode cX4_trace 10 = .ok (.getfield 40, 3) := by decide +kernel
theorem dX4_trace_13 : decode cX4_trace 13 = .ok (.iconst 1, 1) := by decide +kernel
theorem dX4_trace_14 : decode cX4_trace 14 = .ok (.isub, 1) := by decide +kernel
theorem dX4_trace_15 : decode cX4_trace 15 = .ok (.istore 4, 2) := by decide +kernel
theorem dX4_trace_17 : decode cX4_trace 17 = .ok (.iload 4, 2) := by decide +kernel
theorem dX4_trace_19 : decode cX4_trace 19 = .ok (.ifCond .lt 61, 3) := by decide +kernel
theorem dX4_trace_22 : decode cX4_trace 22 = .ok (.aload_n 0, 1) := by decide +kernel
theorem dX4_trace_23 : decode cX4_trace 23 = .ok (.iload_n 1, 1) := by decide +kernel
theorem dX4_trace_24 : decode cX4_trace 24 = .ok (.iload_n 2, 1) := by decide +kernel
theorem dX4_trace_25 : decode cX4_trace 25 = .ok (.iload_n 3, 1) := by decide +kernel
theorem dX4_trace_26 : decode cX4_trace 26 = .ok (.invokevirtual 98, 3) := by decide +kernel
theorem dX4_trace_29 : decode cX4_trace 29 = .ok (.istore 5, 2) := by decide +kernel
theorem dX4_trace_31 : decode cX4_trace 31 = .ok (.aload_n 0, 1) := by decide +kernel
theorem dX4_trace_32 : decode cX4_trace 32 = .ok (.getfield 21, 3) := by decide +kernel
theorem dX4_trace_35 : decode cX4_trace 35 = .ok (.iload 4, 2) := by decide +kernel
theorem dX4_trace_37 : decode cX4_trace 37 = .ok (.iload 5, 2) := by decide +kernel
theorem dX4_trace_39 : decode cX4_trace 39 = .ok (.iastore, 1) := by decide +kernel
theorem dX4_trace_40 : decode cX4_trace 40 = .ok (.iload_n 3, 1) := by decide +kernel
theorem dX4_trace_41 : decode cX4_trace 41 = .ok (.aload_n 0, 1) := by decide +kernel
theorem dX4_trace_42 : decode cX4_trace 42 = .ok (.iload 5, 2) := by decide +kernel
theorem dX4_trace_44 : decode cX4_trace 44 = .ok (.iload_n 2, 1) := by decide +kernel
theorem dX4_trace_45 : decode cX4_trace 45 = .ok (.invokevirtual 101, 3) := by decide +kernel
theorem dX4_trace_48 : decode cX4_trace 48 = .ok (.iload 5, 2) := by decide +kernel
theorem dX4_trace_50 : decode cX4_trace 50 = .ok (.iconst 1, 1) := by decide +kernel
theorem dX4_trace_51 : decode cX4_trace 51 = .ok (.iand, 1) := by decide +kernel
theorem dX4_trace_52 : decode cX4_trace 52 = .ok (.aload_n 0, 1) := by decide +kernel
theorem dX4_trace_53 : decode cX4_trace 53 = .ok (.getfield 45, 3) := by decide +kernel
theorem dX4_trace_56 : decode cX4_trace 56 = .ok (.imul, 1) := by decide +kernel
theorem dX4_trace_57 : decode cX4_trace 57 = .ok (.iadd, 1) := by decide +kernel
theorem dX4_trace_58 : decode cX4_trace 58 = .ok (.iadd, 1) := by decide +kernel
theorem dX4_trace_59 : decode cX4_trace 59 = .ok (.istore_n 3, 1) := by decide +kernel
theorem dX4_trace_60 : decode cX4_trace 60 = .ok (.iload_n 1, 1) := by decide +kernel
theorem dX4_trace_61 : decode cX4_trace 61 = .ok (.iconst 1, 1) := by decide +kernel
theorem dX4_trace_62 : decode cX4_trace 62 = .ok (.iload 5, 2) := by decide +kernel
theorem dX4_trace_64 : decode cX4_trace 64 = .ok (.iconst 1, 1) := by decide +kernel
theorem dX4_trace_65 : decode cX4_trace 65 = .ok (.ishr, 1) := by decide +kernel
theorem dX4_trace_66 : decode cX4_trace 66 = .ok (.ishl, 1) := by decide +kernel
theorem dX4_trace_67 : decode cX4_trace 67 = .ok (.iconst (-1), 1) := by decide +kernel
theorem dX4_trace_68 : decode cX4_trace 68 = .ok (.ixor, 1) := by decide +kernel
theorem dX4_trace_69 : decode cX4_trace 69 = .ok (.iand, 1) := by decide +kernel
theorem dX4_trace_70 : decode cX4_trace 70 = .ok (.istore_n 1, 1) := by decide +kernel
theorem dX4_trace_71 : decode cX4_trace 71 = .ok (.iload 5, 2) := by decide +kernel
theorem dX4_trace_73 : decode cX4_trace 73 = .ok (.istore_n 2, 1) := by decide +kernel
theorem dX4_trace_74 : decode cX4_trace 74 = .ok (.iinc 4 (-1), 3) := by decide +kernel
theorem dX4_trace_77 : decode cX4_trace 77 = .ok (.goto (-60), 3) := by decide +kernel
theorem dX4_trace_80 : decode cX4_trace 80 = .ok (.return_, 1) := by decide +kernel
set_option maxRecDepth 20000 in
theorem ggX4_pick_X2_neighboursOf : GoodIn wsX4_pick wsX2_neighboursOf := goodIn_r _ [14, 15, 16, 17, 18, 19, 20, 21, 22, 38, 39, 40] (by decide +kernel) (by decide +kernel)
set_option maxRecDepth 20000 in
theorem gX4_pick_X2_neighboursOf : GoodIn wsX4_pick (wsV RX4 77 RX2 yX2_neighboursOf wsX2_neighboursOf) := goodIn_app (goodIn_of _ (by decide +kernel)) ggX4_pick_X2_neighboursOf
set_option maxRecDepth 20000 in
theorem ggX4_pick_X4_linkCost : GoodIn wsX4_pick wsX4_linkCost := goodIn_r _ [27, 28, 29, 30, 31, 32, 33, 34, 35, 36, 37] (by decide +kernel) (by decide +kernel)
set_option maxRecDepth 20000 in
theorem gX4_pick_X4_linkCost : GoodIn wsX4_pick (wsV RX4 101 RX4 yX4_linkCost wsX4_linkCost) := goodIn_app (goodIn_of _ (by decide +kernel)) ggX4_pick_X4_linkCost
theorem dX4_pick_0 : decode cX4_pick 0 = .ok (.iload_n 2, 1) := by decide +kernel
theorem dX4_pick_1 : decode cX4_pick 1 = .ok (.iconst (-1), 1) := by decide +kernel
theorem dX4_pick_2 : decode cX4_pick 2 = .ok (.if_icmp .ne 7, 3) := by decide +kernel
theorem dX4_pick_5 : decode cX4_pick 5 = .ok (.iload_n 1, 1) := by decide +kernel
theorem dX4_pick_6 : decode cX4_pick 6 = .ok (.goto 14, 3) := by decide +kernel
theorem dX4_pick_9 : decode cX4_pick 9 = .ok (.aload_n 0, 1) := by decide +kernel
theorem dX4_pick_10 : decode cX4_pick 10 = .ok (.getfield 24, 3) := by decide +kernel
theorem dX4_pick_13 : decode cX4_pick 13 = .ok (.iload_n 2, 1) := by decide +kernel
theorem dX4_pick_14 : decode cX4_pick 14 = .ok (.iconst 1, 1) := by decide +kernel
theorem dX4_pick_15 : decode cX4_pick 15 = .ok (.ishr, 1) := by decide +kernel
theorem dX4_pick_16 : decode cX4_pick 16 = .ok (.iload_n 1, 1) := by decide +kernel
theorem dX4_pick_17 : decode cX4_pick 17 = .ok (.invokevirtual 77, 3) := by decide +kernel
theorem dX4_pick_20 : decode cX4_pick 20 = .ok (.istore 4, 2) := by decide +kernel
theorem dX4_pick_22 : decode cX4_pick 22 = .ok (.iconst 0, 1) := by decide +kernel
theorem dX4_pick_23 : decode cX4_pick 23 = .ok (.istore 5, 2) := by decide +kernel
theorem dX4_pick_25 : decode cX4_pick 25 = .ok (.ldc 44, 2) := by decide +kernel
theorem dX4_pick_27 : decode cX4_pick 27 = .ok (.istore 6, 2) := by decide +kernel
theorem dX4_pick_29 : decode cX4_pick 29 = .ok (.iconst 0, 1) := by decide +kernel
theorem dX4_pick_30 : decode cX4_pick 30 = .ok (.istore 7, 2) := by decide +kernel
theorem dX4_pick_32 : decode cX4_pick 32 = .ok (.iload 7, 2) := by decide +kernel
theorem dX4_pick_34 : decode cX4_pick 34 = .ok (.iconst 2, 1) := by decide +kernel
theorem dX4_pick_35 : decode cX4_pick 35 = .ok (.aload_n 0, 1) := by decide +kernel
theorem dX4_pick_36 : decode cX4_pick 36 = .ok (.getfield 40, 3) := by decide +kernel
theorem dX4_pick_39 : decode cX4_pick 39 = .ok (.imul, 1) := by decide +kernel
theorem dX4_pick_40 : decode cX4_pick 40 = .ok (.if_icmp .ge 89, 3) := by decide +kernel
theorem dX4_pick_43 : decode cX4_pick 43 = .ok (.iload 4, 2) := by decide +kernel
theorem dX4_pick_45 : decode cX4_pick 45 = .ok (.iload 7, 2) := by decide +kernel
theorem dX4_pick_47 : decode cX4_pick 47 = .ok (.iconst 1, 1) := by decide +kernel
theorem dX4_pick_48 : decode cX4_pick 48 = .ok (.ishr, 1) := by decide +kernel
theorem dX4_pick_49 : decode cX4_pick 49 = .ok (.ishr, 1) := by decide +kernel
theorem dX4_pick_50 : decode cX4_pick 50 = .ok (.iconst 1, 1) := by decide +kernel
theorem dX4_pick_51 : decode cX4_pick 51 = .ok (.iand, 1) := by decide +kernel
theorem dX4_pick_52 : decode cX4_pick 52 = .ok (.ifCond .eq 71, 3) := by decide +kernel
theorem dX4_pick_55 : decode cX4_pick 55 = .ok (.aload_n 0, 1) := by decide +kernel
theorem dX4_pick_56 : decode cX4_pick 56 = .ok (.getfield 15, 3) := by decide +kernel
theorem dX4_pick_59 : decode cX4_pick 59 = .ok (.iload_n 1, 1) := by decide +kernel
theorem dX4_pick_60 : decode cX4_pick 60 = .ok (.bipush 18, 2) := by decide +kernel
theorem dX4_pick_62 : decode cX4_pick 62 = .ok (.imul, 1) := by decide +kernel
theorem dX4_pick_63 : decode cX4_pick 63 = .ok (.iload 7, 2) := by decide +kernel
theorem dX4_pick_65 : decode cX4_pick 65 = .ok (.iadd, 1) := by decide +kernel
theorem dX4_pick_66 : decode cX4_pick 66 = .ok (.iaload, 1) := by decide +kernel
theorem dX4_pick_67 : decode cX4_pick 67 = .ok (.aload_n 0, 1) := by decide +kernel
theorem dX4_pick_68 : decode cX4_pick 68 = .ok (.iload 7, 2) := by decide +kernel
theorem dX4_pick_70 : decode cX4_pick 70 = .ok (.iload_n 2, 1) := by decide +kernel
theorem dX4_pick_71 : decode cX4_pick 71 = .ok (.invokevirtual 101, 3) := by decide +kernel
theorem dX4_pick_74 : decode cX4_pick 74 = .ok (.iadd, 1) := by decide +kernel
theorem dX4_pick_75 : decode cX4_pick 75 = .ok (.iload_n 3, 1) := by decide +kernel
theorem dX4_pick_76 : decode cX4_pick 76 = .ok (.iadd, 1) := by decide +kernel
theorem dX4_pick_77 : decode cX4_pick 77 = .ok (.istore 8, 2) := by decide +kernel
theorem dX4_pick_79 : decode cX4_pick 79 = .ok (.iload 8, 2) := by decide +kernel
theorem dX4_pick_81 : decode cX4_pick 81 = .ok (.iload 6, 2) := by decide +kernel
theorem dX4_pick_83 : decode cX4_pick 83 = .ok (.if_icmp .ge 27, 3) := by decide +kernel
theorem dX4_pick_86 : decode cX4_pick 86 = .ok (.aload_n 0, 1) := by decide +kernel
theorem dX4_pick_87 : decode cX4_pick 87 = .ok (.aload_n 0, 1) := by decide +kernel
theorem dX4_pick_88 : decode cX4_pick 88 = .ok (.getfield 67, 3) := by decide +kernel
theorem dX4_pick_91 : decode cX4_pick 91 = .ok (.iload 6, 2) := by decide +kernel
theorem dX4_pick_93 : decode cX4_pick 93 = .ok (.invokestatic 93, 3) := by decide +kernel
theorem dX4_pick_96 : decode cX4_pick 96 = .ok (.putfield 67, 3) := by decide +kernel
theorem dX4_pick_99 : decode cX4_pick 99 = .ok (.iload 7, 2) := by decide +kernel
theorem dX4_pick_101 : decode cX4_pick 101 = .ok (.istore 5, 2) := by decide +kernel
theorem dX4_pick_103 : decode cX4_pick 103 = .ok (.iload 8, 2) := by decide +kernel
theorem dX4_pick_105 : decode cX4_pick 105 = .ok (.istore 6, 2) := by decide +kernel
theorem dX4_pick_107 : decode cX4_pick 107 = .ok (.goto 16, 3) := by decide +kernel
theorem dX4_pick_110 : decode cX4_pick 110 = .ok (.aload_n 0, 1) := by decide +kernel
theorem dX4_pick_111 : decode cX4_pick 111 = .ok (.aload_n 0, 1) := by decide +kernel
theorem dX4_pick_112 : decode cX4_pick 112 = .ok (.getfield 67, 3) := by decide +kernel
theorem dX4_pick_115 : decode cX4_pick 115 = .ok (.iload 8, 2) := by decide +kernel
theorem dX4_pick_117 : decode cX4_pick 117 = .ok (.invokestatic 93, 3) := by decide +kernel
theorem dX4_pick_120 : decode cX4_pick 120 = .ok (.putfield 67, 3) := by decide +kernel
theorem dX4_pick_123 : decode cX4_pick 123 = .ok (.iinc 7 1, 3) := by decide +kernel
theorem dX4_pick_126 : decode cX4_pick 126 = .ok (.goto (-94), 3) := by decide +kernel
theorem dX4_pick_129 : decode cX4_pick 129 = .ok (.iload 5, 2) := by decide +kernel
theorem dX4_pick_131 : decode cX4_pick 131 = .ok (.ireturn, 1) := by decide +kernel
theorem dX4_linkCost_0 : decode cX4_linkCost 0 = .ok (.iload_n 2, 1) := by decide +kernel
theorem dX4_linkCost_1 : decode cX4_linkCost 1 = .ok (.iconst (-1), 1) := by decide +kernel
theorem dX4_linkCost_2 : decode cX4_linkCost 2 = .ok (.if_icmp .ne 7, 3) := by decide +kernel
theorem dX4_linkCost_5 : decode cX4_linkCost 5 = .ok (.iconst 0, 1) := by decide +kernel
theorem dX4_linkCost_6 : decode cX4_linkCost 6 = .ok (.goto 14, 3) := by decide +kernel
theorem dX4_linkCost_9 : decode cX4_linkCost 9 = .ok (.aload_n 0, 1) := by decide +kernel
theorem dX4_linkCost_10 : decode cX4_linkCost 10 = .ok (.getfield 9, 3) := by decide +kernel
theorem dX4_linkCost_13 : decode cX4_linkCost 13 = .ok (.iload_n 1, 1) := by decide +kernel
theorem dX4_linkCost_14 : decode cX4_linkCost 14 = .ok (.bipush 18, 2) := by decide +kernel
theorem dX4_linkCost_16 : decode cX4_linkCost 16 = .ok (.imul, 1) := by decide +kernel
theorem dX4_linkCost_17 : decode cX4_linkCost 17 = .ok (.iload_n 2, 1) := by decide +kernel
theorem dX4_linkCost_18 : decode cX4_linkCost 18 = .ok (.iadd, 1) := by decide +kernel
theorem dX4_linkCost_19 : decode cX4_linkCost 19 = .ok (.iaload, 1) := by decide +kernel
theorem dX4_linkCost_20 : decode cX4_linkCost 20 = .ok (.ireturn, 1) := by decide +kernel
theorem dX4_isInBest_0 : decode cX4_isInBest 0 = .ok (.iconst 1, 1) := by decide +kernel
theorem dX4_isInBest_1 : decode cX4_isInBest 1 = .ok (.istore_n 3, 1) := by decide +kernel
theorem dX4_isInBest_2 : decode cX4_isInBest 2 = .ok (.iload_n 3, 1) := by decide +kernel
theorem dX4_isInBest_3 : decode cX4_isInBest 3 = .ok (.aload_n 0, 1) := by decide +kernel
theorem dX4_isInBest_4 : decode cX4_isInBest 4 = .ok (.getfield 40, 3) := by decide +kernel
theorem dX4_isInBest_7 : decode cX4_isInBest 7 = .ok (.if_icmp .ge 37, 3) := by decide +kernel
theorem dX4_isInBest_10 : decode cX4_isInBest 10 = .ok (.aload_n 0, 1) := by decide +kernel
theorem dX4_isInBest_11 : decode cX4_isInBest 11 = .ok (.getfield 21, 3) := by decide +kernel
theorem dX4_isInBest_14 : decode cX4_isInBest 14 = .ok (.iload_n 3, 1) := by decide +kernel
theorem dX4_isInBest_15 : decode cX4_isInBest 15 = .ok (.iconst 1, 1) := by decide +kernel
theorem dX4_isInBest_16 : decode cX4_isInBest 16 = .ok (.isub, 1) := by decide +kernel
theorem dX4_isInBest_17 : decode cX4_isInBest 17 = .ok (.iaload, 1) := by decide +kernel
theorem dX4_isInBest_18 : decode cX4_isInBest 18 = .ok (.iconst 1, 1) := by decide +kernel
theorem dX4_isInBest_19 : decode cX4_isInBest 19 = .ok (.ishr, 1) := by decide +kernel
theorem dX4_isInBest_20 : decode cX4_isInBest 20 = .ok (.iload_n 1, 1) := by decide +kernel
theorem dX4_isInBest_21 : decode cX4_isInBest 21 = .ok (.if_icmp .ne 17, 3) := by decide +kernel
theorem dX4_isInBest_24 : decode cX4_isInBest 24 = .ok (.aload_n 0, 1) := by decide +kernel
theorem dX4_isInBest_25 : decode cX4_isInBest 25 = .ok (.getfield 21, 3) := by decide +kernel
theorem dX4_isInBest_28 : decode cX4_isInBest 28 = .ok (.iload_n 3, 1) := by decide +kernel
theorem dX4_isInBest_29 : decode cX4_isInBest 29 = .ok (.iaload, 1) := by decide +kernel
theorem dX4_isInBest_30 : decode cX4_isInBest 30 = .ok (.iconst 1, 1) := by decide +kernel
theorem dX4_isInBest_31 : decode cX4_isInBest 31 = .ok (.ishr, 1) := by decide +kernel
theorem dX4_isInBest_32 : decode cX4_isInBest 32 = .ok (.iload_n 2, 1) := by decide +kernel
theorem dX4_isInBest_33 : decode cX4_isInBest 33 = .ok (.if_icmp .ne 5, 3) := by decide +kernel
theorem dX4_isInBest_36 : decode cX4_isInBest 36 = .ok (.iconst 1, 1) := by decide +kernel
theorem dX4_isInBest_37 : decode cX4_isInBest 37 = .ok (.ireturn, 1) := by decide +kernel
theorem dX4_isInBest_38 : decode cX4_isInBest 38 = .ok (.iinc 3 1, 3) := by decide +kernel
theorem dX4_isInBest_41 : decode cX4_isInBest 41 = .ok (.goto (-39), 3) := by decide +kernel
theorem dX4_isInBest_44 : decode cX4_isInBest 44 = .ok (.iconst 0, 1) := by decide +kernel
theorem dX4_isInBest_45 : decode cX4_isInBest 45 = .ok (.ireturn, 1) := by decide +kernel
set_option maxRecDepth 20000 in
theorem ggX5_init_X1_init : GoodIn wsX5_init wsX1_init := goodIn_r _ [27, 28, 2, 3, 29, 30, 31, 32, 33, 34, 35, 62, 63, 64, 65, 66, 67, 68] (by decide +kernel) (by decide +kernel)
set_option maxRecDepth 20000 in
theorem gX5_init_X1_init_n11 : GoodIn wsX5_init (wsX1_init) := ggX5_init_X1_init
set_option maxRecDepth 20000 in
theorem ggX5_init_X3_init : GoodIn wsX5_init wsX3_init := goodIn_r _ [38, 39, 2, 3, 29, 40, 41, 76, 77] (by decide +kernel) (by decide +kernel)
set_option maxRecDepth 20000 in
theorem gX5_init_X3_init : GoodIn wsX5_init (wsX3_init) := ggX5_init_X3_init
set_option maxRecDepth 20000 in
theorem ggX5_init_X2_init : GoodIn wsX5_init wsX2_init := goodIn_r _ [43, 44, 2, 3, 29, 45, 46, 47, 78, 79, 80] (by decide +kernel) (by decide +kernel)
set_option maxRecDepth 20000 in
theorem gX5_init_X2_init_n27 : GoodIn wsX5_init (wsX2_init) := ggX5_init_X2_init
set_option maxRecDepth 20000 in
theorem ggX5_init_X4_init : GoodIn wsX5_init wsX4_init := goodIn_r _ [50, 51, 2, 3, 29, 52, 53, 54, 55, 56, 81, 82, 83, 84, 85, 86, 87, 88, 89] (by decide +kernel) (by decide +kernel)
set_option maxRecDepth 20000 in
theorem gX5_init_X4_init : GoodIn wsX5_init (wsX4_init) := ggX5_init_X4_init
set_option maxRecDepth 20000 in
theorem ggX5_init_X0_init : GoodIn wsX5_init wsX0_init := goodIn_r _ [59, 60, 2, 3, 61, 90, 91, 92] (by decide +kernel) (by decide +kernel)
set_option maxRecDepth 20000 in
theorem gX5_init_X0_init : GoodIn wsX5_init (wsX0_init) := ggX5_init_X0_init
theorem dJ6_bitCount_0f7a4_0 : decode cJ6_bitCount_0f7a4 0 = .ok (.iload_n 0, 1) := by decide +kernel
theorem dJ6_bitCount_0f7a4_1 : decode cJ6_bitCount_0f7a4 1 = .ok (.iload_n 0, 1) := by decide +kernel
theorem dJ6_bitCount_0f7a4_2 : decode cJ6_bitCount_0f7a4 2 = .ok (.iconst 1, 1) := by decide +kernel
theorem dJ6_bitCount_0f7a4_3 : decode cJ6_bitCount_0f7a4 3 = .ok (.iushr, 1) := by decide +kernel
theorem dJ6_bitCount_0f7a4_4 : decode cJ6_bitCount_0f7a4 4 = .ok (.ldc_w 265, 3) := by decide +kernel
theorem dJ6_bitCount_0f7a4_7 : decode cJ6_bitCount_0f7a4 7 = .ok (.iand, 1) := by decide +kernel
theorem dJ6_bitCount_0f7a4_8 : decode cJ6_bitCount_0f7a4 8 = .ok (.isub, 1) := by decide +kernel
theorem dJ6_bitCount_0f7a4_9 : decode cJ6_bitCount_0f7a4 9 = .ok (.istore_n 0, 1) := by decide +kernel
theorem dJ6_bitCount_0f7a4_10 : decode cJ6_bitCount_0f7a4 10 = .ok (.iload_n 0, 1) := by decide +kernel
theorem dJ6_bitCount_0f7a4_11 : decode cJ6_bitCount_0f7a4 11 = .ok (.ldc_w 266, 3) := by decide +kernel
theorem dJ6_bitCount_0f7a4_14 : decode cJ6_bitCount_0f7a4 14 = .ok (.iand, 1) := by decide +kernel
theorem dJ6_bitCount_0f7a4_15 : decode cJ6_bitCount_0f7a4 15 = .ok (.iload_n 0, 1) := by decide +kernel
theorem dJ6_bitCount_0f7a4_16 : decode cJ6_bitCount_0f7a4 16 = .ok (.iconst 2, 1) := by decide +kernel
theorem dJ6_bitCount_0f7a4_17 : decode cJ6_bitCount_0f7a4 17 = .ok (.iushr, 1) := by decide +kernel
theorem dJ6_bitCount_0f7a4_18 : decode cJ6_bitCount_0f7a4 18 = .ok (.ldc_w 266, 3) := by decide +kernel
theorem dJ6_bitCount_0f7a4_21 : decode cJ6_bitCount_0f7a4 21 = .ok (.iand, 1) := by decide +kernel
theorem dJ6_bitCount_0f7a4_22 : decode cJ6_bitCount_0f7a4 22 = .ok (.iadd, 1) := by decide +kernel
theorem dJ6_bitCount_0f7a4_23 : decode cJ6_bitCount_0f7a4 23 = .ok (.istore_n 0, 1) := by decide +kernel
theorem dJ6_bitCount_0f7a4_24 : decode cJ6_bitCount_0f7a4 24 = .ok (.iload_n 0, 1) := by decide +kernel
theorem dJ6_bitCount_0f7a4_25 : decode cJ6_bitCount_0f7a4 25 = .ok (.iload_n 0, 1) := by decide +kernel
theorem dJ6_bitCount_0f7a4_26 : decode cJ6_bitCount_0f7a4 26 = .ok (.iconst 4, 1) := by decide +kernel
theorem dJ6_bitCount_0f7a4_27 : decode cJ6_bitCount_0f7a4 27 = .ok (.iushr, 1) := by decide +kernel
theorem dJ6_bitCount_0f7a4_28 : decode cJ6_bitCount_0f7a4 28 = .ok (.iadd, 1) := by decide +kernel
theorem dJ6_bitCount_0f7a4_29 : decode cJ6_bitCount_0f7a4 29 = .ok (.ldc_w 267, 3) := by decide +kernel
theorem dJ6_bitCount_0f7a4_32 : decode cJ6_bitCount_0f7a4 32 = .ok (.iand, 1) := by decide +kernel
theorem dJ6_bitCount_0f7a4_33 : decode cJ6_bitCount_0f7a4 33 = .ok (.istore_n 0, 1) := by decide +kernel
theorem dJ6_bitCount_0f7a4_34 : decode cJ6_bitCount_0f7a4 34 = .ok (.iload_n 0, 1) := by decide +kernel
theorem dJ6_bitCount_0f7a4_35 : decode cJ6_bitCount_0f7a4 35 = .ok (.iload_n 0, 1) := by decide +kernel
theorem dJ6_bitCount_0f7a4_36 : decode cJ6_bitCount_0f7a4 36 = .ok (.bipush 8, 2) := by decide +kernel
theorem dJ6_bitCount_0f7a4_38 : decode cJ6_bitCount_0f7a4 38 = .ok (.iushr, 1) := by decide +kernel
theorem dJ6_bitCount_0f7a4_39 : decode cJ6_bitCount_0f7a4 39 = .ok (.iadd, 1) := by decide +kernel
theorem dJ6_bitCount_0f7a4_40 : decode cJ6_bitCount_0f7a4 40 = .ok (.istore_n 0, 1) := by decide +kernel
theorem dJ6_bitCount_0f7a4_41 : decode cJ6_bitCount_0f7a4 41 = .ok (.iload_n 0, 1) := by decide +kernel
theorem dJ6_bitCount_0f7a4_42 : decode cJ6_bitCount_0f7a4 42 = .ok (.iload_n 0, 1) := by decide +kernel
theorem dJ6_bitCount_0f7a4_43 : decode cJ6_bitCount_0f7a4 43 = .ok (.bipush 16, 2) := by decide +kernel
theorem dJ6_bitCount_0f7a4_45 : decode cJ6_bitCount_0f7a4 45 = .ok (.iushr, 1) := by decide +kernel
theorem dJ6_bitCount_0f7a4_46 : decode cJ6_bitCount_0f7a4 46 = .ok (.iadd, 1) := by decide +kernel
theorem dJ6_bitCount_0f7a4_47 : decode cJ6_bitCount_0f7a4 47 = .ok (.istore_n 0, 1) := by decide +kernel
theorem dJ6_bitCount_0f7a4_48 : decode cJ6_bitCount_0f7a4 48 = .ok (.iload_n 0, 1) := by decide +kernel
theorem dJ6_bitCount_0f7a4_49 : decode cJ6_bitCount_0f7a4 49 = .ok (.bipush 63, 2) := by decide +kernel
theorem dJ6_bitCount_0f7a4_51 : decode cJ6_bitCount_0f7a4 51 = .ok (.iand, 1) := by decide +kernel
theorem dJ6_bitCount_0f7a4_52 : decode cJ6_bitCount_0f7a4 52 = .ok (.ireturn, 1) := by decide +kernel
theorem dJ9_abs_0f7a4_0 : decode cJ9_abs_0f7a4 0 = .ok (.iload_n 0, 1) := by decide +kernel
theorem dJ9_abs_0f7a4_1 : decode cJ9_abs_0f7a4 1 = .ok (.ifCond .ge 8, 3) := by decide +kernel
theorem dJ9_abs_0f7a4_4 : decode cJ9_abs_0f7a4 4 = .ok (.iload_n 0, 1) := by decide +kernel
theorem dJ9_abs_0f7a4_5 : decode cJ9_abs_0f7a4 5 = .ok (.ineg, 1) := by decide +kernel
theorem dJ9_abs_0f7a4_6 : decode cJ9_abs_0f7a4 6 = .ok (.goto 4, 3) := by decide +kernel
theorem dJ9_abs_0f7a4_9 : decode cJ9_abs_0f7a4 9 = .ok (.iload_n 0, 1) := by decide +kernel
theorem dJ9_abs_0f7a4_10 : decode cJ9_abs_0f7a4 10 = .ok (.ireturn, 1) := by decide +kernel
theorem dJ9_min_7cf53_0 : decode cJ9_min_7cf53 0 = .ok (.iload_n 0, 1) := by decide +kernel
theorem dJ9_min_7cf53_1 : decode cJ9_min_7cf53 1 = .ok (.iload_n 1, 1) := by decide +kernel
theorem dJ9_min_7cf53_2 : decode cJ9_min_7cf53 2 = .ok (.if_icmp .gt 7, 3) := by decide +kernel
theorem dJ9_min_7cf53_5 : decode cJ9_min_7cf53 5 = .ok (.iload_n 0, 1) := by decide +kernel
theorem dJ9_min_7cf53_6 : decode cJ9_min_7cf53 6 = .ok (.goto 4, 3) := by decide +kernel
theorem dJ9_min_7cf53_9 : decode cJ9_min_7cf53 9 = .ok (.iload_n 1, 1) := by decide +kernel
theorem dJ9_min_7cf53_10 : decode cJ9_min_7cf53 10 = .ok (.ireturn, 1) := by decide +kernel
end
section
section LN
variable {p : Program} {l : Launch} {e : Env} {R : Room} {s : State} {m : MethodId} {args : Array Value} {below : List Frame} {meth : Method} {c : Code} {H H0 : Heap} {locs : List Loc} {cells slots : Nat} {Q : State → Prop} {cc : ByteArray} {pc : Nat} {ls : Array Slot} {rest : List Value} {A : Nat → Prop} {D : va_G} {cl : List vw_C} {tys : List (ClassId × FieldType)} {ws : va_W} {a : Nat}
/-! numbers: an array's contents as natural numbers -/
abbrev nF (g : Nat → Nat) : Nat → Int32 := fun k => nI (g k)
def upN (g : Nat → Nat) (k v : Nat) : Nat → Nat := fun j => if j = k then v else g j
theorem upN_s {g : Nat → Nat} {k v : Nat} : upN g k v k = v := by simp [upN]
theorem upN_n {g : Nat → Nat} {k v j : Nat} (h : j ≠ k) : upN g k v j = g j := by simp [upN, h]
theorem upN_le {g : Nat → Nat} {k v B : Nat} (h : ∀ j, g j ≤ B) (hv : v ≤ B) : ∀ j, upN g k v j ≤ B := by
  intro j
  by_cases e : j = k
  · subst e; rw [upN_s]; exact hv
  · rw [upN_n e]; exact h j
theorem nF_up (g : Nat → Nat) (k v : Nat) : upd (nF g) k (nI v) = nF (upN g k v) := by
  funext j
  by_cases e : j = k
  · subst e; rw [pk_us]; show nI v = nI (upN g j v j); rw [upN_s]
  · rw [pk_un e]; show nI (g j) = nI (upN g k v j); rw [upN_n e]
/-- the bits of a that m has not -/
def nclr (a m : Nat) : Nat := a ^^^ (a &&& m)
theorem nclr_t (a m i : Nat) : (nclr a m).testBit i = (a.testBit i && !m.testBit i) := by
  unfold nclr
  rw [Nat.testBit_xor, Nat.testBit_and]
  cases a.testBit i <;> cases m.testBit i <;> rfl
theorem nI_bv (n : Nat) : (nI n).toBitVec = BitVec.ofNat 32 n := rfl
theorem nI_inj {x y : Int32} (h : x.toBitVec = y.toBitVec) : x = y := Int32.toBitVec_inj.mp h
theorem ln_andE (a b : Nat) : nI a &&& nI b = nI (a &&& b) := by
  apply nI_inj
  rw [Int32.toBitVec_and, nI_bv, nI_bv, nI_bv]
  apply BitVec.eq_of_getLsbD_eq
  intro i hi
  simp [BitVec.getLsbD_ofNat, hi]
theorem ln_orE (a b : Nat) : nI a ||| nI b = nI (a ||| b) := by
  apply nI_inj
  rw [Int32.toBitVec_or, nI_bv, nI_bv, nI_bv]
  apply BitVec.eq_of_getLsbD_eq
  intro i hi
  simp [BitVec.getLsbD_ofNat, hi]
theorem ln_xorE (a b : Nat) : nI a ^^^ nI b = nI (a ^^^ b) := by
  apply nI_inj
  rw [Int32.toBitVec_xor, nI_bv, nI_bv, nI_bv]
  apply BitVec.eq_of_getLsbD_eq
  intro i hi
  simp [BitVec.getLsbD_ofNat, hi]
theorem ln_clrE (a b : Nat) : nI a &&& (nI b ^^^ (-1)) = nI (nclr a b) := by
  apply nI_inj
  rw [Int32.toBitVec_and, Int32.toBitVec_xor, nI_bv, nI_bv, nI_bv, show (-1 : Int32).toBitVec = BitVec.allOnes 32 from by decide]
  apply BitVec.eq_of_getLsbD_eq
  intro i hi
  rw [BitVec.getLsbD_and, BitVec.getLsbD_xor, BitVec.getLsbD_allOnes, BitVec.getLsbD_ofNat, BitVec.getLsbD_ofNat, BitVec.getLsbD_ofNat, nclr_t]
  cases a.testBit i <;> cases b.testBit i <;> simp [hi]
theorem ln_sm : ∀ b, b < 32 → ((nI b &&& 31).toBitVec.smod 32).toNat = b := by decide +kernel
theorem ln_shlE {b : Nat} (hb : b < 31) : (nI 1) <<< (nI b &&& 31) = nI (2 ^ b) := by
  have h := pk_shlN (n := 1) (nI b &&& 31) b (ln_sm b (by omega)) (by have : 2 ^ b < 2 ^ 31 := Nat.pow_lt_pow_right (by decide) hb; omega)
  rw [h, Nat.one_mul]
theorem ln_shrE {a b : Nat} (ha : a < 2 ^ 31) (hb : b < 32) : (nI a) >>> (nI b &&& 31) = nI (a >>> b) := by
  rw [pk_shrN ha (nI b &&& 31) b (ln_sm b hb), Nat.shiftRight_eq_div_pow]
theorem ln_bit0 (a b : Nat) : (a >>> b) &&& 1 = 0 ↔ a.testBit b = false := by
  unfold Nat.testBit
  rw [Nat.and_comm]
  cases h : (1 &&& a >>> b) with
  | zero => simp
  | succ n => simp
theorem ln_bit1 (a b : Nat) : ¬ (a >>> b) &&& 1 = 0 ↔ a.testBit b = true := by
  rw [ln_bit0]; cases a.testBit b <;> simp
theorem ln_bitlt (a b : Nat) : (a >>> b) &&& 1 < 2 := by
  rw [Nat.and_one_is_mod]; omega
theorem ln_bitE (a b : Nat) : (a >>> b) &&& 1 = if a.testBit b then 1 else 0 := by
  have h1 := ln_bit0 a b
  have h2 := ln_bitlt a b
  cases h : a.testBit b with
  | false => simpa using h1.mpr h
  | true =>
    have : ¬ (a >>> b) &&& 1 = 0 := fun q => by rw [h1.mp q] at h; cases h
    rw [if_pos rfl]; omega

theorem ln_iadd (hx : p.tables.exec = Jvm.exec) (hb : c.code = cc) {a b : Nat} (hd : decode cc pc = .ok (.iadd, 1)) (k : W p l e R s m args below meth c H locs cells slots Q (F0 m (pc + 1) ls (.int (nI (a + b)) :: rest))) : W p l e R s m args below meth c H locs cells slots Q (F0 m pc ls (.int (nI b) :: .int (nI a) :: rest)) := lv_iadd hx hb hd (by rw [nI_add]; exact k)
theorem ln_isub (hx : p.tables.exec = Jvm.exec) (hb : c.code = cc) {a b : Nat} (hd : decode cc pc = .ok (.isub, 1)) (h : b ≤ a) (k : W p l e R s m args below meth c H locs cells slots Q (F0 m (pc + 1) ls (.int (nI (a - b)) :: rest))) : W p l e R s m args below meth c H locs cells slots Q (F0 m pc ls (.int (nI b) :: .int (nI a) :: rest)) := lv_isub hx hb hd (by rw [pk_sub h]; exact k)
theorem ln_imul (hx : p.tables.exec = Jvm.exec) (hb : c.code = cc) {a b : Nat} (hd : decode cc pc = .ok (.imul, 1)) (k : W p l e R s m args below meth c H locs cells slots Q (F0 m (pc + 1) ls (.int (nI (a * b)) :: rest))) : W p l e R s m args below meth c H locs cells slots Q (F0 m pc ls (.int (nI b) :: .int (nI a) :: rest)) := lv_imul hx hb hd (by rw [pk_mul]; exact k)
theorem ln_iand (hx : p.tables.exec = Jvm.exec) (hb : c.code = cc) {a b : Nat} (hd : decode cc pc = .ok (.iand, 1)) (k : W p l e R s m args below meth c H locs cells slots Q (F0 m (pc + 1) ls (.int (nI (a &&& b)) :: rest))) : W p l e R s m args below meth c H locs cells slots Q (F0 m pc ls (.int (nI b) :: .int (nI a) :: rest)) := lv_iand hx hb hd (by rw [ln_andE]; exact k)
theorem ln_ior (hx : p.tables.exec = Jvm.exec) (hb : c.code = cc) {a b : Nat} (hd : decode cc pc = .ok (.ior, 1)) (k : W p l e R s m args below meth c H locs cells slots Q (F0 m (pc + 1) ls (.int (nI (a ||| b)) :: rest))) : W p l e R s m args below meth c H locs cells slots Q (F0 m pc ls (.int (nI b) :: .int (nI a) :: rest)) := lv_ior hx hb hd (by rw [ln_orE]; exact k)
theorem ln_ixor (hx : p.tables.exec = Jvm.exec) (hb : c.code = cc) {a b : Nat} (hd : decode cc pc = .ok (.ixor, 1)) (k : W p l e R s m args below meth c H locs cells slots Q (F0 m (pc + 1) ls (.int (nI (a ^^^ b)) :: rest))) : W p l e R s m args below meth c H locs cells slots Q (F0 m pc ls (.int (nI b) :: .int (nI a) :: rest)) := lv_ixor hx hb hd (by rw [ln_xorE]; exact k)
theorem ln_ishr (hx : p.tables.exec = Jvm.exec) (hb : c.code = cc) {a b : Nat} (hd : decode cc pc = .ok (.ishr, 1)) (h1 : a < 2 ^ 31) (h2 : b < 32) (k : W p l e R s m args below meth c H locs cells slots Q (F0 m (pc + 1) ls (.int (nI (a >>> b)) :: rest))) : W p l e R s m args below meth c H locs cells slots Q (F0 m pc ls (.int (nI b) :: .int (nI a) :: rest)) := lv_ishr hx hb hd (by rw [ln_shrE h1 h2]; exact k)
theorem ln_ishl1 (hx : p.tables.exec = Jvm.exec) (hb : c.code = cc) {b : Nat} (hd : decode cc pc = .ok (.ishl, 1)) (h : b < 31) (k : W p l e R s m args below meth c H locs cells slots Q (F0 m (pc + 1) ls (.int (nI (2 ^ b)) :: rest))) : W p l e R s m args below meth c H locs cells slots Q (F0 m pc ls (.int (nI b) :: .int (nI 1) :: rest)) := lv_ishl hx hb hd (by rw [ln_shlE h]; exact k)
theorem ln_iclr (hx : p.tables.exec = Jvm.exec) (hb : c.code = cc) {a b : Nat} (hd : decode cc pc = .ok (.iand, 1)) (k : W p l e R s m args below meth c H locs cells slots Q (F0 m (pc + 1) ls (.int (nI (nclr a b)) :: rest))) : W p l e R s m args below meth c H locs cells slots Q (F0 m pc ls (.int (nI b ^^^ (-1)) :: .int (nI a) :: rest)) := lv_iand hx hb hd (by rw [ln_clrE]; exact k)
theorem ln_ne0 {b : Nat} (h0 : 0 < b) (h1 : b < 2 ^ 31) : ¬ nI b = 0 := nI_ne0 h0 h1
theorem ln_idiv (hx : p.tables.exec = Jvm.exec) (hb : c.code = cc) {a b : Nat} (hd : decode cc pc = .ok (.idiv, 1)) (h1 : a < 2 ^ 31) (h0 : 0 < b) (h2 : b < 2 ^ 31) (k : W p l e R s m args below meth c H locs cells slots Q (F0 m (pc + 1) ls (.int (nI (a / b)) :: rest))) : W p l e R s m args below meth c H locs cells slots Q (F0 m pc ls (.int (nI b) :: .int (nI a) :: rest)) := lv_idiv hx hb hd (ln_ne0 h0 h2) (by rw [pk_div h1 h0 h2]; exact k)
theorem ln_irem (hx : p.tables.exec = Jvm.exec) (hb : c.code = cc) {a b : Nat} (hd : decode cc pc = .ok (.irem, 1)) (h1 : a < 2 ^ 31) (h0 : 0 < b) (h2 : b < 2 ^ 31) (k : W p l e R s m args below meth c H locs cells slots Q (F0 m (pc + 1) ls (.int (nI (a % b)) :: rest))) : W p l e R s m args below meth c H locs cells slots Q (F0 m pc ls (.int (nI b) :: .int (nI a) :: rest)) := lv_irem hx hb hd (ln_ne0 h0 h2) (by rw [pk_rem h1 h0 h2]; exact k)
theorem ln_icmp_eq (hx : p.tables.exec = Jvm.exec) (hb : c.code = cc) {a b : Nat} {off : Int} {tgt : Nat} (hd : decode cc pc = .ok (.if_icmp .eq off, 3)) (ht : (pc : Int) + off = (tgt : Int)) (h1 : a < 2 ^ 31) (h2 : b < 2 ^ 31) (kt : a = b → W p l e R s m args below meth c H locs cells slots Q (F0 m tgt ls rest)) (kf : ¬ a = b → W p l e R s m args below meth c H locs cells slots Q (F0 m (pc + 3) ls rest)) : W p l e R s m args below meth c H locs cells slots Q (F0 m pc ls (.int (nI b) :: .int (nI a) :: rest)) := lv_icmp_eq hx hb hd ht (fun q => kt ((nI_eq h1 h2).mp q)) (fun q => kf (fun z => q ((nI_eq h1 h2).mpr z)))
theorem ln_icmp_ne (hx : p.tables.exec = Jvm.exec) (hb : c.code = cc) {a b : Nat} {off : Int} {tgt : Nat} (hd : decode cc pc = .ok (.if_icmp .ne off, 3)) (ht : (pc : Int) + off = (tgt : Int)) (h1 : a < 2 ^ 31) (h2 : b < 2 ^ 31) (kt : ¬ a = b → W p l e R s m args below meth c H locs cells slots Q (F0 m tgt ls rest)) (kf : a = b → W p l e R s m args below meth c H locs cells slots Q (F0 m (pc + 3) ls rest)) : W p l e R s m args below meth c H locs cells slots Q (F0 m pc ls (.int (nI b) :: .int (nI a) :: rest)) := lv_icmp_ne hx hb hd ht (fun q => kt (fun z => q ((nI_eq h1 h2).mpr z))) (fun q => kf ((nI_eq h1 h2).mp q))
theorem ln_icmp_lt (hx : p.tables.exec = Jvm.exec) (hb : c.code = cc) {a b : Nat} {off : Int} {tgt : Nat} (hd : decode cc pc = .ok (.if_icmp .lt off, 3)) (ht : (pc : Int) + off = (tgt : Int)) (h1 : a < 2 ^ 31) (h2 : b < 2 ^ 31) (kt : a < b → W p l e R s m args below meth c H locs cells slots Q (F0 m tgt ls rest)) (kf : b ≤ a → W p l e R s m args below meth c H locs cells slots Q (F0 m (pc + 3) ls rest)) : W p l e R s m args below meth c H locs cells slots Q (F0 m pc ls (.int (nI b) :: .int (nI a) :: rest)) := lv_icmp_lt hx hb hd ht (fun q => kt ((nI_ltI h1 h2).mp q)) (fun q => kf (Nat.not_lt.mp (fun z => q ((nI_ltI h1 h2).mpr z))))
theorem ln_icmp_ge (hx : p.tables.exec = Jvm.exec) (hb : c.code = cc) {a b : Nat} {off : Int} {tgt : Nat} (hd : decode cc pc = .ok (.if_icmp .ge off, 3)) (ht : (pc : Int) + off = (tgt : Int)) (h1 : a < 2 ^ 31) (h2 : b < 2 ^ 31) (kt : b ≤ a → W p l e R s m args below meth c H locs cells slots Q (F0 m tgt ls rest)) (kf : a < b → W p l e R s m args below meth c H locs cells slots Q (F0 m (pc + 3) ls rest)) : W p l e R s m args below meth c H locs cells slots Q (F0 m pc ls (.int (nI b) :: .int (nI a) :: rest)) := lv_icmp_ge hx hb hd ht (fun q => kt ((nI_leI h2 h1).mp q)) (fun q => kf (Nat.not_le.mp (fun z => q ((nI_leI h2 h1).mpr z))))
theorem ln_icmp_gt (hx : p.tables.exec = Jvm.exec) (hb : c.code = cc) {a b : Nat} {off : Int} {tgt : Nat} (hd : decode cc pc = .ok (.if_icmp .gt off, 3)) (ht : (pc : Int) + off = (tgt : Int)) (h1 : a < 2 ^ 31) (h2 : b < 2 ^ 31) (kt : b < a → W p l e R s m args below meth c H locs cells slots Q (F0 m tgt ls rest)) (kf : a ≤ b → W p l e R s m args below meth c H locs cells slots Q (F0 m (pc + 3) ls rest)) : W p l e R s m args below meth c H locs cells slots Q (F0 m pc ls (.int (nI b) :: .int (nI a) :: rest)) := lv_icmp_gt hx hb hd ht (fun q => kt ((nI_ltI h2 h1).mp q)) (fun q => kf (Nat.not_lt.mp (fun z => q ((nI_ltI h2 h1).mpr z))))
theorem ln_icmp_le (hx : p.tables.exec = Jvm.exec) (hb : c.code = cc) {a b : Nat} {off : Int} {tgt : Nat} (hd : decode cc pc = .ok (.if_icmp .le off, 3)) (ht : (pc : Int) + off = (tgt : Int)) (h1 : a < 2 ^ 31) (h2 : b < 2 ^ 31) (kt : a ≤ b → W p l e R s m args below meth c H locs cells slots Q (F0 m tgt ls rest)) (kf : b < a → W p l e R s m args below meth c H locs cells slots Q (F0 m (pc + 3) ls rest)) : W p l e R s m args below meth c H locs cells slots Q (F0 m pc ls (.int (nI b) :: .int (nI a) :: rest)) := lv_icmp_le hx hb hd ht (fun q => kt ((nI_leI h1 h2).mp q)) (fun q => kf (Nat.not_le.mp (fun z => q ((nI_leI h1 h2).mpr z))))
theorem ln_z0 {a : Nat} (h : a < 2 ^ 31) : nI a = 0 ↔ a = 0 := (by rw [← nI_0]; exact nI_eq h (by decide))
theorem ln_zl {a : Nat} (h : a < 2 ^ 31) : ¬ nI a < 0 := nI_pos h
theorem ln_zg {a : Nat} (h : a < 2 ^ 31) : 0 ≤ nI a := nI_pos' h
theorem ln_zp {a : Nat} (h : a < 2 ^ 31) : 0 < nI a ↔ 0 < a := (by rw [← nI_0]; exact nI_ltI (by decide) h)
theorem ln_zn {a : Nat} (h : a < 2 ^ 31) : nI a ≤ 0 ↔ a = 0 := (by rw [← nI_0]; exact (nI_leI h (by decide)).trans Nat.le_zero)
theorem ln_if_eq (hx : p.tables.exec = Jvm.exec) (hb : c.code = cc) {a : Nat} {off : Int} {tgt : Nat} (hd : decode cc pc = .ok (.ifCond .eq off, 3)) (ht : (pc : Int) + off = (tgt : Int)) (h1 : a < 2 ^ 31) (kt : a = 0 → W p l e R s m args below meth c H locs cells slots Q (F0 m tgt ls rest)) (kf : ¬ a = 0 → W p l e R s m args below meth c H locs cells slots Q (F0 m (pc + 3) ls rest)) : W p l e R s m args below meth c H locs cells slots Q (F0 m pc ls (.int (nI a) :: rest)) := lv_if_eq hx hb hd ht (fun q => kt ((ln_z0 h1).mp q)) (fun q => kf (fun z => q ((ln_z0 h1).mpr z)))
theorem ln_if_ne (hx : p.tables.exec = Jvm.exec) (hb : c.code = cc) {a : Nat} {off : Int} {tgt : Nat} (hd : decode cc pc = .ok (.ifCond .ne off, 3)) (ht : (pc : Int) + off = (tgt : Int)) (h1 : a < 2 ^ 31) (kt : ¬ a = 0 → W p l e R s m args below meth c H locs cells slots Q (F0 m tgt ls rest)) (kf : a = 0 → W p l e R s m args below meth c H locs cells slots Q (F0 m (pc + 3) ls rest)) : W p l e R s m args below meth c H locs cells slots Q (F0 m pc ls (.int (nI a) :: rest)) := lv_if_ne hx hb hd ht (fun q => kt (fun z => q ((ln_z0 h1).mpr z))) (fun q => kf ((ln_z0 h1).mp q))
theorem ln_if_gt (hx : p.tables.exec = Jvm.exec) (hb : c.code = cc) {a : Nat} {off : Int} {tgt : Nat} (hd : decode cc pc = .ok (.ifCond .gt off, 3)) (ht : (pc : Int) + off = (tgt : Int)) (h1 : a < 2 ^ 31) (kt : 0 < a → W p l e R s m args below meth c H locs cells slots Q (F0 m tgt ls rest)) (kf : a = 0 → W p l e R s m args below meth c H locs cells slots Q (F0 m (pc + 3) ls rest)) : W p l e R s m args below meth c H locs cells slots Q (F0 m pc ls (.int (nI a) :: rest)) := lv_if_gt hx hb hd ht (fun q => kt ((ln_zp h1).mp q)) (fun q => kf (Nat.eq_zero_of_not_pos (fun z => q ((ln_zp h1).mpr z))))
theorem ln_if_le (hx : p.tables.exec = Jvm.exec) (hb : c.code = cc) {a : Nat} {off : Int} {tgt : Nat} (hd : decode cc pc = .ok (.ifCond .le off, 3)) (ht : (pc : Int) + off = (tgt : Int)) (h1 : a < 2 ^ 31) (kt : a = 0 → W p l e R s m args below meth c H locs cells slots Q (F0 m tgt ls rest)) (kf : 0 < a → W p l e R s m args below meth c H locs cells slots Q (F0 m (pc + 3) ls rest)) : W p l e R s m args below meth c H locs cells slots Q (F0 m pc ls (.int (nI a) :: rest)) := lv_if_le hx hb hd ht (fun q => kt ((ln_zn h1).mp q)) (fun q => kf (Nat.pos_of_ne_zero (fun z => q ((ln_zn h1).mpr z))))
theorem ln_if_lt (hx : p.tables.exec = Jvm.exec) (hb : c.code = cc) {a : Nat} {off : Int} {tgt : Nat} (hd : decode cc pc = .ok (.ifCond .lt off, 3)) (ht : (pc : Int) + off = (tgt : Int)) (h1 : a < 2 ^ 31) (kf : W p l e R s m args below meth c H locs cells slots Q (F0 m (pc + 3) ls rest)) : W p l e R s m args below meth c H locs cells slots Q (F0 m pc ls (.int (nI a) :: rest)) := lv_if_lt hx hb hd ht (fun q => absurd q (ln_zl h1)) (fun _ => kf)
theorem ln_if_ge (hx : p.tables.exec = Jvm.exec) (hb : c.code = cc) {a : Nat} {off : Int} {tgt : Nat} (hd : decode cc pc = .ok (.ifCond .ge off, 3)) (ht : (pc : Int) + off = (tgt : Int)) (h1 : a < 2 ^ 31) (kt : W p l e R s m args below meth c H locs cells slots Q (F0 m tgt ls rest)) : W p l e R s m args below meth c H locs cells slots Q (F0 m pc ls (.int (nI a) :: rest)) := lv_if_ge hx hb hd ht (fun _ => kt) (fun q => absurd (ln_zg h1) q)
theorem ln_if_eqT (hx : p.tables.exec = Jvm.exec) (hb : c.code = cc) {x : Int32} {off : Int} {tgt : Nat} (hd : decode cc pc = .ok (.ifCond .eq off, 3)) (ht : (pc : Int) + off = (tgt : Int)) (h : x = 0) (kt : W p l e R s m args below meth c H locs cells slots Q (F0 m tgt ls rest)) : W p l e R s m args below meth c H locs cells slots Q (F0 m pc ls (.int x :: rest)) := lv_if_eq hx hb hd ht (fun _ => kt) (fun q => absurd h q)
theorem ln_if_eqF (hx : p.tables.exec = Jvm.exec) (hb : c.code = cc) {x : Int32} {off : Int} {tgt : Nat} (hd : decode cc pc = .ok (.ifCond .eq off, 3)) (ht : (pc : Int) + off = (tgt : Int)) (h : ¬ (x = 0)) (kf : W p l e R s m args below meth c H locs cells slots Q (F0 m (pc + 3) ls rest)) : W p l e R s m args below meth c H locs cells slots Q (F0 m pc ls (.int x :: rest)) := lv_if_eq hx hb hd ht (fun q => absurd q h) (fun _ => kf)
theorem ln_if_neT (hx : p.tables.exec = Jvm.exec) (hb : c.code = cc) {x : Int32} {off : Int} {tgt : Nat} (hd : decode cc pc = .ok (.ifCond .ne off, 3)) (ht : (pc : Int) + off = (tgt : Int)) (h : ¬ x = 0) (kt : W p l e R s m args below meth c H locs cells slots Q (F0 m tgt ls rest)) : W p l e R s m args below meth c H locs cells slots Q (F0 m pc ls (.int x :: rest)) := lv_if_ne hx hb hd ht (fun _ => kt) (fun q => absurd q h)
theorem ln_if_neF (hx : p.tables.exec = Jvm.exec) (hb : c.code = cc) {x : Int32} {off : Int} {tgt : Nat} (hd : decode cc pc = .ok (.ifCond .ne off, 3)) (ht : (pc : Int) + off = (tgt : Int)) (h : ¬ (¬ x = 0)) (kf : W p l e R s m args below meth c H locs cells slots Q (F0 m (pc + 3) ls rest)) : W p l e R s m args below meth c H locs cells slots Q (F0 m pc ls (.int x :: rest)) := lv_if_ne hx hb hd ht (fun q => absurd q h) (fun _ => kf)
theorem ln_if_ltT (hx : p.tables.exec = Jvm.exec) (hb : c.code = cc) {x : Int32} {off : Int} {tgt : Nat} (hd : decode cc pc = .ok (.ifCond .lt off, 3)) (ht : (pc : Int) + off = (tgt : Int)) (h : x < 0) (kt : W p l e R s m args below meth c H locs cells slots Q (F0 m tgt ls rest)) : W p l e R s m args below meth c H locs cells slots Q (F0 m pc ls (.int x :: rest)) := lv_if_lt hx hb hd ht (fun _ => kt) (fun q => absurd h q)
theorem ln_if_ltF (hx : p.tables.exec = Jvm.exec) (hb : c.code = cc) {x : Int32} {off : Int} {tgt : Nat} (hd : decode cc pc = .ok (.ifCond .lt off, 3)) (ht : (pc : Int) + off = (tgt : Int)) (h : ¬ (x < 0)) (kf : W p l e R s m args below meth c H locs cells slots Q (F0 m (pc + 3) ls rest)) : W p l e R s m args below meth c H locs cells slots Q (F0 m pc ls (.int x :: rest)) := lv_if_lt hx hb hd ht (fun q => absurd q h) (fun _ => kf)
theorem ln_if_geT (hx : p.tables.exec = Jvm.exec) (hb : c.code = cc) {x : Int32} {off : Int} {tgt : Nat} (hd : decode cc pc = .ok (.ifCond .ge off, 3)) (ht : (pc : Int) + off = (tgt : Int)) (h : 0 ≤ x) (kt : W p l e R s m args below meth c H locs cells slots Q (F0 m tgt ls rest)) : W p l e R s m args below meth c H locs cells slots Q (F0 m pc ls (.int x :: rest)) := lv_if_ge hx hb hd ht (fun _ => kt) (fun q => absurd h q)
theorem ln_if_geF (hx : p.tables.exec = Jvm.exec) (hb : c.code = cc) {x : Int32} {off : Int} {tgt : Nat} (hd : decode cc pc = .ok (.ifCond .ge off, 3)) (ht : (pc : Int) + off = (tgt : Int)) (h : ¬ (0 ≤ x)) (kf : W p l e R s m args below meth c H locs cells slots Q (F0 m (pc + 3) ls rest)) : W p l e R s m args below meth c H locs cells slots Q (F0 m pc ls (.int x :: rest)) := lv_if_ge hx hb hd ht (fun q => absurd q h) (fun _ => kf)
theorem ln_if_gtT (hx : p.tables.exec = Jvm.exec) (hb : c.code = cc) {x : Int32} {off : Int} {tgt : Nat} (hd : decode cc pc = .ok (.ifCond .gt off, 3)) (ht : (pc : Int) + off = (tgt : Int)) (h : 0 < x) (kt : W p l e R s m args below meth c H locs cells slots Q (F0 m tgt ls rest)) : W p l e R s m args below meth c H locs cells slots Q (F0 m pc ls (.int x :: rest)) := lv_if_gt hx hb hd ht (fun _ => kt) (fun q => absurd h q)
theorem ln_if_gtF (hx : p.tables.exec = Jvm.exec) (hb : c.code = cc) {x : Int32} {off : Int} {tgt : Nat} (hd : decode cc pc = .ok (.ifCond .gt off, 3)) (ht : (pc : Int) + off = (tgt : Int)) (h : ¬ (0 < x)) (kf : W p l e R s m args below meth c H locs cells slots Q (F0 m (pc + 3) ls rest)) : W p l e R s m args below meth c H locs cells slots Q (F0 m pc ls (.int x :: rest)) := lv_if_gt hx hb hd ht (fun q => absurd q h) (fun _ => kf)
theorem ln_if_leT (hx : p.tables.exec = Jvm.exec) (hb : c.code = cc) {x : Int32} {off : Int} {tgt : Nat} (hd : decode cc pc = .ok (.ifCond .le off, 3)) (ht : (pc : Int) + off = (tgt : Int)) (h : x ≤ 0) (kt : W p l e R s m args below meth c H locs cells slots Q (F0 m tgt ls rest)) : W p l e R s m args below meth c H locs cells slots Q (F0 m pc ls (.int x :: rest)) := lv_if_le hx hb hd ht (fun _ => kt) (fun q => absurd h q)
theorem ln_if_leF (hx : p.tables.exec = Jvm.exec) (hb : c.code = cc) {x : Int32} {off : Int} {tgt : Nat} (hd : decode cc pc = .ok (.ifCond .le off, 3)) (ht : (pc : Int) + off = (tgt : Int)) (h : ¬ (x ≤ 0)) (kf : W p l e R s m args below meth c H locs cells slots Q (F0 m (pc + 3) ls rest)) : W p l e R s m args below meth c H locs cells slots Q (F0 m pc ls (.int x :: rest)) := lv_if_le hx hb hd ht (fun q => absurd q h) (fun _ => kf)
theorem ln_icmp_eqT (hx : p.tables.exec = Jvm.exec) (hb : c.code = cc) {x y : Int32} {off : Int} {tgt : Nat} (hd : decode cc pc = .ok (.if_icmp .eq off, 3)) (ht : (pc : Int) + off = (tgt : Int)) (h : x = y) (kt : W p l e R s m args below meth c H locs cells slots Q (F0 m tgt ls rest)) : W p l e R s m args below meth c H locs cells slots Q (F0 m pc ls (.int y :: .int x :: rest)) := lv_icmp_eq hx hb hd ht (fun _ => kt) (fun q => absurd h q)
theorem ln_icmp_eqF (hx : p.tables.exec = Jvm.exec) (hb : c.code = cc) {x y : Int32} {off : Int} {tgt : Nat} (hd : decode cc pc = .ok (.if_icmp .eq off, 3)) (ht : (pc : Int) + off = (tgt : Int)) (h : ¬ (x = y)) (kf : W p l e R s m args below meth c H locs cells slots Q (F0 m (pc + 3) ls rest)) : W p l e R s m args below meth c H locs cells slots Q (F0 m pc ls (.int y :: .int x :: rest)) := lv_icmp_eq hx hb hd ht (fun q => absurd q h) (fun _ => kf)
theorem ln_icmp_neT (hx : p.tables.exec = Jvm.exec) (hb : c.code = cc) {x y : Int32} {off : Int} {tgt : Nat} (hd : decode cc pc = .ok (.if_icmp .ne off, 3)) (ht : (pc : Int) + off = (tgt : Int)) (h : ¬ x = y) (kt : W p l e R s m args below meth c H locs cells slots Q (F0 m tgt ls rest)) : W p l e R s m args below meth c H locs cells slots Q (F0 m pc ls (.int y :: .int x :: rest)) := lv_icmp_ne hx hb hd ht (fun _ => kt) (fun q => absurd q h)
theorem ln_icmp_neF (hx : p.tables.exec = Jvm.exec) (hb : c.code = cc) {x y : Int32} {off : Int} {tgt : Nat} (hd : decode cc pc = .ok (.if_icmp .ne off, 3)) (ht : (pc : Int) + off = (tgt : Int)) (h : ¬ (¬ x = y)) (kf : W p l e R s m args below meth c H locs cells slots Q (F0 m (pc + 3) ls rest)) : W p l e R s m args below meth c H locs cells slots Q (F0 m pc ls (.int y :: .int x :: rest)) := lv_icmp_ne hx hb hd ht (fun q => absurd q h) (fun _ => kf)
theorem ln_icmp_ltT (hx : p.tables.exec = Jvm.exec) (hb : c.code = cc) {x y : Int32} {off : Int} {tgt : Nat} (hd : decode cc pc = .ok (.if_icmp .lt off, 3)) (ht : (pc : Int) + off = (tgt : Int)) (h : x < y) (kt : W p l e R s m args below meth c H locs cells slots Q (F0 m tgt ls rest)) : W p l e R s m args below meth c H locs cells slots Q (F0 m pc ls (.int y :: .int x :: rest)) := lv_icmp_lt hx hb hd ht (fun _ => kt) (fun q => absurd h q)
theorem ln_icmp_ltF (hx : p.tables.exec = Jvm.exec) (hb : c.code = cc) {x y : Int32} {off : Int} {tgt : Nat} (hd : decode cc pc = .ok (.if_icmp .lt off, 3)) (ht : (pc : Int) + off = (tgt : Int)) (h : ¬ (x < y)) (kf : W p l e R s m args below meth c H locs cells slots Q (F0 m (pc + 3) ls rest)) : W p l e R s m args below meth c H locs cells slots Q (F0 m pc ls (.int y :: .int x :: rest)) := lv_icmp_lt hx hb hd ht (fun q => absurd q h) (fun _ => kf)
theorem ln_icmp_geT (hx : p.tables.exec = Jvm.exec) (hb : c.code = cc) {x y : Int32} {off : Int} {tgt : Nat} (hd : decode cc pc = .ok (.if_icmp .ge off, 3)) (ht : (pc : Int) + off = (tgt : Int)) (h : y ≤ x) (kt : W p l e R s m args below meth c H locs cells slots Q (F0 m tgt ls rest)) : W p l e R s m args below meth c H locs cells slots Q (F0 m pc ls (.int y :: .int x :: rest)) := lv_icmp_ge hx hb hd ht (fun _ => kt) (fun q => absurd h q)
theorem ln_icmp_geF (hx : p.tables.exec = Jvm.exec) (hb : c.code = cc) {x y : Int32} {off : Int} {tgt : Nat} (hd : decode cc pc = .ok (.if_icmp .ge off, 3)) (ht : (pc : Int) + off = (tgt : Int)) (h : ¬ (y ≤ x)) (kf : W p l e R s m args below meth c H locs cells slots Q (F0 m (pc + 3) ls rest)) : W p l e R s m args below meth c H locs cells slots Q (F0 m pc ls (.int y :: .int x :: rest)) := lv_icmp_ge hx hb hd ht (fun q => absurd q h) (fun _ => kf)
theorem ln_icmp_gtT (hx : p.tables.exec = Jvm.exec) (hb : c.code = cc) {x y : Int32} {off : Int} {tgt : Nat} (hd : decode cc pc = .ok (.if_icmp .gt off, 3)) (ht : (pc : Int) + off = (tgt : Int)) (h : y < x) (kt : W p l e R s m args below meth c H locs cells slots Q (F0 m tgt ls rest)) : W p l e R s m args below meth c H locs cells slots Q (F0 m pc ls (.int y :: .int x :: rest)) := lv_icmp_gt hx hb hd ht (fun _ => kt) (fun q => absurd h q)
theorem ln_icmp_gtF (hx : p.tables.exec = Jvm.exec) (hb : c.code = cc) {x y : Int32} {off : Int} {tgt : Nat} (hd : decode cc pc = .ok (.if_icmp .gt off, 3)) (ht : (pc : Int) + off = (tgt : Int)) (h : ¬ (y < x)) (kf : W p l e R s m args below meth c H locs cells slots Q (F0 m (pc + 3) ls rest)) : W p l e R s m args below meth c H locs cells slots Q (F0 m pc ls (.int y :: .int x :: rest)) := lv_icmp_gt hx hb hd ht (fun q => absurd q h) (fun _ => kf)
theorem ln_icmp_leT (hx : p.tables.exec = Jvm.exec) (hb : c.code = cc) {x y : Int32} {off : Int} {tgt : Nat} (hd : decode cc pc = .ok (.if_icmp .le off, 3)) (ht : (pc : Int) + off = (tgt : Int)) (h : x ≤ y) (kt : W p l e R s m args below meth c H locs cells slots Q (F0 m tgt ls rest)) : W p l e R s m args below meth c H locs cells slots Q (F0 m pc ls (.int y :: .int x :: rest)) := lv_icmp_le hx hb hd ht (fun _ => kt) (fun q => absurd h q)
theorem ln_icmp_leF (hx : p.tables.exec = Jvm.exec) (hb : c.code = cc) {x y : Int32} {off : Int} {tgt : Nat} (hd : decode cc pc = .ok (.if_icmp .le off, 3)) (ht : (pc : Int) + off = (tgt : Int)) (h : ¬ (x ≤ y)) (kf : W p l e R s m args below meth c H locs cells slots Q (F0 m (pc + 3) ls rest)) : W p l e R s m args below meth c H locs cells slots Q (F0 m pc ls (.int y :: .int x :: rest)) := lv_icmp_le hx hb hd ht (fun q => absurd q h) (fun _ => kf)
theorem ln_nm1 {a : Nat} (h : a < 2 ^ 31) : ¬ nI a = (-1) := fun q => by
  have h1 := nI_toInt h
  rw [q, show (-1 : Int32).toInt = -1 from by decide] at h1
  omega
/-- a number of the script's that is one below k -/
def isN (x : Int32) (k : Nat) : Prop := ∃ j, j < k ∧ x = nI j
theorem isN_y {x : Int32} {k : Nat} (h1 : ¬ x < 0) (h2 : ¬ nI k < x) (hk : k < 2 ^ 31) : isN x (k + 1) := by
  obtain ⟨j, hj, rfl⟩ := nI_of h1
  exact ⟨j, Nat.lt_succ_of_le (Nat.not_lt.mp (fun q => h2 ((nI_ltI hk hj).mpr q))), rfl⟩
theorem isN_y2 {x : Int32} {k : Nat} (h1 : ¬ x < 0) (h2 : ¬ nI k ≤ x) (hk : k < 2 ^ 31) : isN x k := by
  obtain ⟨j, hj, rfl⟩ := nI_of h1
  exact ⟨j, Nat.not_le.mp (fun q => h2 ((nI_leI hk hj).mpr q)), rfl⟩
theorem isN_n0 {x : Int32} {k : Nat} (h1 : x < 0) (hk : k < 2 ^ 31) : ¬ isN x k := fun ⟨j, hj, e⟩ => by
  subst e; exact nI_pos (Nat.lt_trans hj hk) h1
theorem isN_n1 {x : Int32} {k : Nat} (h1 : nI k < x) (hk : k < 2147483647) : ¬ isN x (k + 1) := fun ⟨j, hj, e⟩ => by
  subst e; have := (nI_ltI (by omega) (by omega)).mp h1; omega
theorem isN_n2 {x : Int32} {k : Nat} (h1 : nI k ≤ x) (hk : k < 2 ^ 31) : ¬ isN x k := fun ⟨j, hj, e⟩ => by
  subst e; have := (nI_leI hk (by omega)).mp h1; omega
def wbit (s l it : Nat) : Nat := if it = 0 then nclr s (2 ^ l) else s ||| 2 ^ l
theorem ln_p9 {n : Nat} (h : n ≤ 9) : 2 ^ n ≤ 512 := Nat.pow_le_pow_right (n := 2) (by decide) h
theorem ln_iald (hx : p.tables.exec = Jvm.exec) (hb : c.code = cc) (hK : va_K D cl tys s) (hP : va_P D cl ws H) (q0 t0 : Nat) {cA : ClassId} {n : Nat} {g : Nat → Nat} (ha : ws[q0]? = some (a, .inl (cA, n, .inl (nF g)))) (ht : tys[t0]? = some (cA, .int)) {i : Nat} (hi : i < n) (hn : n < 2 ^ 31) (hd : decode cc pc = .ok (.iaload, 1)) (k : W p l e R s m args below meth c H locs cells slots Q (F0 m (pc + 1) ls (.int (nI (g i)) :: rest))) : W p l e R s m args below meth c H locs cells slots Q (F0 m pc ls (.int (nI i) :: .ref a :: rest)) := va_iald hx hb hK hP q0 t0 ha ht (vp_in_nI hi hn) hd (by rw [nI_clamp (Nat.lt_trans hi hn)]; exact k)
theorem ln_ialdI (hx : p.tables.exec = Jvm.exec) (hb : c.code = cc) (hK : va_K D cl tys s) (hP : va_P D cl ws H) (q0 t0 : Nat) {cA : ClassId} {n : Nat} {g : Nat → Int32} (ha : ws[q0]? = some (a, .inl (cA, n, .inl g))) (ht : tys[t0]? = some (cA, .int)) {i : Nat} (hi : i < n) (hn : n < 2 ^ 31) (hd : decode cc pc = .ok (.iaload, 1)) (k : W p l e R s m args below meth c H locs cells slots Q (F0 m (pc + 1) ls (.int (g i) :: rest))) : W p l e R s m args below meth c H locs cells slots Q (F0 m pc ls (.int (nI i) :: .ref a :: rest)) := va_iald hx hb hK hP q0 t0 ha ht (vp_in_nI hi hn) hd (by rw [nI_clamp (Nat.lt_trans hi hn)]; exact k)
theorem ln_zald (hx : p.tables.exec = Jvm.exec) (hb : c.code = cc) (hK : va_K D cl tys s) (hP : va_P D cl ws H) (q0 t0 : Nat) {cA : ClassId} {n : Nat} {g : Nat → Nat} (ha : ws[q0]? = some (a, .inl (cA, n, .inl (nF g)))) (ht : tys[t0]? = some (cA, .boolean)) {i : Nat} (hi : i < n) (hn : n < 2 ^ 31) (hd : decode cc pc = .ok (.baload, 1)) (k : W p l e R s m args below meth c H locs cells slots Q (F0 m (pc + 1) ls (.int (nI (g i)) :: rest))) : W p l e R s m args below meth c H locs cells slots Q (F0 m pc ls (.int (nI i) :: .ref a :: rest)) := va_zald hx hb hK hP q0 t0 ha ht (vp_in_nI hi hn) hd (by rw [nI_clamp (Nat.lt_trans hi hn)]; exact k)
theorem ln_iast (hx : p.tables.exec = Jvm.exec) (hb : c.code = cc) (hK : va_K D cl tys s) (hP : va_P D cl ws H) (hD : va_D A ws) (hS : va_S A H0 H locs) (q0 t0 : Nat) {cA : ClassId} {n : Nat} {g : Nat → Nat} (ha : ws[q0]? = some (a, .inl (cA, n, .inl (nF g)))) (ht : tys[t0]? = some (cA, .int)) {i : Nat} {v : Nat} (hi : i < n) (hn : n < 2 ^ 31) (hd : decode cc pc = .ok (.iastore, 1)) (k : ∀ (H1 : Heap) (locs1 : List Loc), va_P D cl (ws.set q0 (a, .inl (cA, n, .inl (nF (upN g i v))))) H1 → va_D A (ws.set q0 (a, .inl (cA, n, .inl (nF (upN g i v))))) → va_S A H0 H1 locs1 → W p l e R s m args below meth c H1 locs1 cells slots Q (F0 m (pc + 1) ls rest)) : W p l e R s m args below meth c H locs cells slots Q (F0 m pc ls (.int (nI v) :: .int (nI i) :: .ref a :: rest)) := va_iast hx hb hK hP hD hS q0 t0 ha ht (vp_in_nI hi hn) hd (fun H1 locs1 u1 u2 u3 => k H1 locs1 (by rw [nI_clamp (Nat.lt_trans hi hn), nF_up] at u1; exact u1) (by rw [nI_clamp (Nat.lt_trans hi hn), nF_up] at u2; exact u2) u3)
theorem ln_iastI (hx : p.tables.exec = Jvm.exec) (hb : c.code = cc) (hK : va_K D cl tys s) (hP : va_P D cl ws H) (hD : va_D A ws) (hS : va_S A H0 H locs) (q0 t0 : Nat) {cA : ClassId} {n : Nat} {g : Nat → Int32} (ha : ws[q0]? = some (a, .inl (cA, n, .inl g))) (ht : tys[t0]? = some (cA, .int)) {i : Nat} {v : Int32} (hi : i < n) (hn : n < 2 ^ 31) (hd : decode cc pc = .ok (.iastore, 1)) (k : ∀ (H1 : Heap) (locs1 : List Loc), va_P D cl (ws.set q0 (a, .inl (cA, n, .inl (upd g i v)))) H1 → va_D A (ws.set q0 (a, .inl (cA, n, .inl (upd g i v)))) → va_S A H0 H1 locs1 → W p l e R s m args below meth c H1 locs1 cells slots Q (F0 m (pc + 1) ls rest)) : W p l e R s m args below meth c H locs cells slots Q (F0 m pc ls (.int v :: .int (nI i) :: .ref a :: rest)) := va_iast hx hb hK hP hD hS q0 t0 ha ht (vp_in_nI hi hn) hd (fun H1 locs1 u1 u2 u3 => k H1 locs1 (by rw [nI_clamp (Nat.lt_trans hi hn)] at u1; exact u1) (by rw [nI_clamp (Nat.lt_trans hi hn)] at u2; exact u2) u3)
theorem ln_nz {v : Nat} (h : v < 2) : vp_nar .boolean (nI v) = nI v := by
  have : v = 0 ∨ v = 1 := by omega
  rcases this with rfl | rfl <;> decide
theorem ln_zast (hx : p.tables.exec = Jvm.exec) (hb : c.code = cc) (hK : va_K D cl tys s) (hP : va_P D cl ws H) (hD : va_D A ws) (hS : va_S A H0 H locs) (q0 t0 : Nat) {cA : ClassId} {n : Nat} {g : Nat → Nat} (ha : ws[q0]? = some (a, .inl (cA, n, .inl (nF g)))) (ht : tys[t0]? = some (cA, .boolean)) {i : Nat} {v : Nat} (hi : i < n) (hn : n < 2 ^ 31) (hv : v < 2) (hd : decode cc pc = .ok (.bastore, 1)) (k : ∀ (H1 : Heap) (locs1 : List Loc), va_P D cl (ws.set q0 (a, .inl (cA, n, .inl (nF (upN g i v))))) H1 → va_D A (ws.set q0 (a, .inl (cA, n, .inl (nF (upN g i v))))) → va_S A H0 H1 locs1 → W p l e R s m args below meth c H1 locs1 cells slots Q (F0 m (pc + 1) ls rest)) : W p l e R s m args below meth c H locs cells slots Q (F0 m pc ls (.int (nI v) :: .int (nI i) :: .ref a :: rest)) := va_zast hx hb hK hP hD hS q0 t0 ha ht (vp_in_nI hi hn) hd (fun H1 locs1 u1 u2 u3 => k H1 locs1 (by rw [nI_clamp (Nat.lt_trans hi hn), ln_nz hv, nF_up] at u1; exact u1) (by rw [nI_clamp (Nat.lt_trans hi hn), ln_nz hv, nF_up] at u2; exact u2) u3)
theorem ln_min (x y : Nat) (h1 : x < 2 ^ 31) (h2 : y < 2 ^ 31) : (if nI y < nI x then nI y else nI x) = nI (min x y) := by
  by_cases h : y < x
  · rw [if_pos ((nI_ltI h2 h1).mpr h), Nat.min_eq_right (Nat.le_of_lt h)]
  · rw [if_neg (fun q => h ((nI_ltI h2 h1).mp q)), Nat.min_eq_left (Nat.not_lt.mp h)]
theorem ln_mmin (hx : p.tables.exec = Jvm.exec) (hb : c.code = cc) (hml : c.maxLocals = ls.size) {own : String} {index : Nat} (hown : s.vm.findClass own = some m.cls) (hlink : (Cond.methodLink own index Lib.Math.min.name).before args s = true) (hstat : (Cond.static Lib.Math.min.name).before args s = true) (hini : (Cond.initialized "java/lang/Math").before args s = true) (hcode : (Cond.code Lib.Math.min.name Lib.Math.min.code 2 (some .int)).before args s = true) (hframes : 1 ≤ R.frames) (hlocals : (rest.map fun v => v.category).sum + 13 ≤ R.locals) (hc : cells ≤ R.cells) (hs : slots ≤ R.slots) {x y : Nat} (h1 : x < 2 ^ 31) (h2 : y < 2 ^ 31) (hd : decode cc pc = .ok (.invokestatic index, 3)) (k : W p l e R s m args below meth c H locs cells slots Q (F0 m (pc + 3) ls (.int (nI (min x y)) :: rest))) : W p l e R s m args below meth c H locs cells slots Q (F0 m pc ls (.int (nI y) :: .int (nI x) :: rest)) := va_mmin hx hb hml hown hlink hstat hini hcode hframes hlocals hc hs hd (by rw [ln_min x y h1 h2]; exact k)
def m_dist (x y : Nat) : Nat := (x - y) + (y - x)
theorem ln_abs {x y : Nat} (h1 : x < 2 ^ 30) (h2 : y < 2 ^ 30) : (if 0 ≤ nI x - nI y then nI x - nI y else 0 - (nI x - nI y)) = nI (m_dist x y) := by
  unfold m_dist
  by_cases h : y ≤ x
  · rw [pk_sub h, if_pos (nI_pos' (by omega)), show x - y + (y - x) = x - y by omega]
  · have hn : ¬ 0 ≤ nI x - nI y := fun q => absurd (pk_sneg h2 (Nat.not_le.mp h)) (by rw [Int32.not_lt]; exact q)
    rw [if_neg hn, show x - y + (y - x) = y - x by omega, ← pk_sub (show x ≤ y by omega)]
    apply nI_inj
    simp only [Int32.toBitVec_sub]
    rw [show (0 : Int32).toBitVec = 0#32 from rfl]
    rw [BitVec.zero_sub, BitVec.neg_sub, BitVec.sub_eq_add_neg, BitVec.add_comm]
theorem ln_mabs (hx : p.tables.exec = Jvm.exec) (hb : c.code = cc) (hml : c.maxLocals = ls.size) {own : String} {index : Nat} (hown : s.vm.findClass own = some m.cls) (hlink : (Cond.methodLink own index Lib.Math.abs.name).before args s = true) (hstat : (Cond.static Lib.Math.abs.name).before args s = true) (hini : (Cond.initialized "java/lang/Math").before args s = true) (hcode : (Cond.code Lib.Math.abs.name Lib.Math.abs.code 1 (some .int)).before args s = true) (hframes : 1 ≤ R.frames) (hlocals : (rest.map fun v => v.category).sum + 13 ≤ R.locals) (hc : cells ≤ R.cells) (hs : slots ≤ R.slots) {x y : Nat} (h1 : x < 2 ^ 30) (h2 : y < 2 ^ 30) (hd : decode cc pc = .ok (.invokestatic index, 3)) (k : W p l e R s m args below meth c H locs cells slots Q (F0 m (pc + 3) ls (.int (nI (m_dist x y)) :: rest))) : W p l e R s m args below meth c H locs cells slots Q (F0 m pc ls (.int (nI x - nI y) :: rest)) := va_mabs hx hb hml hown hlink hstat hini hcode hframes hlocals hc hs hd (by rw [ln_abs h1 h2]; exact k)
theorem ln_b31 (x : Nat) : x &&& 1 < 2 ^ 31 := by rw [Nat.and_one_is_mod]; omega
theorem ln_nzr {v : Nat} (h : v < 2) : narrow .boolean (.int (nI v)) = .int (nI v) := by
  have : v = 0 ∨ v = 1 := by omega
  rcases this with rfl | rfl <;> decide
theorem ln_run {mc ms : Nat} {g : JFrame} {Qa : State → Outcome → State → Prop} {free : Addr → Prop} (h : va_Run p l e R s m args below meth c H locs cells slots mc ms g rest Qa free) : CallRun p l e R s m args below meth c H locs cells slots mc ms g rest Qa free := fun T hT X => by
  obtain ⟨v, st₀, t, T', L, h0, X', hL, e1, -, hq, st⟩ := h T hT X
  exact ⟨v, st₀, t, T', L, h0, X', hL, e1, hq, st⟩
theorem ln_one_two_pow (n : Nat) : 1 ≤ 2 ^ n := Nat.one_le_two_pow
/-- what is known of the tables: the classes, the two kinds of arrays, the nest's own calls -/
def lK (dC : Nat → ClassId) (dI : Nat → Nat → Nat) (cI cZ : ClassId) (U : State) : Prop := va_K (dC, dI) vwCl [(cI, .int), (cZ, .boolean)] U ∧ va_Nw (.methodLinkNest RX1 38 yX5_isWithin "LeafOrder") U ∧ va_Nw (.methodLinkNest RX5 11 yX1_init "LeafOrder") U ∧ va_Nw (.methodLinkNest RX5 27 yX2_init "LeafOrder") U
theorem lK.warm {dC : Nat → ClassId} {dI : Nat → Nat → Nat} {cI cZ : ClassId} {s U : State} (hW : s.WarmedH U.vm) (h : lK dC dI cI cZ s) : lK dC dI cI cZ U := ⟨va_K.moved hW.alike h.1, va_Nw.warmM hW h.2.1, va_Nw.warmM hW h.2.2.1, va_Nw.warmM hW h.2.2.2⟩
theorem lK.call {dC : Nat → ClassId} {dI : Nat → Nat → Nat} {cI cZ : ClassId} {U U2 : State} (e : U.vm = U2.vm) (h : lK dC dI cI cZ U) : lK dC dI cI cZ U2 := ⟨va_K.moved (by rw [← e]; exact Vm.Alike.refl U.vm) h.1, va_tabs rfl e h.2.1, va_tabs rfl e h.2.2.1, va_tabs rfl e h.2.2.2⟩
theorem ln_blind {av : List Value} {D : va_G} {cl : List vw_C} {dC : Nat → ClassId} {dI : Nat → Nat → Nat} {cI cZ : ClassId} {ws : va_W} : FrameBlind (va_Pc av (fun U => va_P D cl ws U.heap ∧ lK dC dI cI cZ U)) := fun a U g mk q => by
  obtain ⟨q0, qP, qK⟩ := q
  exact ⟨q0, qP, lK.call (U := U) (U2 := U.calling g mk a) rfl qK⟩
theorem ln_blindM {av : List Value} {D : va_G} {cl : List vw_C} {dC : Nat → ClassId} {dI : Nat → Nat → Nat} {cI cZ : ClassId} {ws : va_W} {sz : Nat} : FrameBlind (va_Pc av (fun U => U.heap.size = sz ∧ va_P D cl ws U.heap ∧ lK dC dI cI cZ U ∧ va_D (fun _ => True) ws)) := fun a U g mk q => by
  obtain ⟨q0, q1, qP, qK, qD⟩ := q
  exact ⟨q0, q1, qP, lK.call (U := U) (U2 := U.calling g mk a) rfl qK, qD⟩
theorem ln_blind0 {av : List Value} : FrameBlind (va_Pc av (fun _ => True)) := fun _ _ _ _ q => q
theorem ln_preS {s : State} {H : Heap} {As : List Value} {D : va_G} {cl : List vw_C} {dC : Nat → ClassId} {dI : Nat → Nat → Nat} {cI cZ : ClassId} {ws : va_W} (hP : va_P D cl ws H) (hK : lK dC dI cI cZ s) : PreS s H (va_Pc As (fun U => va_P D cl ws U.heap ∧ lK dC dI cI cZ U)) As := ⟨ln_blind, fun U hU hW => ⟨rfl, by rw [hU]; exact hP, hK.warm hW⟩⟩
theorem ln_preS0 {s : State} {H : Heap} {As : List Value} : PreS s H (va_Pc As (fun _ => True)) As := ⟨ln_blind0, fun _ _ _ => ⟨rfl, trivial⟩⟩
theorem ln_preV {s : State} {H : Heap} {b : Nat} {As : List Value} {dC : Nat → ClassId} {dI : Nat → Nat → Nat} {cI cZ : ClassId} {ws : va_W} {q0 ci : Nat} {q : vw_C} {fs : List Value} (hP : va_P (dC, dI) vwCl ws H) (hK : lK dC dI cI cZ s) (hc : vwCl[ci]? = some q) (he : ws[q0]? = some (b, .inr (ci, fs))) : PreV s H q.1 b (va_Pc (.ref b :: As) (fun U => va_P (dC, dI) vwCl ws U.heap ∧ lK dC dI cI cZ U)) As := ⟨ln_blind, va_recv hK.1 hP hc he, fun U hU hW => ⟨rfl, by rw [hU]; exact hP, hK.warm hW⟩⟩
theorem ln_preVM {s : State} {H : Heap} {b : Nat} {As : List Value} {dC : Nat → ClassId} {dI : Nat → Nat → Nat} {cI cZ : ClassId} {ws : va_W} {A : Nat → Prop} {q0 ci : Nat} {q : vw_C} {fs : List Value} (hP : va_P (dC, dI) vwCl ws H) (hK : lK dC dI cI cZ s) (hD : va_D A ws) (hc : vwCl[ci]? = some q) (he : ws[q0]? = some (b, .inr (ci, fs))) : PreV s H q.1 b (va_Pc (.ref b :: As) (fun U => U.heap.size = H.size ∧ va_P (dC, dI) vwCl ws U.heap ∧ lK dC dI cI cZ U ∧ va_D (fun _ => True) ws)) As := ⟨ln_blindM, va_recv hK.1 hP hc he, fun U hU hW => ⟨rfl, by rw [hU], by rw [hU]; exact hP, hK.warm hW, hD.weaken (fun _ _ _ _ => trivial)⟩⟩
theorem ln_preIM {s : State} {H : Heap} {As : List Value} {dC : Nat → ClassId} {dI : Nat → Nat → Nat} {cI cZ : ClassId} {ws : va_W} {A : Nat → Prop} (hP : va_P (dC, dI) vwCl ws H) (hK : lK dC dI cI cZ s) (hD : va_D A ws) : PreS s H (va_Pc As (fun U => U.heap.size = H.size ∧ va_P (dC, dI) vwCl ws U.heap ∧ lK dC dI cI cZ U ∧ va_D (fun _ => True) ws)) As := ⟨ln_blindM, fun U hU hW => ⟨rfl, by rw [hU], by rw [hU]; exact hP, hK.warm hW, hD.weaken (fun _ _ _ _ => trivial)⟩⟩
end LN
end
section
/-! THE CLASS AND THE REFERENCE AS FUNCTIONS over natural numbers: what each method does to its rows -/
def m_sap (fs : Nat → Nat) (a b : Nat) : Nat → Nat
  | 0 => 0
  | k + 1 => m_sap fs a b k + m_dist (fs (3 * a + k)) (fs (3 * b + k))
/-- what a join costs before the gap is looked at: stands a and behind it b -/
def m_full (fb fe : Nat → Nat) (fw : Nat → Int32) (fc fd fs fz : Nat → Nat) (a b : Nat) : Nat :=
  fz 0 * m_dist (fb b) (fe (a ^^^ 1)) + (if fw (a ^^^ 1) = (-1) then 0 else if fw (a ^^^ 1) = nI (fb b) then 0 else fz 2) + (if fd (a ^^^ 1) = fc b then 0 else fz 3) + fz 1 * m_sap fs (a >>> 1) (b >>> 1) 3
def m_over (fz : Nat → Nat) (c : Nat) : Prop := 0 < fz 5 ∧ fz 5 < c
/-- what a join costs -/
def m_join (fb fe : Nat → Nat) (fw : Nat → Int32) (fc fd fs fz : Nat → Nat) (a b : Nat) : Nat :=
  if 0 < fz 5 ∧ fz 5 < m_full fb fe fw fc fd fs fz a b then fz 5 else m_full fb fe fw fc fd fs fz a b
/-! the class -/
def m_pc (x : Nat) : Nat := x % 2 + x / 2 % 2 + x / 4 % 2 + x / 8 % 2 + x / 16 % 2 + x / 32 % 2 + x / 64 % 2 + x / 128 % 2 + x / 256 % 2
def m_nbr (ra : Nat → Nat) (leaf rest : Nat) : Nat := if ra leaf &&& rest = 0 then rest else if m_pc (ra leaf &&& rest) = 1 then ra leaf &&& rest else 0
def m_up (sl sj : Nat → Nat) (rest ahead stand : Nat) : Nat → Nat
  | 0 => 1000000
  | i + 1 => if (ahead >>> i) &&& 1 = 0 then m_up sl sj rest ahead stand i else min (min (m_up sl sj rest ahead stand i) (sl (rest * 18 + 2 * i) + sj (2 * i * 18 + stand))) (sl (rest * 18 + 2 * i + 1) + sj (2 * i * 18 + stand + 18))
theorem m_up_le (sl sj : Nat → Nat) (rest ahead stand : Nat) : ∀ i, m_up sl sj rest ahead stand i ≤ 1000000
  | 0 => Nat.le_refl _
  | i + 1 => by
    have ih := m_up_le sl sj rest ahead stand i
    rw [m_up]
    split
    · exact ih
    · omega
def m_upx (sl sj : Nat → Nat) (n rest ahead stand : Nat) : Nat := if rest = 0 then 0 else m_up sl sj rest ahead stand n
theorem m_upx_le (sl sj : Nat → Nat) (n rest ahead stand : Nat) : m_upx sl sj n rest ahead stand ≤ 1000000 := by
  unfold m_upx
  split
  · exact Nat.zero_le _
  · exact m_up_le _ _ _ _ _ _
def m_plain (rb rr sl sj : Nat → Nat) (n set leaf ahead : Nat) : Nat := if (rb leaf ||| rr leaf) &&& nclr set (2 ^ leaf) = 0 then m_upx sl sj n (nclr set (2 ^ leaf)) ahead (2 * leaf) else 1000000
def m_turn (rb rr sl sj : Nat → Nat) (n st set leaf ahead : Nat) : Nat := if (rb leaf ||| rr leaf) &&& nclr set (2 ^ leaf) = 0 then (if st < 1000000 then min 1000000 (m_upx sl sj n (nclr set (2 ^ leaf)) ahead (2 * leaf + 1) + st) else 1000000) else 1000000
def m_last (rb rr sl sj : Nat → Nat) (n st set leaf ahead : Nat) : Nat → Nat := upN (upN sl (set * 18 + 2 * leaf) (m_plain rb rr sl sj n set leaf ahead)) (set * 18 + 2 * leaf + 1) (m_turn rb rr sl sj n st set leaf ahead)
/-- the leaves that may be right ahead, without a banned one (18: none is banned) -/
def m_ahead (ra : Nat → Nat) (ba bb leaf rest : Nat) : Nat := if leaf = bb then nclr (m_nbr ra leaf rest) (2 ^ ba) else m_nbr ra leaf rest
def m_fillS (rb rr ra sj : Nat → Nat) (n st ba bb set : Nat) (sl : Nat → Nat) : Nat → (Nat → Nat)
  | 0 => sl
  | i + 1 => if (set >>> i) &&& 1 = 0 then m_fillS rb rr ra sj n st ba bb set sl i else m_last rb rr (m_fillS rb rr ra sj n st ba bb set sl i) sj n st set i (m_ahead ra ba bb i (nclr set (2 ^ i)))
/-- the sets 1 .. k filled -/
def m_fill (rb rr ra sj : Nat → Nat) (n st ba bb : Nat) (sl : Nat → Nat) : Nat → (Nat → Nat)
  | 0 => sl
  | k + 1 => m_fillS rb rr ra sj n st ba bb (k + 1) (m_fill rb rr ra sj n st ba bb sl k) n
def m_of (sl : Nat → Nat) (set : Nat) : Nat → Nat
  | 0 => 1000000
  | i + 1 => if (set >>> (i >>> 1)) &&& 1 = 0 then m_of sl set i else min (m_of sl set i) (sl (set * 18 + i))
theorem m_of_le (sl : Nat → Nat) (set : Nat) : ∀ i, m_of sl set i ≤ 1000000
  | 0 => Nat.le_refl _
  | i + 1 => by
    have ih := m_of_le sl set i
    rw [m_of]
    split
    · exact ih
    · omega
def m_costs (sl : Nat → Nat) (n : Nat) (ss : Nat → Nat) : Nat → (Nat → Nat)
  | 0 => upN ss 0 0
  | k + 1 => upN (m_costs sl n ss k) (k + 1) (m_of sl (k + 1) (2 * n))
/-- the join of a stand and the one behind it (18: none) -/
def m_link (sj : Nat → Nat) (stand behind : Nat) : Nat := if behind < 18 then sj (stand * 18 + behind) else 0
def m_ends (ra : Nat → Nat) (set behind : Nat) : Nat := if behind < 18 then m_nbr ra (behind >>> 1) set else set
def m_cost (sl sj : Nat → Nat) (set behind tail stand : Nat) : Nat := sl (set * 18 + stand) + m_link sj stand behind + tail
/-- the stand that is picked, its cost, the next one's cost -/
def m_pst (c i : Nat) (q : Nat × Nat × Nat) : Nat × Nat × Nat := if c < q.2.1 then (i, c, min q.2.2 q.2.1) else (q.1, q.2.1, min q.2.2 c)
def m_pick (sl sj : Nat → Nat) (ends set behind tail sx : Nat) : Nat → Nat × Nat × Nat
  | 0 => (0, 1000000, sx)
  | i + 1 => if (ends >>> (i >>> 1)) &&& 1 = 0 then m_pick sl sj ends set behind tail sx i else m_pst (m_cost sl sj set behind tail i) i (m_pick sl sj ends set behind tail sx i)
def m_tz (sl sj ra : Nat → Nat) (n : Nat) (q : Nat × Nat × Nat × (Nat → Nat) × Nat) : Nat × Nat × Nat := m_pick sl sj (m_ends ra q.1 q.2.1) q.1 q.2.1 q.2.2.1 q.2.2.2.2 (2 * n)
def m_tst (sl sj ra : Nat → Nat) (n st k : Nat) (q : Nat × Nat × Nat × (Nat → Nat) × Nat) : Nat × Nat × Nat × (Nat → Nat) × Nat :=
  (nclr q.1 (2 ^ ((m_tz sl sj ra n q).1 >>> 1)), (m_tz sl sj ra n q).1, q.2.2.1 + (m_link sj (m_tz sl sj ra n q).1 q.2.1 + ((m_tz sl sj ra n q).1 &&& 1) * st), upN q.2.2.2.1 (n - 1 - k) (m_tz sl sj ra n q).1, (m_tz sl sj ra n q).2.2)
/-- the trace, from its last place on: k places done; set, behind, tail, order, next -/
def m_trace (sl sj ra so : Nat → Nat) (n st sx : Nat) : Nat → Nat × Nat × Nat × (Nat → Nat) × Nat
  | 0 => (2 ^ n - 1, 18, 0, so, sx)
  | k + 1 => m_tst sl sj ra n st k (m_trace sl sj ra so n st sx k)
def m_joins (n : Nat) (J : Nat → Nat → Nat) (sj : Nat → Nat) (a : Nat) : Nat → (Nat → Nat)
  | 0 => sj
  | b + 1 => upN (m_joins n J sj a b) (a * 18 + b) (J a b)
def m_prep (n : Nat) (J : Nat → Nat → Nat) (sj : Nat → Nat) : Nat → (Nat → Nat)
  | 0 => sj
  | a + 1 => m_joins n J (m_prep n J sj a) a (2 * n)
def m_two (ss : Nat → Nat) (n set : Nat) : Nat := ss set + ss (nclr (2 ^ n - 1) set)
/-- the books of the sets 2, 4 .. 2 k: cost, other -/
def m_part (ss : Nat → Nat) (n : Nat) : Nat → Nat × Nat
  | 0 => (1000000, 0)
  | k + 1 => if m_two ss n (2 * (k + 1)) < (m_part ss n k).1 then (m_two ss n (2 * (k + 1)), 2 * (k + 1)) else m_part ss n k
def m_moved (ss : Nat → Nat) (n other leaf : Nat) : Nat → Nat
  | 0 => 1000000
  | k + 1 => if ((2 * (k + 1) ^^^ other) >>> leaf) &&& 1 = 0 then m_moved ss n other leaf k else min (m_moved ss n other leaf k) (m_two ss n (2 * (k + 1)))
theorem m_pc_le (x : Nat) : m_pc x ≤ 9 := by unfold m_pc; omega
theorem nclr_le (a m : Nat) : nclr a m ≤ a := by
  have e : nclr a m &&& a = nclr a m := Nat.eq_of_testBit_eq (fun i => by rw [Nat.testBit_and, nclr_t]; cases a.testBit i <;> cases m.testBit i <;> rfl)
  rw [← e]
  exact Nat.and_le_right
def ush (x y : Int32) : Int32 := (x.toUInt32 >>> (y.toUInt32 &&& Int32.toUInt32 31)).toInt32
def bcE (x : Int32) : Int32 :=
  let a := x - (ush x (nI 1) &&& nI 1431655765)
  let b := (a &&& nI 858993459) + (ush a (nI 2) &&& nI 858993459)
  let c := (b + ush b (nI 4)) &&& nI 252645135
  let d := c + ush c (nI 8)
  let e := d + ush d (nI 16)
  e &&& nI 63
theorem bcE_ok : ∀ q, q < 512 → bcE (nI q) = nI (m_pc q) := by decide +kernel
def bhN (b : Nat) : Int32 := if b < 18 then nI b else (-1)
theorem bhN_lt {b : Nat} (h : b < 18) : bhN b = nI b := by unfold bhN; rw [if_pos h]
theorem bhN_18 : bhN 18 = (-1) := by decide
theorem m_nbr_lt (ra : Nat → Nat) (leaf rest : Nat) (h : rest < 512) : m_nbr ra leaf rest < 512 := by
  unfold m_nbr
  split
  · exact h
  · split
    · exact Nat.lt_of_le_of_lt Nat.and_le_right h
    · decide
theorem bhN_leaf {i b : Nat} (hi : i < 18) (h : nI i = bhN b) : i = b := by
  unfold bhN at h
  split at h
  · rename_i q; exact (nI_eq (by omega) (by omega)).mp h
  · exact absurd h (ln_nm1 (by omega))
theorem m_link_le {sj : Nat → Nat} (h : ∀ k, sj k ≤ 10000) (a b : Nat) : m_link sj a b ≤ 10000 := by
  unfold m_link
  split
  · exact h _
  · exact Nat.zero_le _
theorem m_ends_lt (ra : Nat → Nat) (set b : Nat) (h : set < 512) : m_ends ra set b < 512 := by
  unfold m_ends
  split
  · exact m_nbr_lt _ _ _ h
  · exact h
def m_in (so : Nat → Nat) (n a b : Nat) : Prop := ∃ k, k + 1 < n ∧ so k >>> 1 = a ∧ so (k + 1) >>> 1 = b
theorem pl_neg {p : Nat} (hp : p < 2 ^ 30) (h : nI p - nI 1 < 0) : p = 0 := by
  rcases Nat.eq_zero_or_pos p with q | q
  · exact q
  · rw [pk_sub q] at h
    exact absurd h (nI_pos (by omega))
theorem pl_pos {p : Nat} (h : ¬ nI p - nI 1 < 0) : 1 ≤ p := by
  rcases Nat.eq_zero_or_pos p with q | q
  · subst q; exact absurd (by decide) h
  · exact q
theorem xor1_lt {a : Nat} (h : a < 18) : a ^^^ 1 < 18 := by
  have : ∀ a, a < 18 → a ^^^ 1 < 18 := by decide
  exact this a h
theorem m_dist_le {x y B : Nat} (h1 : x ≤ B) (h2 : y ≤ B) : m_dist x y ≤ B := by unfold m_dist; omega
theorem m_full_le (fb fe : Nat → Nat) (fw : Nat → Int32) (fc fd fs fz : Nat → Nat) (a b : Nat) (hb : ∀ k, fb k ≤ 99) (he : ∀ k, fe k ≤ 99) (hs : ∀ k, fs k ≤ 99) (hz : ∀ k, fz k ≤ 999) : m_full fb fe fw fc fd fs fz a b ≤ 500000 := by
  have h1 := Nat.mul_le_mul (hz 0) (m_dist_le (hb b) (he (a ^^^ 1)))
  have h2 : m_sap fs (a >>> 1) (b >>> 1) 3 ≤ 297 := by
    have a0 := m_dist_le (hs (3 * (a >>> 1) + 0)) (hs (3 * (b >>> 1) + 0))
    have a1 := m_dist_le (hs (3 * (a >>> 1) + 1)) (hs (3 * (b >>> 1) + 1))
    have a2 := m_dist_le (hs (3 * (a >>> 1) + 2)) (hs (3 * (b >>> 1) + 2))
    show 0 + m_dist (fs (3 * (a >>> 1) + 0)) (fs (3 * (b >>> 1) + 0)) + m_dist (fs (3 * (a >>> 1) + 1)) (fs (3 * (b >>> 1) + 1)) + m_dist (fs (3 * (a >>> 1) + 2)) (fs (3 * (b >>> 1) + 2)) ≤ 297
    omega
  have h3 := Nat.mul_le_mul (hz 1) h2
  have h4 : (if fw (a ^^^ 1) = (-1) then 0 else if fw (a ^^^ 1) = nI (fb b) then 0 else fz 2) ≤ 999 := by
    have := hz 2
    split
    · omega
    · split <;> omega
  have h5 : (if fd (a ^^^ 1) = fc b then 0 else fz 3) ≤ 999 := by
    have := hz 3
    split <;> omega
  unfold m_full
  omega
theorem m_full_le2 (fb fe : Nat → Nat) (fw : Nat → Int32) (fc fd fs fz : Nat → Nat) (a b : Nat) (hb : ∀ k, fb k ≤ 99) (he : ∀ k, fe k ≤ 99) (hs : ∀ k, fs k ≤ 99) (hz : ∀ k, fz k ≤ 999) (hw : fz 0 ≤ 9 ∧ fz 1 ≤ 9) : m_full fb fe fw fc fd fs fz a b ≤ 10000 := by
  have h1 := Nat.mul_le_mul hw.1 (m_dist_le (hb b) (he (a ^^^ 1)))
  have h2 : m_sap fs (a >>> 1) (b >>> 1) 3 ≤ 297 := by
    have a0 := m_dist_le (hs (3 * (a >>> 1) + 0)) (hs (3 * (b >>> 1) + 0))
    have a1 := m_dist_le (hs (3 * (a >>> 1) + 1)) (hs (3 * (b >>> 1) + 1))
    have a2 := m_dist_le (hs (3 * (a >>> 1) + 2)) (hs (3 * (b >>> 1) + 2))
    show 0 + m_dist (fs (3 * (a >>> 1) + 0)) (fs (3 * (b >>> 1) + 0)) + m_dist (fs (3 * (a >>> 1) + 1)) (fs (3 * (b >>> 1) + 1)) + m_dist (fs (3 * (a >>> 1) + 2)) (fs (3 * (b >>> 1) + 2)) ≤ 297
    omega
  have h3 := Nat.mul_le_mul hw.2 h2
  have h4 : (if fw (a ^^^ 1) = (-1) then 0 else if fw (a ^^^ 1) = nI (fb b) then 0 else fz 2) ≤ 999 := by
    have := hz 2
    split
    · omega
    · split <;> omega
  have h5 : (if fd (a ^^^ 1) = fc b then 0 else fz 3) ≤ 999 := by
    have := hz 3
    split <;> omega
  unfold m_full
  omega
theorem m_join_le (fb fe : Nat → Nat) (fw : Nat → Int32) (fc fd fs fz : Nat → Nat) (a b : Nat) (hb : ∀ k, fb k ≤ 99) (he : ∀ k, fe k ≤ 99) (hs : ∀ k, fs k ≤ 99) (hz : ∀ k, fz k ≤ 999) (hw : fz 0 ≤ 9 ∧ fz 1 ≤ 9) : m_join fb fe fw fc fd fs fz a b ≤ 10000 := by
  have h1 := m_full_le2 fb fe fw fc fd fs fz a b hb he hs hz hw
  have h2 := hz 5
  unfold m_join
  split <;> omega
/-- what is kept of a search: it was made of the state as it stands (whatever lay in the rows before) -/
def m_fresh (J : Nat → Nat → Nat) (n tc : Nat) (rb rr ra : Nat → Nat) (sn st sb sx : Nat) (sj ss so : Nat → Nat) (bc bo : Nat) : Prop :=
  sn = n ∧ st = tc ∧ ∃ sj0 sl0 ss0 so0 slz : Nat → Nat, sj = m_prep n J sj0 (2 * n) ∧ slz = m_fill rb rr ra sj n tc 18 18 sl0 (2 ^ n - 1) ∧ ss = m_costs slz n ss0 (2 ^ n - 1) ∧ sb = ss (2 ^ n - 1) ∧ (sb < 1000000 → ∃ a1 a2 a3, (a1, a2, a3, so, sx) = m_trace slz sj ra so0 n tc 1000000 n) ∧ (1000000 ≤ sb → sx = 1000000) ∧ (bc, bo) = m_part ss n ((2 ^ n - 1) / 2)
theorem m_two_le {ss : Nat → Nat} (h : ∀ k, ss k ≤ 1000000) (n set : Nat) : m_two ss n set ≤ 2000000 := by
  have h1 := h set
  have h2 := h (nclr (2 ^ n - 1) set)
  unfold m_two
  omega
/-! what the public calls do, of both sides -/
noncomputable def cif {α : Type} (C : Prop) (a b : α) : α := @ite α C (Classical.propDecidable C) a b
theorem cif_t {α : Type} {C : Prop} {a b : α} (h : C) : cif C a b = a := by unfold cif; exact if_pos h
theorem cif_f {α : Type} {C : Prop} {a b : α} (h : ¬ C) : cif C a b = b := by unfold cif; exact if_neg h
def tn (x : Int32) : Nat := x.toNatClampNeg
theorem tn_nI {k : Nat} (h : k < 2 ^ 31) : tn (nI k) = k := nI_clamp h
theorem cif_le {C : Prop} {f g : Nat → Nat} {B : Nat} (h1 : ∀ k, f k ≤ B) (h2 : ∀ k, g k ≤ B) : ∀ k, cif C f g k ≤ B := by
  by_cases h : C
  · rw [cif_t h]; exact h1
  · rw [cif_f h]; exact h2
def pc_leaf (n : Nat) (x1 x2 x3 x4 : Int32) : Prop := isN x1 100 ∧ isN x2 100 ∧ isN x3 100 ∧ isN x4 100 ∧ n < 9
def pc_word (n : Nat) (x1 x2 x3 : Int32) : Prop := isN x1 n ∧ isN x2 2 ∧ (x3 = (-1) ∨ isN x3 100)
def pc_cut (n : Nat) (x1 x2 x3 x4 : Int32) : Prop := isN x1 n ∧ isN x2 2 ∧ isN x3 100 ∧ isN x4 100
def pc_stain (n : Nat) (x1 x2 x3 : Int32) : Prop := isN x1 n ∧ isN x2 3 ∧ isN x3 100
def pc_weights (x1 x2 x3 x4 x5 x6 : Int32) : Prop := isN x1 10 ∧ isN x2 10 ∧ isN x3 100 ∧ isN x4 100 ∧ isN x5 100 ∧ isN x6 1000
def pc_pair (n : Nat) (x1 x2 : Int32) : Prop := isN x1 n ∧ isN x2 n ∧ ¬ x1 = x2
def pw_fz (fz : Nat → Nat) (x1 x2 x3 x4 x5 x6 : Int32) : Nat → Nat := upN (upN (upN (upN (upN (upN fz 0 (tn x1)) 1 (tn x2)) 2 (tn x3)) 3 (tn x4)) 4 (tn x5)) 5 (tn x6)
noncomputable def pw_about (n : Nat) (fz : Nat → Nat) (mt : Nat) (x : Int32) : Int32 := if x = 0 then nI n else cif (1 ≤ x ∧ x ≤ 6) (nI (fz (tn x - 1))) (if x = 7 then nI mt else (-1))
theorem wbit_lt {s l it : Nat} (h : s < 512) (hl : l < 9) : wbit s l it < 512 := by
  unfold wbit
  split
  · exact Nat.lt_of_le_of_lt (nclr_le _ _) h
  · exact Nat.or_lt_two_pow (n := 9) h (Nat.lt_of_lt_of_le (Nat.pow_lt_pow_right (by decide) hl) (by decide))
theorem pl_dec (p : Nat) : nI p + Int32.ofInt (-1) = nI p - nI 1 := by
  rw [show Int32.ofInt (-1) = -(nI 1) from by decide, ← Int32.sub_eq_add_neg]
end
section
theorem mJ6_bitCount_0f7a4_0 : Cond.constant RJ6 265 (1431655765) ∈ wsJ6_bitCount_0f7a4 := by decide +kernel
theorem mJ6_bitCount_0f7a4_1 : Cond.constant RJ6 266 (858993459) ∈ wsJ6_bitCount_0f7a4 := by decide +kernel
theorem mJ6_bitCount_0f7a4_2 : Cond.constant RJ6 267 (252645135) ∈ wsJ6_bitCount_0f7a4 := by decide +kernel
set_option maxHeartbeats 4000000 in
set_option maxRecDepth 100000 in
theorem k_J6_bitCount_0f7a4 (l : Launch) (dC : Nat → ClassId) (dI : Nat → Nat → Nat) (cI cZ : ClassId) (q1 : Nat) (h1 : q1 < 512) : Met l yJ6_bitCount_0f7a4 wsJ6_bitCount_0f7a4 { frames := 0, cells := 0, slots := 0, locals := 0 } (va_Pc [.int (nI q1)] (fun _ => True)) (vp_Si (fun r => r = (nI (m_pc q1)))) 0 0 (fun _ => False) := by
  refine Met.ofW (cc := cJ6_bitCount_0f7a4) (maxL := 1) (ret := (some .int)) (by decide) rfl ?_
  intro p e s m args below meth c s₁ B hml hv
  obtain ⟨rfl, -⟩ := hv
  have hx := B.exec
  have hb := B.bytes
  have hr := B.returns
  have hts := atoms_spec (ws := wsJ6_bitCount_0f7a4) B.pre
  have hown : s.vm.findClass RJ6 = some m.cls := findClass_of_methodNamed B.named
  have hlocks := B.notSynchronized
  have hl := lv_entry ([.int (nI q1)]) (n := 1) (Nat.le_of_ble_eq_true rfl)
  rw [lg_entry_eq]
  generalize (lg_sl ([.int (nI q1)]) ++ List.replicate (1 - (lg_sl ([.int (nI q1)])).length) Slot.unset).toArray = ls at hl ⊢
  have hl : lv_has ls 1 [(0, .int (nI q1))] := hl
  refine lv_iload_n hx hb dJ6_bitCount_0f7a4_0 rfl (lv_at hl 0 rfl) ?_
  refine lv_iload_n hx hb dJ6_bitCount_0f7a4_1 rfl (lv_at hl 0 rfl) ?_
  refine lv_iconst (v := nI 1) hx hb dJ6_bitCount_0f7a4_2 (by decide) ?_
  refine lv_iushr (v := ush (nI q1) (nI 1)) hx hb dJ6_bitCount_0f7a4_3 rfl ?_
  refine lv_ldcw (v := nI 1431655765) hx hb hown (hts (.constant RJ6 265 (1431655765)) mJ6_bitCount_0f7a4_0) dJ6_bitCount_0f7a4_4 ?_
  refine lv_iand hx hb dJ6_bitCount_0f7a4_7 ?_
  refine lv_isub hx hb dJ6_bitCount_0f7a4_8 ?_
  refine lv_topi (fun y_1 ey_1 => ?_)
  refine lv_istore_n (lv' := [(0, .int y_1)]) hx hb dJ6_bitCount_0f7a4_9 rfl hl (by decide) rfl (fun ls hl => ?_)
  refine lv_iload_n hx hb dJ6_bitCount_0f7a4_10 rfl (lv_at hl 0 rfl) ?_
  refine lv_ldcw (v := nI 858993459) hx hb hown (hts (.constant RJ6 266 (858993459)) mJ6_bitCount_0f7a4_1) dJ6_bitCount_0f7a4_11 ?_
  refine lv_iand hx hb dJ6_bitCount_0f7a4_14 ?_
  refine lv_iload_n hx hb dJ6_bitCount_0f7a4_15 rfl (lv_at hl 0 rfl) ?_
  refine lv_iconst (v := nI 2) hx hb dJ6_bitCount_0f7a4_16 (by decide) ?_
  refine lv_iushr (v := ush y_1 (nI 2)) hx hb dJ6_bitCount_0f7a4_17 rfl ?_
  refine lv_ldcw (v := nI 858993459) hx hb hown (hts (.constant RJ6 266 (858993459)) mJ6_bitCount_0f7a4_1) dJ6_bitCount_0f7a4_18 ?_
  refine lv_iand hx hb dJ6_bitCount_0f7a4_21 ?_
  refine lv_iadd hx hb dJ6_bitCount_0f7a4_22 ?_
  refine lv_topi (fun y_2 ey_2 => ?_)
  refine lv_istore_n (lv' := [(0, .int y_2)]) hx hb dJ6_bitCount_0f7a4_23 rfl hl (by decide) rfl (fun ls hl => ?_)
  refine lv_iload_n hx hb dJ6_bitCount_0f7a4_24 rfl (lv_at hl 0 rfl) ?_
  refine lv_iload_n hx hb dJ6_bitCount_0f7a4_25 rfl (lv_at hl 0 rfl) ?_
  refine lv_iconst (v := nI 4) hx hb dJ6_bitCount_0f7a4_26 (by decide) ?_
  refine lv_iushr (v := ush y_2 (nI 4)) hx hb dJ6_bitCount_0f7a4_27 rfl ?_
  refine lv_iadd hx hb dJ6_bitCount_0f7a4_28 ?_
  refine lv_ldcw (v := nI 252645135) hx hb hown (hts (.constant RJ6 267 (252645135)) mJ6_bitCount_0f7a4_2) dJ6_bitCount_0f7a4_29 ?_
  refine lv_iand hx hb dJ6_bitCount_0f7a4_32 ?_
  refine lv_topi (fun y_3 ey_3 => ?_)
  refine lv_istore_n (lv' := [(0, .int y_3)]) hx hb dJ6_bitCount_0f7a4_33 rfl hl (by decide) rfl (fun ls hl => ?_)
  refine lv_iload_n hx hb dJ6_bitCount_0f7a4_34 rfl (lv_at hl 0 rfl) ?_
  refine lv_iload_n hx hb dJ6_bitCount_0f7a4_35 rfl (lv_at hl 0 rfl) ?_
  refine lv_bipush (v := nI 8) hx hb dJ6_bitCount_0f7a4_36 (by decide) ?_
  refine lv_iushr (v := ush y_3 (nI 8)) hx hb dJ6_bitCount_0f7a4_38 rfl ?_
  refine lv_iadd hx hb dJ6_bitCount_0f7a4_39 ?_
  refine lv_topi (fun y_4 ey_4 => ?_)
  refine lv_istore_n (lv' := [(0, .int y_4)]) hx hb dJ6_bitCount_0f7a4_40 rfl hl (by decide) rfl (fun ls hl => ?_)
  refine lv_iload_n hx hb dJ6_bitCount_0f7a4_41 rfl (lv_at hl 0 rfl) ?_
  refine lv_iload_n hx hb dJ6_bitCount_0f7a4_42 rfl (lv_at hl 0 rfl) ?_
  refine lv_bipush (v := nI 16) hx hb dJ6_bitCount_0f7a4_43 (by decide) ?_
  refine lv_iushr (v := ush y_4 (nI 16)) hx hb dJ6_bitCount_0f7a4_45 rfl ?_
  refine lv_iadd hx hb dJ6_bitCount_0f7a4_46 ?_
  refine lv_topi (fun y_5 ey_5 => ?_)
  refine lv_istore_n (lv' := [(0, .int y_5)]) hx hb dJ6_bitCount_0f7a4_47 rfl hl (by decide) rfl (fun ls hl => ?_)
  refine lv_iload_n hx hb dJ6_bitCount_0f7a4_48 rfl (lv_at hl 0 rfl) ?_
  refine lv_bipush (v := nI 63) hx hb dJ6_bitCount_0f7a4_49 (by decide) ?_
  refine lv_iand hx hb dJ6_bitCount_0f7a4_51 ?_
  exact W.iret (v := (y_5 &&& (nI 63))) hx hb hr (fun t ht hW => ⟨(y_5 &&& (nI 63)), rfl, (by subst ey_5; subst ey_4; subst ey_3; subst ey_2; subst ey_1; exact bcE_ok q1 h1), ht⟩) (fun _ h => by cases h) dJ6_bitCount_0f7a4_52
theorem mX2_neighboursOf_0 : Cond.fieldLink RX2 18 "LeafOrder$Rules" "rightAhead" "[I" ∈ wsX2_neighboursOf := by decide +kernel
theorem mX2_neighboursOf_inX2 : ∀ w ∈ wsX20, w ∈ wsX2_neighboursOf := by decide +kernel
set_option maxHeartbeats 4000000 in
set_option maxRecDepth 100000 in
theorem k_X2_neighboursOf (l : Launch) (dC : Nat → ClassId) (dI : Nat → Nat → Nat) (cI cZ : ClassId) (aR aRb aRr aRa : Nat) (ra : Nat → Nat) (q1 : Nat) (q2 : Nat) (bRa : ∀ k, ra k ≤ 511) (h1 : q1 < 9) (h2 : q2 < 512) : Met l yX2_neighboursOf wsX2_neighboursOf { frames := 1, cells := 0, slots := 0, locals := 20 } (va_Pc [.ref aR, .int (nI q1), .int (nI q2)] (fun U => va_P (dC, dI) vwCl [(aR, .inr (2, [.ref aRb, .ref aRr, .ref aRa])), (aRa, .inl (cI, 9, .inl (nF ra)))] U.heap ∧ lK dC dI cI cZ U)) (vp_Si (fun r => r = (nI (m_nbr ra q1 q2)))) 0 0 (fun _ => False) := by
  refine Met.ofW (cc := cX2_neighboursOf) (maxL := 4) (ret := (some .int)) (by decide) rfl ?_
  intro p e s m args below meth c s₁ B hml hv
  obtain ⟨rfl, hP, hKK⟩ := hv
  have hK := hKK.1
  have hx := B.exec
  have hb := B.bytes
  have hr := B.returns
  have hts := atoms_spec (ws := wsX2_neighboursOf) B.pre
  have hown : s.vm.findClass RX2 = some m.cls := findClass_of_methodNamed B.named
  have hlocks := B.notSynchronized
  have hl := lv_entry ([.ref aR, .int (nI q1), .int (nI q2)]) (n := 4) (Nat.le_of_ble_eq_true rfl)
  rw [lg_entry_eq]
  generalize (lg_sl ([.ref aR, .int (nI q1), .int (nI q2)]) ++ List.replicate (4 - (lg_sl ([.ref aR, .int (nI q1), .int (nI q2)])).length) Slot.unset).toArray = ls at hl ⊢
  have hl : lv_has ls 4 [(0, .ref aR), (1, .int (nI q1)), (2, .int (nI q2))] := hl
  refine lv_aload_n hx hb dX2_neighboursOf_0 rfl (lv_at hl 0 rfl) ?_
  refine va_get (D := (dC, dI)) (ci := 2) (v := .ref aRa) (C := RX2) (T := TX2) (N := 3) hx hb hts mX2_neighboursOf_inX2 hown hK hP 0 rfl rfl 2 (by decide) (hts (.fieldLink RX2 18 "LeafOrder$Rules" "rightAhead" "[I") mX2_neighboursOf_0) (fun _ h9 => h9) rfl dX2_neighboursOf_1 ?_
  refine lv_iload_n hx hb dX2_neighboursOf_4 rfl (lv_at hl 1 rfl) ?_
  refine ln_iald (i := q1) hx hb hK hP 1 0 rfl rfl (by omega) (by decide) dX2_neighboursOf_5 ?_
  have b_1 := bRa q1
  refine lv_iload_n hx hb dX2_neighboursOf_6 rfl (lv_at hl 2 rfl) ?_
  refine ln_iand hx hb dX2_neighboursOf_7 ?_
  refine lv_istore_n (lv' := [(3, .int (nI ((ra q1) &&& q2))), (0, .ref aR), (1, .int (nI q1)), (2, .int (nI q2))]) hx hb dX2_neighboursOf_8 rfl hl (by decide) rfl (fun ls hl => ?_)
  refine lv_iload_n hx hb dX2_neighboursOf_9 rfl (lv_at hl 0 rfl) ?_
  refine ln_if_ne (tgt := 15) hx hb dX2_neighboursOf_10 (by decide) (Nat.lt_of_le_of_lt Nat.and_le_right (by omega)) (fun c_2 => ?_) (fun c_2 => ?_)
  · refine lv_iload_n hx hb dX2_neighboursOf_15 rfl (lv_at hl 0 rfl) ?_
    refine vp_callSi (W.runS (As := [.int (nI ((ra q1) &&& q2))]) (rest := []) ⟨hx, hb, hml, hown, hts⟩ (k_J6_bitCount_0f7a4 l dC dI cI cZ ((ra q1) &&& q2) (Nat.lt_of_le_of_lt Nat.and_le_right h2)) (va_cwS 1 hts gX2_neighboursOf_J6_bitCount_0f7a4 rfl rfl rfl (by decide +kernel) ⟨Nat.le_of_ble_eq_true rfl, Nat.le_of_ble_eq_true rfl⟩) ln_preS0 rfl rfl hl.1 rfl (lv_room (Nat.le_of_ble_eq_true rfl)) dX2_neighboursOf_16 ⟨Nat.le_of_ble_eq_true rfl, Nat.le_of_ble_eq_true rfl⟩) (fun r_3 w_4 => ?_)
    subst w_4
    refine lv_iconst (v := nI 1) hx hb dX2_neighboursOf_19 (by decide) ?_
    refine ln_icmp_ne (tgt := 27) hx hb dX2_neighboursOf_20 (by decide) (Nat.lt_of_le_of_lt (m_pc_le _) (by decide)) (by decide) (fun c_5 => ?_) (fun c_5 => ?_)
    · refine lv_iconst (v := nI 0) hx hb dX2_neighboursOf_27 (by decide) ?_
      exact W.iret (v := (nI 0)) hx hb hr (fun t ht hW => ⟨(nI 0), rfl, (by unfold m_nbr; rw [if_neg c_2, if_neg c_5]), ht⟩) (fun _ h => by cases h) dX2_neighboursOf_28
    · refine lv_iload_n hx hb dX2_neighboursOf_23 rfl (lv_at hl 0 rfl) ?_
      refine lv_goto (tgt := 28) hx hb dX2_neighboursOf_24 (by decide) ?_
      exact W.iret (v := (nI ((ra q1) &&& q2))) hx hb hr (fun t ht hW => ⟨(nI ((ra q1) &&& q2)), rfl, (by unfold m_nbr; rw [if_neg c_2, if_pos c_5]), ht⟩) (fun _ h => by cases h) dX2_neighboursOf_28
  · refine lv_iload_n hx hb dX2_neighboursOf_13 rfl (lv_at hl 3 rfl) ?_
    exact W.iret (v := (nI q2)) hx hb hr (fun t ht hW => ⟨(nI q2), rfl, (by unfold m_nbr; rw [if_pos c_2]), ht⟩) (fun _ h => by cases h) dX2_neighboursOf_14
theorem mX2_mayComeAfter_0 : Cond.fieldLink RX2 9 "LeafOrder$Rules" "behind" "[I" ∈ wsX2_mayComeAfter := by decide +kernel
theorem mX2_mayComeAfter_inX2 : ∀ w ∈ wsX20, w ∈ wsX2_mayComeAfter := by decide +kernel
theorem mX2_mayComeAfter_2 : Cond.fieldLink RX2 15 "LeafOrder$Rules" "rightBehind" "[I" ∈ wsX2_mayComeAfter := by decide +kernel
set_option maxHeartbeats 4000000 in
set_option maxRecDepth 100000 in
theorem k_X2_mayComeAfter (l : Launch) (dC : Nat → ClassId) (dI : Nat → Nat → Nat) (cI cZ : ClassId) (aR aRb aRr aRa : Nat) (rb : Nat → Nat) (rr : Nat → Nat) (q1 : Nat) (q2 : Nat) (bRb : ∀ k, rb k ≤ 511) (bRr : ∀ k, rr k ≤ 511) (h1 : q1 < 9) (h2 : q2 < 512) : Met l yX2_mayComeAfter wsX2_mayComeAfter { frames := 0, cells := 0, slots := 0, locals := 0 } (va_Pc [.ref aR, .int (nI q1), .int (nI q2)] (fun U => va_P (dC, dI) vwCl [(aR, .inr (2, [.ref aRb, .ref aRr, .ref aRa])), (aRb, .inl (cI, 9, .inl (nF rb))), (aRr, .inl (cI, 9, .inl (nF rr)))] U.heap ∧ lK dC dI cI cZ U)) (vp_Si (fun r => (r = nI 1 ∧ ((rb q1 ||| rr q1) &&& q2 = 0)) ∨ (r = nI 0 ∧ ¬ ((rb q1 ||| rr q1) &&& q2 = 0)))) 0 0 (fun _ => False) := by
  refine Met.ofW (cc := cX2_mayComeAfter) (maxL := 3) (ret := (some .boolean)) (by decide) rfl ?_
  intro p e s m args below meth c s₁ B hml hv
  obtain ⟨rfl, hP, hKK⟩ := hv
  have hK := hKK.1
  have hx := B.exec
  have hb := B.bytes
  have hr := B.returns
  have hts := atoms_spec (ws := wsX2_mayComeAfter) B.pre
  have hown : s.vm.findClass RX2 = some m.cls := findClass_of_methodNamed B.named
  have hlocks := B.notSynchronized
  have hl := lv_entry ([.ref aR, .int (nI q1), .int (nI q2)]) (n := 3) (Nat.le_of_ble_eq_true rfl)
  rw [lg_entry_eq]
  generalize (lg_sl ([.ref aR, .int (nI q1), .int (nI q2)]) ++ List.replicate (3 - (lg_sl ([.ref aR, .int (nI q1), .int (nI q2)])).length) Slot.unset).toArray = ls at hl ⊢
  have hl : lv_has ls 3 [(0, .ref aR), (1, .int (nI q1)), (2, .int (nI q2))] := hl
  refine lv_aload_n hx hb dX2_mayComeAfter_0 rfl (lv_at hl 0 rfl) ?_
  refine va_get (D := (dC, dI)) (ci := 2) (v := .ref aRb) (C := RX2) (T := TX2) (N := 3) hx hb hts mX2_mayComeAfter_inX2 hown hK hP 0 rfl rfl 0 (by decide) (hts (.fieldLink RX2 9 "LeafOrder$Rules" "behind" "[I") mX2_mayComeAfter_0) (fun _ h9 => h9) rfl dX2_mayComeAfter_1 ?_
  refine lv_iload_n hx hb dX2_mayComeAfter_4 rfl (lv_at hl 1 rfl) ?_
  refine ln_iald (i := q1) hx hb hK hP 1 0 rfl rfl (by omega) (by decide) dX2_mayComeAfter_5 ?_
  have b_1 := bRb q1
  refine lv_aload_n hx hb dX2_mayComeAfter_6 rfl (lv_at hl 0 rfl) ?_
  refine va_get (D := (dC, dI)) (ci := 2) (v := .ref aRr) (C := RX2) (T := TX2) (N := 3) hx hb hts mX2_mayComeAfter_inX2 hown hK hP 0 rfl rfl 1 (by decide) (hts (.fieldLink RX2 15 "LeafOrder$Rules" "rightBehind" "[I") mX2_mayComeAfter_2) (fun _ h9 => h9) rfl dX2_mayComeAfter_7 ?_
  refine lv_iload_n hx hb dX2_mayComeAfter_10 rfl (lv_at hl 1 rfl) ?_
  refine ln_iald (i := q1) hx hb hK hP 2 0 rfl rfl (by omega) (by decide) dX2_mayComeAfter_11 ?_
  have b_2 := bRr q1
  refine ln_ior hx hb dX2_mayComeAfter_12 ?_
  refine lv_iload_n hx hb dX2_mayComeAfter_13 rfl (lv_at hl 2 rfl) ?_
  refine ln_iand hx hb dX2_mayComeAfter_14 ?_
  refine ln_if_ne (tgt := 22) hx hb dX2_mayComeAfter_15 (by decide) (Nat.lt_of_le_of_lt Nat.and_le_right (by omega)) (fun c_3 => ?_) (fun c_3 => ?_)
  · refine lv_iconst (v := nI 0) hx hb dX2_mayComeAfter_22 (by decide) ?_
    exact W.zret (v := (nI 0)) hx hb hr (by decide) (fun t ht hW => ⟨(nI 0), rfl, Or.inr ⟨rfl, (by assumption)⟩, ht⟩) (fun _ h => by cases h) dX2_mayComeAfter_23
  · refine lv_iconst (v := nI 1) hx hb dX2_mayComeAfter_18 (by decide) ?_
    refine lv_goto (tgt := 23) hx hb dX2_mayComeAfter_19 (by decide) ?_
    exact W.zret (v := (nI 1)) hx hb hr (by decide) (fun t ht hW => ⟨(nI 1), rfl, Or.inl ⟨rfl, (by assumption)⟩, ht⟩) (fun _ h => by cases h) dX2_mayComeAfter_23
theorem mX4_all_0 : Cond.fieldLink RX4 40 "LeafOrder$Search" "count" "I" ∈ wsX4_all := by decide +kernel
theorem mX4_all_inX4 : ∀ w ∈ wsX40, w ∈ wsX4_all := by decide +kernel
set_option maxHeartbeats 4000000 in
set_option maxRecDepth 100000 in
theorem k_X4_all (l : Launch) (dC : Nat → ClassId) (dI : Nat → Nat → Nat) (cI cZ : ClassId) (aS aR aSj aSl aSs aSo : Nat) (sn : Nat) (st : Nat) (sb : Nat) (sx : Nat) (hn : sn ≤ 9) : Met l yX4_all wsX4_all { frames := 0, cells := 0, slots := 0, locals := 0 } (va_Pc [.ref aS] (fun U => va_P (dC, dI) vwCl [(aS, .inr (4, [.ref aR, .ref aSj, .ref aSl, .ref aSs, .ref aSo, .int (nI sn), .int (nI st), .int (nI sb), .int (nI sx)]))] U.heap ∧ lK dC dI cI cZ U)) (vp_Si (fun r => r = (nI (2 ^ sn - 1)))) 0 0 (fun _ => False) := by
  refine Met.ofW (cc := cX4_all) (maxL := 1) (ret := (some .int)) (by decide) rfl ?_
  intro p e s m args below meth c s₁ B hml hv
  obtain ⟨rfl, hP, hKK⟩ := hv
  have hK := hKK.1
  have hx := B.exec
  have hb := B.bytes
  have hr := B.returns
  have hts := atoms_spec (ws := wsX4_all) B.pre
  have hown : s.vm.findClass RX4 = some m.cls := findClass_of_methodNamed B.named
  have hlocks := B.notSynchronized
  have hl := lv_entry ([.ref aS]) (n := 1) (Nat.le_of_ble_eq_true rfl)
  rw [lg_entry_eq]
  generalize (lg_sl ([.ref aS]) ++ List.replicate (1 - (lg_sl ([.ref aS])).length) Slot.unset).toArray = ls at hl ⊢
  have hl : lv_has ls 1 [(0, .ref aS)] := hl
  refine lv_iconst (v := nI 1) hx hb dX4_all_0 (by decide) ?_
  refine lv_aload_n hx hb dX4_all_1 rfl (lv_at hl 0 rfl) ?_
  refine va_get (D := (dC, dI)) (ci := 4) (v := .int (nI sn)) (C := RX4) (T := TX4) (N := 9) hx hb hts mX4_all_inX4 hown hK hP 0 rfl rfl 5 (by decide) (hts (.fieldLink RX4 40 "LeafOrder$Search" "count" "I") mX4_all_0) (fun _ h9 => h9) rfl dX4_all_2 ?_
  refine ln_ishl1 hx hb dX4_all_5 (by omega) ?_
  refine lv_iconst (v := nI 1) hx hb dX4_all_6 (by decide) ?_
  refine ln_isub hx hb dX4_all_7 (ln_one_two_pow _) ?_
  exact W.iret (v := (nI ((2 ^ sn) - 1))) hx hb hr (fun t ht hW => ⟨(nI ((2 ^ sn) - 1)), rfl, rfl, ht⟩) (fun _ h => by cases h) dX4_all_8
theorem mX4_linkCost_0 : Cond.fieldLink RX4 9 "LeafOrder$Search" "joins" "[I" ∈ wsX4_linkCost := by decide +kernel
theorem mX4_linkCost_inX4 : ∀ w ∈ wsX40, w ∈ wsX4_linkCost := by decide +kernel
set_option maxHeartbeats 4000000 in
set_option maxRecDepth 100000 in
theorem k_X4_linkCost (l : Launch) (dC : Nat → ClassId) (dI : Nat → Nat → Nat) (cI cZ : ClassId) (aS aR aSj aSl aSs aSo : Nat) (sn : Nat) (st : Nat) (sb : Nat) (sx : Nat) (sj : Nat → Nat) (q1 : Nat) (q2 : Nat) (bSj : ∀ k, sj k ≤ 10000) (h1 : q1 < 18) (h2 : q2 ≤ 18) : Met l yX4_linkCost wsX4_linkCost { frames := 0, cells := 0, slots := 0, locals := 0 } (va_Pc [.ref aS, .int (nI q1), .int (bhN q2)] (fun U => va_P (dC, dI) vwCl [(aS, .inr (4, [.ref aR, .ref aSj, .ref aSl, .ref aSs, .ref aSo, .int (nI sn), .int (nI st), .int (nI sb), .int (nI sx)])), (aSj, .inl (cI, 324, .inl (nF sj)))] U.heap ∧ lK dC dI cI cZ U)) (vp_Si (fun r => r = (nI (m_link sj q1 q2)))) 0 0 (fun _ => False) := by
  refine Met.ofW (cc := cX4_linkCost) (maxL := 3) (ret := (some .int)) (by decide) rfl ?_
  intro p e s m args below meth c s₁ B hml hv
  obtain ⟨rfl, hP, hKK⟩ := hv
  have hK := hKK.1
  have hx := B.exec
  have hb := B.bytes
  have hr := B.returns
  have hts := atoms_spec (ws := wsX4_linkCost) B.pre
  have hown : s.vm.findClass RX4 = some m.cls := findClass_of_methodNamed B.named
  have hlocks := B.notSynchronized
  have hl := lv_entry ([.ref aS, .int (nI q1), .int (bhN q2)]) (n := 3) (Nat.le_of_ble_eq_true rfl)
  rw [lg_entry_eq]
  generalize (lg_sl ([.ref aS, .int (nI q1), .int (bhN q2)]) ++ List.replicate (3 - (lg_sl ([.ref aS, .int (nI q1), .int (bhN q2)])).length) Slot.unset).toArray = ls at hl ⊢
  have hl : lv_has ls 3 [(0, .ref aS), (1, .int (nI q1)), (2, .int (bhN q2))] := hl
  rcases Nat.lt_or_ge q2 18 with hq | hq
  · have hl : lv_has ls 3 [(0, .ref aS), (1, .int (nI q1)), (2, .int (nI q2))] := by rw [bhN_lt hq] at hl; exact hl
    refine lv_iload_n hx hb dX4_linkCost_0 rfl (lv_at hl 2 rfl) ?_
    refine lv_iconst (v := (-1)) hx hb dX4_linkCost_1 (by decide) ?_
    refine ln_icmp_neT (tgt := 9) hx hb dX4_linkCost_2 (by decide) (ln_nm1 (by omega)) ?_
    refine lv_aload_n hx hb dX4_linkCost_9 rfl (lv_at hl 0 rfl) ?_
    refine va_get (D := (dC, dI)) (ci := 4) (v := .ref aSj) (C := RX4) (T := TX4) (N := 9) hx hb hts mX4_linkCost_inX4 hown hK hP 0 rfl rfl 1 (by decide) (hts (.fieldLink RX4 9 "LeafOrder$Search" "joins" "[I") mX4_linkCost_0) (fun _ h9 => h9) rfl dX4_linkCost_10 ?_
    refine lv_iload_n hx hb dX4_linkCost_13 rfl (lv_at hl 1 rfl) ?_
    refine lv_bipush (v := nI 18) hx hb dX4_linkCost_14 (by decide) ?_
    refine ln_imul hx hb dX4_linkCost_16 ?_
    refine lv_iload_n hx hb dX4_linkCost_17 rfl (lv_at hl 2 rfl) ?_
    refine ln_iadd hx hb dX4_linkCost_18 ?_
    refine ln_iald (i := (q1 * 18) + q2) hx hb hK hP 1 0 rfl rfl (by omega) (by decide) dX4_linkCost_19 ?_
    have b_1 := bSj ((q1 * 18) + q2)
    exact W.iret (v := (nI (sj ((q1 * 18) + q2)))) hx hb hr (fun t ht hW => ⟨(nI (sj ((q1 * 18) + q2))), rfl, (by unfold m_link; rw [if_pos hq]), ht⟩) (fun _ h => by cases h) dX4_linkCost_20
  · have hl : lv_has ls 3 [(0, .ref aS), (1, .int (nI q1)), (2, .int (-1))] := by rw [show q2 = 18 by omega, bhN_18] at hl; exact hl
    refine lv_iload_n hx hb dX4_linkCost_0 rfl (lv_at hl 2 rfl) ?_
    refine lv_iconst (v := (-1)) hx hb dX4_linkCost_1 (by decide) ?_
    refine ln_icmp_neF (tgt := 9) hx hb dX4_linkCost_2 (by decide) (fun q => q rfl) ?_
    refine lv_iconst (v := nI 0) hx hb dX4_linkCost_5 (by decide) ?_
    refine lv_goto (tgt := 20) hx hb dX4_linkCost_6 (by decide) ?_
    exact W.iret (v := (nI 0)) hx hb hr (fun t ht hW => ⟨(nI 0), rfl, (by unfold m_link; rw [if_neg (by omega)]), ht⟩) (fun _ h => by cases h) dX4_linkCost_20
theorem mX4_leastUpTo_0 : Cond.constant RX4 44 (1000000) ∈ wsX4_leastUpTo := by decide +kernel
theorem mX4_leastUpTo_1 : Cond.fieldLink RX4 40 "LeafOrder$Search" "count" "I" ∈ wsX4_leastUpTo := by decide +kernel
theorem mX4_leastUpTo_inX4 : ∀ w ∈ wsX40, w ∈ wsX4_leastUpTo := by decide +kernel
theorem mX4_leastUpTo_3 : Cond.fieldLink RX4 15 "LeafOrder$Search" "least" "[I" ∈ wsX4_leastUpTo := by decide +kernel
theorem mX4_leastUpTo_4 : Cond.fieldLink RX4 9 "LeafOrder$Search" "joins" "[I" ∈ wsX4_leastUpTo := by decide +kernel
theorem mX4_leastUpTo_5 : Cond.methodLink RX4 93 Lib.Math.min.name ∈ wsX4_leastUpTo := by decide +kernel
theorem mX4_leastUpTo_6 : Cond.static Lib.Math.min.name ∈ wsX4_leastUpTo := by decide +kernel
theorem mX4_leastUpTo_7 : Cond.initialized "java/lang/Math" ∈ wsX4_leastUpTo := by decide +kernel
theorem mX4_leastUpTo_8 : Cond.code Lib.Math.min.name Lib.Math.min.code 2 (some .int) ∈ wsX4_leastUpTo := by decide +kernel
set_option maxHeartbeats 4000000 in
set_option maxRecDepth 100000 in
theorem k_X4_leastUpTo (l : Launch) (dC : Nat → ClassId) (dI : Nat → Nat → Nat) (cI cZ : ClassId) (aS aR aSj aSl aSs aSo : Nat) (sn : Nat) (st : Nat) (sb : Nat) (sx : Nat) (sl : Nat → Nat) (sj : Nat → Nat) (q1 : Nat) (q2 : Nat) (q3 : Nat) (bSl : ∀ k, sl k ≤ 1000000) (bSj : ∀ k, sj k ≤ 10000) (hn : sn ≤ 9) (h1 : q1 < 512) (h2 : q2 < 512) (h3 : q3 < 18) : Met l yX4_leastUpTo wsX4_leastUpTo { frames := 1, cells := 0, slots := 0, locals := 21 } (va_Pc [.ref aS, .int (nI q1), .int (nI q2), .int (nI q3)] (fun U => va_P (dC, dI) vwCl [(aS, .inr (4, [.ref aR, .ref aSj, .ref aSl, .ref aSs, .ref aSo, .int (nI sn), .int (nI st), .int (nI sb), .int (nI sx)])), (aSl, .inl (cI, 9216, .inl (nF sl))), (aSj, .inl (cI, 324, .inl (nF sj)))] U.heap ∧ lK dC dI cI cZ U)) (vp_Si (fun r => r = (nI (m_upx sl sj sn q1 q2 q3)))) 0 0 (fun _ => False) := by
  refine Met.ofW (cc := cX4_leastUpTo) (maxL := 9) (ret := (some .int)) (by decide) rfl ?_
  intro p e s m args below meth c s₁ B hml hv
  obtain ⟨rfl, hP, hKK⟩ := hv
  have hK := hKK.1
  have hx := B.exec
  have hb := B.bytes
  have hr := B.returns
  have hts := atoms_spec (ws := wsX4_leastUpTo) B.pre
  have hown : s.vm.findClass RX4 = some m.cls := findClass_of_methodNamed B.named
  have hlocks := B.notSynchronized
  have hl := lv_entry ([.ref aS, .int (nI q1), .int (nI q2), .int (nI q3)]) (n := 9) (Nat.le_of_ble_eq_true rfl)
  rw [lg_entry_eq]
  generalize (lg_sl ([.ref aS, .int (nI q1), .int (nI q2), .int (nI q3)]) ++ List.replicate (9 - (lg_sl ([.ref aS, .int (nI q1), .int (nI q2), .int (nI q3)])).length) Slot.unset).toArray = ls at hl ⊢
  have hl : lv_has ls 9 [(0, .ref aS), (1, .int (nI q1)), (2, .int (nI q2)), (3, .int (nI q3))] := hl
  refine lv_iload_n hx hb dX4_leastUpTo_0 rfl (lv_at hl 1 rfl) ?_
  refine ln_if_ne (tgt := 6) hx hb dX4_leastUpTo_1 (by decide) (by omega) (fun c_1 => ?_) (fun c_1 => ?_)
  · refine lv_ldc (v := nI 1000000) hx hb hown (hts (.constant RX4 44 (1000000)) mX4_leastUpTo_0) dX4_leastUpTo_6 ?_
    refine lv_istore (lv' := [(4, .int (nI 1000000)), (0, .ref aS), (1, .int (nI q1)), (2, .int (nI q2)), (3, .int (nI q3))]) hx hb dX4_leastUpTo_8 hl (by decide) rfl (fun ls hl => ?_)
    refine lv_iconst (v := nI 0) hx hb dX4_leastUpTo_10 (by decide) ?_
    refine lv_istore (lv' := [(5, .int (nI 0)), (4, .int (nI 1000000)), (0, .ref aS), (1, .int (nI q1)), (2, .int (nI q2)), (3, .int (nI q3))]) hx hb dX4_leastUpTo_11 hl (by decide) rfl (fun ls hl => ?_)
    have LP13 : ∀ (n13 : Nat) (i : Nat) (acc : Nat), sn - i < n13 → (i ≤ sn) → (acc = m_up sl sj q1 q2 q3 i) → (acc ≤ 1000000) → ∀ (ls : Array Slot), lv_has ls 9 [(0, .ref aS), (1, .int (nI q1)), (2, .int (nI q2)), (3, .int (nI q3)), (4, .int (nI acc)), (5, .int (nI i))] → W p l e { frames := 1, cells := 0, slots := 0, locals := 21 } s m [.ref aS, .int (nI q1), .int (nI q2), .int (nI q3)].toArray below meth c s.heap [] 0 0 (MQ below (vp_Si (fun r => r = (nI (m_upx sl sj sn q1 q2 q3)))) [.ref aS, .int (nI q1), .int (nI q2), .int (nI q3)].toArray s 0 0 (fun _ => False)) (F0 m 13 ls []) := by
      intro n13
      induction n13 with
      | zero =>
        intro i acc hm
        exact absurd hm (Nat.not_lt_zero _)
      | succ n13 ih13 =>
        intro i acc hm13  hi hacc ha ls hl
        refine lv_iload hx hb dX4_leastUpTo_13 (lv_at hl 5 rfl) ?_
        refine lv_aload_n hx hb dX4_leastUpTo_15 rfl (lv_at hl 0 rfl) ?_
        refine va_get (D := (dC, dI)) (ci := 4) (v := .int (nI sn)) (C := RX4) (T := TX4) (N := 9) hx hb hts mX4_leastUpTo_inX4 hown hK hP 0 rfl rfl 5 (by decide) (hts (.fieldLink RX4 40 "LeafOrder$Search" "count" "I") mX4_leastUpTo_1) (fun _ h9 => h9) rfl dX4_leastUpTo_16 ?_
        refine ln_icmp_ge (tgt := 110) hx hb dX4_leastUpTo_19 (by decide) (by omega) (by omega) (fun c_2 => ?_) (fun c_2 => ?_)
        · refine lv_iload hx hb dX4_leastUpTo_110 (lv_at hl 4 rfl) ?_
          exact W.iret (v := (nI acc)) hx hb hr (fun t ht hW => ⟨(nI acc), rfl, (by unfold m_upx; rw [if_neg c_1, hacc, show i = sn by omega]), ht⟩) (fun _ h => by cases h) dX4_leastUpTo_112
        · refine lv_iload_n hx hb dX4_leastUpTo_22 rfl (lv_at hl 2 rfl) ?_
          refine lv_iload hx hb dX4_leastUpTo_23 (lv_at hl 5 rfl) ?_
          refine ln_ishr hx hb dX4_leastUpTo_25 (by omega) (by omega) ?_
          refine lv_iconst (v := nI 1) hx hb dX4_leastUpTo_26 (by decide) ?_
          refine ln_iand hx hb dX4_leastUpTo_27 ?_
          refine ln_if_eq (tgt := 104) hx hb dX4_leastUpTo_28 (by decide) (ln_b31 _) (fun c_3 => ?_) (fun c_3 => ?_)
          · refine lv_iinc (v := (nI (i + 1))) (lv' := [(5, .int (nI (i + 1))), (0, .ref aS), (1, .int (nI q1)), (2, .int (nI q2)), (3, .int (nI q3)), (4, .int (nI acc))]) hx hb dX4_leastUpTo_104 hl (k := 5) rfl (by first | exact nI_1 _ | rfl) (by decide) rfl (fun ls hl => ?_)
            refine lv_goto (tgt := 13) hx hb dX4_leastUpTo_107 (by decide) ?_
            exact ih13 (i + 1) acc (by omega)  (by omega) (by rw [m_up, if_pos c_3, hacc]) (by omega) ls (lv_sub hl [1, 2, 3, 4, 5, 0] rfl)
          · refine lv_iconst (v := nI 2) hx hb dX4_leastUpTo_31 (by decide) ?_
            refine lv_iload hx hb dX4_leastUpTo_32 (lv_at hl 5 rfl) ?_
            refine ln_imul hx hb dX4_leastUpTo_34 ?_
            refine lv_istore (lv' := [(6, .int (nI (2 * i))), (0, .ref aS), (1, .int (nI q1)), (2, .int (nI q2)), (3, .int (nI q3)), (4, .int (nI acc)), (5, .int (nI i))]) hx hb dX4_leastUpTo_35 hl (by decide) rfl (fun ls hl => ?_)
            refine lv_iload_n hx hb dX4_leastUpTo_37 rfl (lv_at hl 2 rfl) ?_
            refine lv_bipush (v := nI 18) hx hb dX4_leastUpTo_38 (by decide) ?_
            refine ln_imul hx hb dX4_leastUpTo_40 ?_
            refine lv_iload hx hb dX4_leastUpTo_41 (lv_at hl 0 rfl) ?_
            refine ln_iadd hx hb dX4_leastUpTo_43 ?_
            refine lv_istore (lv' := [(7, .int (nI ((q1 * 18) + (2 * i)))), (6, .int (nI (2 * i))), (0, .ref aS), (1, .int (nI q1)), (2, .int (nI q2)), (3, .int (nI q3)), (4, .int (nI acc)), (5, .int (nI i))]) hx hb dX4_leastUpTo_44 hl (by decide) rfl (fun ls hl => ?_)
            refine lv_iload hx hb dX4_leastUpTo_46 (lv_at hl 1 rfl) ?_
            refine lv_bipush (v := nI 18) hx hb dX4_leastUpTo_48 (by decide) ?_
            refine ln_imul hx hb dX4_leastUpTo_50 ?_
            refine lv_iload_n hx hb dX4_leastUpTo_51 rfl (lv_at hl 5 rfl) ?_
            refine ln_iadd hx hb dX4_leastUpTo_52 ?_
            refine lv_istore (lv' := [(8, .int (nI (((2 * i) * 18) + q3))), (7, .int (nI ((q1 * 18) + (2 * i)))), (6, .int (nI (2 * i))), (0, .ref aS), (1, .int (nI q1)), (2, .int (nI q2)), (3, .int (nI q3)), (4, .int (nI acc)), (5, .int (nI i))]) hx hb dX4_leastUpTo_53 hl (by decide) rfl (fun ls hl => ?_)
            refine lv_iload hx hb dX4_leastUpTo_55 (lv_at hl 7 rfl) ?_
            refine lv_aload_n hx hb dX4_leastUpTo_57 rfl (lv_at hl 3 rfl) ?_
            refine va_get (D := (dC, dI)) (ci := 4) (v := .ref aSl) (C := RX4) (T := TX4) (N := 9) hx hb hts mX4_leastUpTo_inX4 hown hK hP 0 rfl rfl 2 (by decide) (hts (.fieldLink RX4 15 "LeafOrder$Search" "least" "[I") mX4_leastUpTo_3) (fun _ h9 => h9) rfl dX4_leastUpTo_58 ?_
            refine lv_iload hx hb dX4_leastUpTo_61 (lv_at hl 1 rfl) ?_
            refine ln_iald (i := (q1 * 18) + (2 * i)) hx hb hK hP 1 0 rfl rfl (by omega) (by decide) dX4_leastUpTo_63 ?_
            have b_4 := bSl ((q1 * 18) + (2 * i))
            refine lv_aload_n hx hb dX4_leastUpTo_64 rfl (lv_at hl 3 rfl) ?_
            refine va_get (D := (dC, dI)) (ci := 4) (v := .ref aSj) (C := RX4) (T := TX4) (N := 9) hx hb hts mX4_leastUpTo_inX4 hown hK hP 0 rfl rfl 1 (by decide) (hts (.fieldLink RX4 9 "LeafOrder$Search" "joins" "[I") mX4_leastUpTo_4) (fun _ h9 => h9) rfl dX4_leastUpTo_65 ?_
            refine lv_iload hx hb dX4_leastUpTo_68 (lv_at hl 0 rfl) ?_
            refine ln_iald (i := ((2 * i) * 18) + q3) hx hb hK hP 2 0 rfl rfl (by omega) (by decide) dX4_leastUpTo_70 ?_
            have b_5 := bSj (((2 * i) * 18) + q3)
            refine ln_iadd hx hb dX4_leastUpTo_71 ?_
            refine ln_mmin (x := acc) (y := (sl ((q1 * 18) + (2 * i))) + (sj (((2 * i) * 18) + q3))) hx hb (by rw [hml]; exact hl.1.symm) hown (hts (.methodLink RX4 93 Lib.Math.min.name) mX4_leastUpTo_5) (hts (.static Lib.Math.min.name) mX4_leastUpTo_6) (hts (.initialized "java/lang/Math") mX4_leastUpTo_7) (hts (.code Lib.Math.min.name Lib.Math.min.code 2 (some .int)) mX4_leastUpTo_8) (Nat.le_of_ble_eq_true rfl) (Nat.le_of_ble_eq_true rfl) (Nat.zero_le _) (Nat.zero_le _) (by omega) (by omega) dX4_leastUpTo_72 ?_
            refine lv_istore (lv' := [(4, .int (nI (min acc ((sl ((q1 * 18) + (2 * i))) + (sj (((2 * i) * 18) + q3)))))), (8, .int (nI (((2 * i) * 18) + q3))), (7, .int (nI ((q1 * 18) + (2 * i)))), (6, .int (nI (2 * i))), (0, .ref aS), (1, .int (nI q1)), (2, .int (nI q2)), (3, .int (nI q3)), (5, .int (nI i))]) hx hb dX4_leastUpTo_75 hl (by decide) rfl (fun ls hl => ?_)
            refine lv_iload hx hb dX4_leastUpTo_77 (lv_at hl 0 rfl) ?_
            refine lv_aload_n hx hb dX4_leastUpTo_79 rfl (lv_at hl 4 rfl) ?_
            refine va_get (D := (dC, dI)) (ci := 4) (v := .ref aSl) (C := RX4) (T := TX4) (N := 9) hx hb hts mX4_leastUpTo_inX4 hown hK hP 0 rfl rfl 2 (by decide) (hts (.fieldLink RX4 15 "LeafOrder$Search" "least" "[I") mX4_leastUpTo_3) (fun _ h9 => h9) rfl dX4_leastUpTo_80 ?_
            refine lv_iload hx hb dX4_leastUpTo_83 (lv_at hl 2 rfl) ?_
            refine lv_iconst (v := nI 1) hx hb dX4_leastUpTo_85 (by decide) ?_
            refine ln_iadd hx hb dX4_leastUpTo_86 ?_
            refine ln_iald (i := ((q1 * 18) + (2 * i)) + 1) hx hb hK hP 1 0 rfl rfl (by omega) (by decide) dX4_leastUpTo_87 ?_
            have b_6 := bSl (((q1 * 18) + (2 * i)) + 1)
            refine lv_aload_n hx hb dX4_leastUpTo_88 rfl (lv_at hl 4 rfl) ?_
            refine va_get (D := (dC, dI)) (ci := 4) (v := .ref aSj) (C := RX4) (T := TX4) (N := 9) hx hb hts mX4_leastUpTo_inX4 hown hK hP 0 rfl rfl 1 (by decide) (hts (.fieldLink RX4 9 "LeafOrder$Search" "joins" "[I") mX4_leastUpTo_4) (fun _ h9 => h9) rfl dX4_leastUpTo_89 ?_
            refine lv_iload hx hb dX4_leastUpTo_92 (lv_at hl 1 rfl) ?_
            refine lv_bipush (v := nI 18) hx hb dX4_leastUpTo_94 (by decide) ?_
            refine ln_iadd hx hb dX4_leastUpTo_96 ?_
            refine ln_iald (i := (((2 * i) * 18) + q3) + 18) hx hb hK hP 2 0 rfl rfl (by omega) (by decide) dX4_leastUpTo_97 ?_
            have b_7 := bSj ((((2 * i) * 18) + q3) + 18)
            refine ln_iadd hx hb dX4_leastUpTo_98 ?_
            refine ln_mmin (x := min acc ((sl ((q1 * 18) + (2 * i))) + (sj (((2 * i) * 18) + q3)))) (y := (sl (((q1 * 18) + (2 * i)) + 1)) + (sj ((((2 * i) * 18) + q3) + 18))) hx hb (by rw [hml]; exact hl.1.symm) hown (hts (.methodLink RX4 93 Lib.Math.min.name) mX4_leastUpTo_5) (hts (.static Lib.Math.min.name) mX4_leastUpTo_6) (hts (.initialized "java/lang/Math") mX4_leastUpTo_7) (hts (.code Lib.Math.min.name Lib.Math.min.code 2 (some .int)) mX4_leastUpTo_8) (Nat.le_of_ble_eq_true rfl) (Nat.le_of_ble_eq_true rfl) (Nat.zero_le _) (Nat.zero_le _) (by omega) (by omega) dX4_leastUpTo_99 ?_
            refine lv_istore (lv' := [(4, .int (nI (min (min acc ((sl ((q1 * 18) + (2 * i))) + (sj (((2 * i) * 18) + q3)))) ((sl (((q1 * 18) + (2 * i)) + 1)) + (sj ((((2 * i) * 18) + q3) + 18)))))), (8, .int (nI (((2 * i) * 18) + q3))), (7, .int (nI ((q1 * 18) + (2 * i)))), (6, .int (nI (2 * i))), (0, .ref aS), (1, .int (nI q1)), (2, .int (nI q2)), (3, .int (nI q3)), (5, .int (nI i))]) hx hb dX4_leastUpTo_102 hl (by decide) rfl (fun ls hl => ?_)
            refine lv_iinc (v := (nI (i + 1))) (lv' := [(5, .int (nI (i + 1))), (4, .int (nI (min (min acc ((sl ((q1 * 18) + (2 * i))) + (sj (((2 * i) * 18) + q3)))) ((sl (((q1 * 18) + (2 * i)) + 1)) + (sj ((((2 * i) * 18) + q3) + 18)))))), (8, .int (nI (((2 * i) * 18) + q3))), (7, .int (nI ((q1 * 18) + (2 * i)))), (6, .int (nI (2 * i))), (0, .ref aS), (1, .int (nI q1)), (2, .int (nI q2)), (3, .int (nI q3))]) hx hb dX4_leastUpTo_104 hl (k := 8) rfl (by first | exact nI_1 _ | rfl) (by decide) rfl (fun ls hl => ?_)
            refine lv_goto (tgt := 13) hx hb dX4_leastUpTo_107 (by decide) ?_
            exact ih13 (i + 1) (min (min acc ((sl ((q1 * 18) + (2 * i))) + (sj (((2 * i) * 18) + q3)))) ((sl (((q1 * 18) + (2 * i)) + 1)) + (sj ((((2 * i) * 18) + q3) + 18)))) (by omega)  (by omega) (by rw [m_up, if_neg c_3, hacc]) (by omega) ls (lv_sub hl [5, 6, 7, 8, 1, 0] rfl)
    exact LP13 _ 0 1000000 (Nat.lt_succ_self _)  (Nat.zero_le _) rfl (by decide) ls (lv_sub hl [2, 3, 4, 5, 1, 0] rfl)
  · refine lv_iconst (v := nI 0) hx hb dX4_leastUpTo_4 (by decide) ?_
    exact W.iret (v := (nI 0)) hx hb hr (fun t ht hW => ⟨(nI 0), rfl, (by unfold m_upx; rw [if_pos c_1]), ht⟩) (fun _ h => by cases h) dX4_leastUpTo_5
theorem mX4_leastOf_0 : Cond.constant RX4 44 (1000000) ∈ wsX4_leastOf := by decide +kernel
theorem mX4_leastOf_1 : Cond.fieldLink RX4 40 "LeafOrder$Search" "count" "I" ∈ wsX4_leastOf := by decide +kernel
theorem mX4_leastOf_inX4 : ∀ w ∈ wsX40, w ∈ wsX4_leastOf := by decide +kernel
theorem mX4_leastOf_3 : Cond.fieldLink RX4 15 "LeafOrder$Search" "least" "[I" ∈ wsX4_leastOf := by decide +kernel
theorem mX4_leastOf_4 : Cond.methodLink RX4 93 Lib.Math.min.name ∈ wsX4_leastOf := by decide +kernel
theorem mX4_leastOf_5 : Cond.static Lib.Math.min.name ∈ wsX4_leastOf := by decide +kernel
theorem mX4_leastOf_6 : Cond.initialized "java/lang/Math" ∈ wsX4_leastOf := by decide +kernel
theorem mX4_leastOf_7 : Cond.code Lib.Math.min.name Lib.Math.min.code 2 (some .int) ∈ wsX4_leastOf := by decide +kernel
set_option maxHeartbeats 4000000 in
set_option maxRecDepth 100000 in
theorem k_X4_leastOf (l : Launch) (dC : Nat → ClassId) (dI : Nat → Nat → Nat) (cI cZ : ClassId) (aS aR aSj aSl aSs aSo : Nat) (sn : Nat) (st : Nat) (sb : Nat) (sx : Nat) (sl : Nat → Nat) (q1 : Nat) (bSl : ∀ k, sl k ≤ 1000000) (hn : sn ≤ 9) (h1 : q1 < 512) : Met l yX4_leastOf wsX4_leastOf { frames := 1, cells := 0, slots := 0, locals := 21 } (va_Pc [.ref aS, .int (nI q1)] (fun U => va_P (dC, dI) vwCl [(aS, .inr (4, [.ref aR, .ref aSj, .ref aSl, .ref aSs, .ref aSo, .int (nI sn), .int (nI st), .int (nI sb), .int (nI sx)])), (aSl, .inl (cI, 9216, .inl (nF sl)))] U.heap ∧ lK dC dI cI cZ U)) (vp_Si (fun r => r = (nI (m_of sl q1 (2 * sn))))) 0 0 (fun _ => False) := by
  refine Met.ofW (cc := cX4_leastOf) (maxL := 4) (ret := (some .int)) (by decide) rfl ?_
  intro p e s m args below meth c s₁ B hml hv
  obtain ⟨rfl, hP, hKK⟩ := hv
  have hK := hKK.1
  have hx := B.exec
  have hb := B.bytes
  have hr := B.returns
  have hts := atoms_spec (ws := wsX4_leastOf) B.pre
  have hown : s.vm.findClass RX4 = some m.cls := findClass_of_methodNamed B.named
  have hlocks := B.notSynchronized
  have hl := lv_entry ([.ref aS, .int (nI q1)]) (n := 4) (Nat.le_of_ble_eq_true rfl)
  rw [lg_entry_eq]
  generalize (lg_sl ([.ref aS, .int (nI q1)]) ++ List.replicate (4 - (lg_sl ([.ref aS, .int (nI q1)])).length) Slot.unset).toArray = ls at hl ⊢
  have hl : lv_has ls 4 [(0, .ref aS), (1, .int (nI q1))] := hl
  refine lv_ldc (v := nI 1000000) hx hb hown (hts (.constant RX4 44 (1000000)) mX4_leastOf_0) dX4_leastOf_0 ?_
  refine lv_istore_n (lv' := [(2, .int (nI 1000000)), (0, .ref aS), (1, .int (nI q1))]) hx hb dX4_leastOf_2 rfl hl (by decide) rfl (fun ls hl => ?_)
  refine lv_iconst (v := nI 0) hx hb dX4_leastOf_3 (by decide) ?_
  refine lv_istore_n (lv' := [(3, .int (nI 0)), (2, .int (nI 1000000)), (0, .ref aS), (1, .int (nI q1))]) hx hb dX4_leastOf_4 rfl hl (by decide) rfl (fun ls hl => ?_)
  have LP5 : ∀ (n5 : Nat) (i : Nat) (acc : Nat), 2 * sn - i < n5 → (i ≤ 2 * sn) → (acc = m_of sl q1 i) → (acc ≤ 1000000) → ∀ (ls : Array Slot), lv_has ls 4 [(0, .ref aS), (1, .int (nI q1)), (2, .int (nI acc)), (3, .int (nI i))] → W p l e { frames := 1, cells := 0, slots := 0, locals := 21 } s m [.ref aS, .int (nI q1)].toArray below meth c s.heap [] 0 0 (MQ below (vp_Si (fun r => r = (nI (m_of sl q1 (2 * sn))))) [.ref aS, .int (nI q1)].toArray s 0 0 (fun _ => False)) (F0 m 5 ls []) := by
    intro n5
    induction n5 with
    | zero =>
      intro i acc hm
      exact absurd hm (Nat.not_lt_zero _)
    | succ n5 ih5 =>
      intro i acc hm5  hi hacc ha ls hl
      refine lv_iload_n hx hb dX4_leastOf_5 rfl (lv_at hl 3 rfl) ?_
      refine lv_iconst (v := nI 2) hx hb dX4_leastOf_6 (by decide) ?_
      refine lv_aload_n hx hb dX4_leastOf_7 rfl (lv_at hl 0 rfl) ?_
      refine va_get (D := (dC, dI)) (ci := 4) (v := .int (nI sn)) (C := RX4) (T := TX4) (N := 9) hx hb hts mX4_leastOf_inX4 hown hK hP 0 rfl rfl 5 (by decide) (hts (.fieldLink RX4 40 "LeafOrder$Search" "count" "I") mX4_leastOf_1) (fun _ h9 => h9) rfl dX4_leastOf_8 ?_
      refine ln_imul hx hb dX4_leastOf_11 ?_
      refine ln_icmp_ge (tgt := 47) hx hb dX4_leastOf_12 (by decide) (by omega) (by omega) (fun c_1 => ?_) (fun c_1 => ?_)
      · refine lv_iload_n hx hb dX4_leastOf_47 rfl (lv_at hl 2 rfl) ?_
        exact W.iret (v := (nI acc)) hx hb hr (fun t ht hW => ⟨(nI acc), rfl, (by rw [hacc, show i = 2 * sn by omega]), ht⟩) (fun _ h => by cases h) dX4_leastOf_48
      · refine lv_iload_n hx hb dX4_leastOf_15 rfl (lv_at hl 1 rfl) ?_
        refine lv_iload_n hx hb dX4_leastOf_16 rfl (lv_at hl 3 rfl) ?_
        refine lv_iconst (v := nI 1) hx hb dX4_leastOf_17 (by decide) ?_
        refine ln_ishr hx hb dX4_leastOf_18 (by omega) (by omega) ?_
        refine ln_ishr hx hb dX4_leastOf_19 (by omega) (by omega) ?_
        refine lv_iconst (v := nI 1) hx hb dX4_leastOf_20 (by decide) ?_
        refine ln_iand hx hb dX4_leastOf_21 ?_
        refine ln_if_eq (tgt := 41) hx hb dX4_leastOf_22 (by decide) (ln_b31 _) (fun c_2 => ?_) (fun c_2 => ?_)
        · refine lv_iinc (v := (nI (i + 1))) (lv' := [(3, .int (nI (i + 1))), (0, .ref aS), (1, .int (nI q1)), (2, .int (nI acc))]) hx hb dX4_leastOf_41 hl (k := 3) rfl (by first | exact nI_1 _ | rfl) (by decide) rfl (fun ls hl => ?_)
          refine lv_goto (tgt := 5) hx hb dX4_leastOf_44 (by decide) ?_
          exact ih5 (i + 1) acc (by omega)  (by omega) (by rw [m_of, if_pos c_2, hacc]) (by omega) ls (lv_sub hl [1, 2, 3, 0] rfl)
        · refine lv_iload_n hx hb dX4_leastOf_25 rfl (lv_at hl 2 rfl) ?_
          refine lv_aload_n hx hb dX4_leastOf_26 rfl (lv_at hl 0 rfl) ?_
          refine va_get (D := (dC, dI)) (ci := 4) (v := .ref aSl) (C := RX4) (T := TX4) (N := 9) hx hb hts mX4_leastOf_inX4 hown hK hP 0 rfl rfl 2 (by decide) (hts (.fieldLink RX4 15 "LeafOrder$Search" "least" "[I") mX4_leastOf_3) (fun _ h9 => h9) rfl dX4_leastOf_27 ?_
          refine lv_iload_n hx hb dX4_leastOf_30 rfl (lv_at hl 1 rfl) ?_
          refine lv_bipush (v := nI 18) hx hb dX4_leastOf_31 (by decide) ?_
          refine ln_imul hx hb dX4_leastOf_33 ?_
          refine lv_iload_n hx hb dX4_leastOf_34 rfl (lv_at hl 3 rfl) ?_
          refine ln_iadd hx hb dX4_leastOf_35 ?_
          refine ln_iald (i := (q1 * 18) + i) hx hb hK hP 1 0 rfl rfl (by omega) (by decide) dX4_leastOf_36 ?_
          have b_3 := bSl ((q1 * 18) + i)
          refine ln_mmin (x := acc) (y := sl ((q1 * 18) + i)) hx hb (by rw [hml]; exact hl.1.symm) hown (hts (.methodLink RX4 93 Lib.Math.min.name) mX4_leastOf_4) (hts (.static Lib.Math.min.name) mX4_leastOf_5) (hts (.initialized "java/lang/Math") mX4_leastOf_6) (hts (.code Lib.Math.min.name Lib.Math.min.code 2 (some .int)) mX4_leastOf_7) (Nat.le_of_ble_eq_true rfl) (Nat.le_of_ble_eq_true rfl) (Nat.zero_le _) (Nat.zero_le _) (by omega) (by omega) dX4_leastOf_37 ?_
          refine lv_istore_n (lv' := [(2, .int (nI (min acc (sl ((q1 * 18) + i))))), (0, .ref aS), (1, .int (nI q1)), (3, .int (nI i))]) hx hb dX4_leastOf_40 rfl hl (by decide) rfl (fun ls hl => ?_)
          refine lv_iinc (v := (nI (i + 1))) (lv' := [(3, .int (nI (i + 1))), (2, .int (nI (min acc (sl ((q1 * 18) + i))))), (0, .ref aS), (1, .int (nI q1))]) hx hb dX4_leastOf_41 hl (k := 3) rfl (by first | exact nI_1 _ | rfl) (by decide) rfl (fun ls hl => ?_)
          refine lv_goto (tgt := 5) hx hb dX4_leastOf_44 (by decide) ?_
          exact ih5 (i + 1) (min acc (sl ((q1 * 18) + i))) (by omega)  (by omega) (by rw [m_of, if_neg c_2, hacc]) (by omega) ls (lv_sub hl [2, 3, 1, 0] rfl)
  exact LP5 _ 0 1000000 (Nat.lt_succ_self _)  (Nat.zero_le _) rfl (by decide) ls (lv_sub hl [2, 3, 1, 0] rfl)
end
section
theorem mX4_fillLast_0 : Cond.constant RX4 44 (1000000) ∈ wsX4_fillLast := by decide +kernel
theorem mX4_fillLast_1 : Cond.fieldLink RX4 24 "LeafOrder$Search" "rules" "LLeafOrder$Rules;" ∈ wsX4_fillLast := by decide +kernel
theorem mX4_fillLast_inX4 : ∀ w ∈ wsX40, w ∈ wsX4_fillLast := by decide +kernel
theorem mX4_fillLast_3 : Cond.fieldLink RX4 45 "LeafOrder$Search" "turnCost" "I" ∈ wsX4_fillLast := by decide +kernel
theorem mX4_fillLast_4 : Cond.fieldLink RX4 15 "LeafOrder$Search" "least" "[I" ∈ wsX4_fillLast := by decide +kernel
theorem mX4_fillLast_5 : Cond.methodLink RX4 93 Lib.Math.min.name ∈ wsX4_fillLast := by decide +kernel
theorem mX4_fillLast_6 : Cond.static Lib.Math.min.name ∈ wsX4_fillLast := by decide +kernel
theorem mX4_fillLast_7 : Cond.initialized "java/lang/Math" ∈ wsX4_fillLast := by decide +kernel
theorem mX4_fillLast_8 : Cond.code Lib.Math.min.name Lib.Math.min.code 2 (some .int) ∈ wsX4_fillLast := by decide +kernel
set_option maxHeartbeats 4000000 in
set_option maxRecDepth 100000 in
theorem k_X4_fillLast (l : Launch) (dC : Nat → ClassId) (dI : Nat → Nat → Nat) (cI cZ : ClassId) (aS aR aSj aSl aSs aSo aRb aRr aRa : Nat) (sn : Nat) (st : Nat) (sb : Nat) (sx : Nat) (sl : Nat → Nat) (sj : Nat → Nat) (rb : Nat → Nat) (rr : Nat → Nat) (q1 : Nat) (q2 : Nat) (q3 : Nat) (sz : Nat) (bSl : ∀ k, sl k ≤ 1000000) (bSj : ∀ k, sj k ≤ 10000) (bRb : ∀ k, rb k ≤ 511) (bRr : ∀ k, rr k ≤ 511) (hn : sn ≤ 9) (ht : st ≤ 1000000) (h1 : q1 < 512) (h2 : q2 < 9) (h3 : q3 < 512) : Met l yX4_fillLast wsX4_fillLast { frames := 2, cells := 0, slots := 0, locals := 49 } (va_Pc [.ref aS, .int (nI q1), .int (nI q2), .int (nI q3)] (fun U => U.heap.size = sz ∧ va_P (dC, dI) vwCl [(aS, .inr (4, [.ref aR, .ref aSj, .ref aSl, .ref aSs, .ref aSo, .int (nI sn), .int (nI st), .int (nI sb), .int (nI sx)])), (aSl, .inl (cI, 9216, .inl (nF sl))), (aSj, .inl (cI, 324, .inl (nF sj))), (aR, .inr (2, [.ref aRb, .ref aRr, .ref aRa])), (aRb, .inl (cI, 9, .inl (nF rb))), (aRr, .inl (cI, 9, .inl (nF rr)))] U.heap ∧ lK dC dI cI cZ U ∧ va_D (fun _ => True) [(aS, .inr (4, [.ref aR, .ref aSj, .ref aSl, .ref aSs, .ref aSo, .int (nI sn), .int (nI st), .int (nI sb), .int (nI sx)])), (aSl, .inl (cI, 9216, .inl (nF sl))), (aSj, .inl (cI, 324, .inl (nF sj))), (aR, .inr (2, [.ref aRb, .ref aRr, .ref aRa])), (aRb, .inl (cI, 9, .inl (nF rb))), (aRr, .inl (cI, 9, .inl (nF rr)))])) (va_Qv (fun (slz : (Nat → Nat)) => slz = m_last rb rr sl sj sn st q1 q2 q3 ∧ ∀ k, slz k ≤ 1000000) (fun (slz : (Nat → Nat)) (t : State) => va_P (dC, dI) vwCl [(aS, .inr (4, [.ref aR, .ref aSj, .ref aSl, .ref aSs, .ref aSo, .int (nI sn), .int (nI st), .int (nI sb), .int (nI sx)])), (aSl, .inl (cI, 9216, .inl (nF slz))), (aSj, .inl (cI, 324, .inl (nF sj))), (aR, .inr (2, [.ref aRb, .ref aRr, .ref aRa])), (aRb, .inl (cI, 9, .inl (nF rb))), (aRr, .inl (cI, 9, .inl (nF rr)))] t.heap ∧ va_D (va_A [(aS, .inr (4, [.ref aR, .ref aSj, .ref aSl, .ref aSs, .ref aSo, .int (nI sn), .int (nI st), .int (nI sb), .int (nI sx)])), (aSl, .inl (cI, 9216, .inl (nF sl))), (aSj, .inl (cI, 324, .inl (nF sj))), (aR, .inr (2, [.ref aRb, .ref aRr, .ref aRa])), (aRb, .inl (cI, 9, .inl (nF rb))), (aRr, .inl (cI, 9, .inl (nF rr)))] sz) [(aS, .inr (4, [.ref aR, .ref aSj, .ref aSl, .ref aSs, .ref aSo, .int (nI sn), .int (nI st), .int (nI sb), .int (nI sx)])), (aSl, .inl (cI, 9216, .inl (nF slz))), (aSj, .inl (cI, 324, .inl (nF sj))), (aR, .inr (2, [.ref aRb, .ref aRr, .ref aRa])), (aRb, .inl (cI, 9, .inl (nF rb))), (aRr, .inl (cI, 9, .inl (nF rr)))]) (va_A [(aS, .inr (4, [.ref aR, .ref aSj, .ref aSl, .ref aSs, .ref aSo, .int (nI sn), .int (nI st), .int (nI sb), .int (nI sx)])), (aSl, .inl (cI, 9216, .inl (nF sl))), (aSj, .inl (cI, 324, .inl (nF sj))), (aR, .inr (2, [.ref aRb, .ref aRr, .ref aRa])), (aRb, .inl (cI, 9, .inl (nF rb))), (aRr, .inl (cI, 9, .inl (nF rr)))] sz)) 0 0 (va_A [(aS, .inr (4, [.ref aR, .ref aSj, .ref aSl, .ref aSs, .ref aSo, .int (nI sn), .int (nI st), .int (nI sb), .int (nI sx)])), (aSl, .inl (cI, 9216, .inl (nF sl))), (aSj, .inl (cI, 324, .inl (nF sj))), (aR, .inr (2, [.ref aRb, .ref aRr, .ref aRa])), (aRb, .inl (cI, 9, .inl (nF rb))), (aRr, .inl (cI, 9, .inl (nF rr)))] sz) := by
  refine Met.ofW (cc := cX4_fillLast) (maxL := 8) (ret := none) (by decide) rfl ?_
  intro p e s m args below meth c s₁ B hml hv
  obtain ⟨rfl, hsz, hP, hKK, hD0⟩ := hv
  have hK := hKK.1
  have hx := B.exec
  have hb := B.bytes
  have hr := B.returns
  have hts := atoms_spec (ws := wsX4_fillLast) B.pre
  have hown : s.vm.findClass RX4 = some m.cls := findClass_of_methodNamed B.named
  have hlocks := B.notSynchronized
  subst hsz
  have hD := hD0.self (sz := s.heap.size)
  generalize hAe : va_A [(aS, .inr (4, [.ref aR, .ref aSj, .ref aSl, .ref aSs, .ref aSo, .int (nI sn), .int (nI st), .int (nI sb), .int (nI sx)])), (aSl, .inl (cI, 9216, .inl (nF sl))), (aSj, .inl (cI, 324, .inl (nF sj))), (aR, .inr (2, [.ref aRb, .ref aRr, .ref aRa])), (aRb, .inl (cI, 9, .inl (nF rb))), (aRr, .inl (cI, 9, .inl (nF rr)))] s.heap.size = A at hD ⊢
  have hA : ∀ q : Nat, s.heap.size ≤ q → A q := fun q h => by rw [← hAe]; exact Or.inr h
  have hS : va_S A s.heap s.heap [] := va_S.rf
  have hl := lv_entry ([.ref aS, .int (nI q1), .int (nI q2), .int (nI q3)]) (n := 8) (Nat.le_of_ble_eq_true rfl)
  rw [lg_entry_eq]
  generalize (lg_sl ([.ref aS, .int (nI q1), .int (nI q2), .int (nI q3)]) ++ List.replicate (8 - (lg_sl ([.ref aS, .int (nI q1), .int (nI q2), .int (nI q3)])).length) Slot.unset).toArray = ls at hl ⊢
  have hl : lv_has ls 8 [(0, .ref aS), (1, .int (nI q1)), (2, .int (nI q2)), (3, .int (nI q3))] := hl
  have hrest : nclr q1 (2 ^ q2) < 512 := Nat.lt_of_le_of_lt (nclr_le _ _) h1
  have hu0 := m_upx_le sl sj sn (nclr q1 (2 ^ q2)) q3 (2 * q2)
  have hu1 := m_upx_le sl sj sn (nclr q1 (2 ^ q2)) q3 (2 * q2 + 1)
  refine lv_iload_n hx hb dX4_fillLast_0 rfl (lv_at hl 1 rfl) ?_
  refine lv_iconst (v := nI 1) hx hb dX4_fillLast_1 (by decide) ?_
  refine lv_iload_n hx hb dX4_fillLast_2 rfl (lv_at hl 2 rfl) ?_
  refine ln_ishl1 hx hb dX4_fillLast_3 (by omega) ?_
  refine lv_iconst (v := (-1)) hx hb dX4_fillLast_4 (by decide) ?_
  refine lv_ixor hx hb dX4_fillLast_5 ?_
  refine ln_iclr hx hb dX4_fillLast_6 ?_
  refine lv_istore (lv' := [(4, .int (nI (nclr q1 (2 ^ q2)))), (0, .ref aS), (1, .int (nI q1)), (2, .int (nI q2)), (3, .int (nI q3))]) hx hb dX4_fillLast_7 hl (by decide) rfl (fun ls hl => ?_)
  refine lv_iconst (v := nI 2) hx hb dX4_fillLast_9 (by decide) ?_
  refine lv_iload_n hx hb dX4_fillLast_10 rfl (lv_at hl 3 rfl) ?_
  refine ln_imul hx hb dX4_fillLast_11 ?_
  refine lv_istore (lv' := [(5, .int (nI (2 * q2))), (4, .int (nI (nclr q1 (2 ^ q2)))), (0, .ref aS), (1, .int (nI q1)), (2, .int (nI q2)), (3, .int (nI q3))]) hx hb dX4_fillLast_12 hl (by decide) rfl (fun ls hl => ?_)
  refine lv_ldc (v := nI 1000000) hx hb hown (hts (.constant RX4 44 (1000000)) mX4_fillLast_0) dX4_fillLast_14 ?_
  refine lv_istore (lv' := [(6, .int (nI 1000000)), (5, .int (nI (2 * q2))), (4, .int (nI (nclr q1 (2 ^ q2)))), (0, .ref aS), (1, .int (nI q1)), (2, .int (nI q2)), (3, .int (nI q3))]) hx hb dX4_fillLast_16 hl (by decide) rfl (fun ls hl => ?_)
  refine lv_ldc (v := nI 1000000) hx hb hown (hts (.constant RX4 44 (1000000)) mX4_fillLast_0) dX4_fillLast_18 ?_
  refine lv_istore (lv' := [(7, .int (nI 1000000)), (6, .int (nI 1000000)), (5, .int (nI (2 * q2))), (4, .int (nI (nclr q1 (2 ^ q2)))), (0, .ref aS), (1, .int (nI q1)), (2, .int (nI q2)), (3, .int (nI q3))]) hx hb dX4_fillLast_20 hl (by decide) rfl (fun ls hl => ?_)
  refine lv_aload_n hx hb dX4_fillLast_22 rfl (lv_at hl 4 rfl) ?_
  refine va_get (D := (dC, dI)) (ci := 4) (v := .ref aR) (C := RX4) (T := TX4) (N := 9) hx hb hts mX4_fillLast_inX4 hown hK hP 0 rfl rfl 0 (by decide) (hts (.fieldLink RX4 24 "LeafOrder$Search" "rules" "LLeafOrder$Rules;") mX4_fillLast_1) (fun _ h9 => h9) rfl dX4_fillLast_23 ?_
  refine lv_iload_n hx hb dX4_fillLast_26 rfl (lv_at hl 6 rfl) ?_
  refine lv_iload hx hb dX4_fillLast_27 (lv_at hl 3 rfl) ?_
  have hPc := hP.sub (ws' := [(aR, .inr (2, [.ref aRb, .ref aRr, .ref aRa])), (aRb, .inl (cI, 9, .inl (nF rb))), (aRr, .inl (cI, 9, .inl (nF rr)))]) [3, 4, 5] rfl
  refine vp_callSi (W.runV (As := [.int (nI q2), .int (nI (nclr q1 (2 ^ q2)))]) (rest := []) ⟨hx, hb, hml, hown, hts⟩ (k_X2_mayComeAfter l dC dI cI cZ aR aRb aRr aRa rb rr q2 (nclr q1 (2 ^ q2)) bRb bRr (by omega) hrest) (cwV 2 hts gX4_fillLast_X2_mayComeAfter rfl rfl rfl (by decide +kernel) ⟨Nat.le_of_ble_eq_true rfl, Nat.le_of_ble_eq_true rfl⟩) (ln_preV (q0 := 0) (ci := 2) hPc hKK rfl rfl) rfl rfl hl.1 rfl (lv_room (Nat.le_of_ble_eq_true rfl)) dX4_fillLast_29 ⟨Nat.le_of_ble_eq_true rfl, Nat.le_of_ble_eq_true rfl⟩) (fun r_1 w_2 => ?_)
  rcases w_2 with ⟨rfl, c_3⟩ | ⟨rfl, c_3⟩
  · refine ln_if_eqF (tgt := 78) hx hb dX4_fillLast_32 (by decide) (by decide) ?_
    refine lv_aload_n hx hb dX4_fillLast_35 rfl (lv_at hl 4 rfl) ?_
    refine lv_iload hx hb dX4_fillLast_36 (lv_at hl 3 rfl) ?_
    refine lv_iload_n hx hb dX4_fillLast_38 rfl (lv_at hl 7 rfl) ?_
    refine lv_iload hx hb dX4_fillLast_39 (lv_at hl 2 rfl) ?_
    have hPc := hP.sub (ws' := [(aS, .inr (4, [.ref aR, .ref aSj, .ref aSl, .ref aSs, .ref aSo, .int (nI sn), .int (nI st), .int (nI sb), .int (nI sx)])), (aSl, .inl (cI, 9216, .inl (nF sl))), (aSj, .inl (cI, 324, .inl (nF sj)))]) [0, 1, 2] rfl
    refine vp_callSi (W.runV (As := [.int (nI (nclr q1 (2 ^ q2))), .int (nI q3), .int (nI (2 * q2))]) (rest := []) ⟨hx, hb, hml, hown, hts⟩ (k_X4_leastUpTo l dC dI cI cZ aS aR aSj aSl aSs aSo sn st sb sx sl sj (nclr q1 (2 ^ q2)) q3 (2 * q2) bSl bSj (by omega) hrest (by omega) (by omega)) (cwV 3 hts gX4_fillLast_X4_leastUpTo rfl rfl rfl (by decide +kernel) ⟨Nat.le_of_ble_eq_true rfl, Nat.le_of_ble_eq_true rfl⟩) (ln_preV (q0 := 0) (ci := 4) hPc hKK rfl rfl) rfl rfl hl.1 rfl (lv_room (Nat.le_of_ble_eq_true rfl)) dX4_fillLast_41 ⟨Nat.le_of_ble_eq_true rfl, Nat.le_of_ble_eq_true rfl⟩) (fun r_4 w_5 => ?_)
    subst w_5
    refine lv_istore (lv' := [(6, .int (nI (m_upx sl sj sn (nclr q1 (2 ^ q2)) q3 (2 * q2)))), (7, .int (nI 1000000)), (5, .int (nI (2 * q2))), (4, .int (nI (nclr q1 (2 ^ q2)))), (0, .ref aS), (1, .int (nI q1)), (2, .int (nI q2)), (3, .int (nI q3))]) hx hb dX4_fillLast_44 hl (by decide) rfl (fun ls hl => ?_)
    refine lv_aload_n hx hb dX4_fillLast_46 rfl (lv_at hl 4 rfl) ?_
    refine va_get (D := (dC, dI)) (ci := 4) (v := .int (nI st)) (C := RX4) (T := TX4) (N := 9) hx hb hts mX4_fillLast_inX4 hown hK hP 0 rfl rfl 6 (by decide) (hts (.fieldLink RX4 45 "LeafOrder$Search" "turnCost" "I") mX4_fillLast_3) (fun _ h9 => h9) rfl dX4_fillLast_47 ?_
    refine lv_ldc (v := nI 1000000) hx hb hown (hts (.constant RX4 44 (1000000)) mX4_fillLast_0) dX4_fillLast_50 ?_
    refine ln_icmp_ge (tgt := 78) hx hb dX4_fillLast_52 (by decide) (by omega) (by decide) (fun c_6 => ?_) (fun c_6 => ?_)
    · refine lv_aload_n hx hb dX4_fillLast_78 rfl (lv_at hl 4 rfl) ?_
      refine va_get (D := (dC, dI)) (ci := 4) (v := .ref aSl) (C := RX4) (T := TX4) (N := 9) hx hb hts mX4_fillLast_inX4 hown hK hP 0 rfl rfl 2 (by decide) (hts (.fieldLink RX4 15 "LeafOrder$Search" "least" "[I") mX4_fillLast_4) (fun _ h9 => h9) rfl dX4_fillLast_79 ?_
      refine lv_iload_n hx hb dX4_fillLast_82 rfl (lv_at hl 5 rfl) ?_
      refine lv_bipush (v := nI 18) hx hb dX4_fillLast_83 (by decide) ?_
      refine ln_imul hx hb dX4_fillLast_85 ?_
      refine lv_iload hx hb dX4_fillLast_86 (lv_at hl 2 rfl) ?_
      refine ln_iadd hx hb dX4_fillLast_88 ?_
      refine lv_iload hx hb dX4_fillLast_89 (lv_at hl 0 rfl) ?_
      refine ln_iast (i := (q1 * 18) + (2 * q2)) hx hb hK hP hD hS 1 0 rfl rfl (by omega) (by decide) dX4_fillLast_91 (fun H locs hP hD hS => ?_)
      have b_7 : ∀ k, (upN sl ((q1 * 18) + (2 * q2)) (m_upx sl sj sn (nclr q1 (2 ^ q2)) q3 (2 * q2))) k ≤ 1000000 := upN_le bSl (by omega)
      have hP : va_P (dC, dI) vwCl [(aS, .inr (4, [.ref aR, .ref aSj, .ref aSl, .ref aSs, .ref aSo, .int (nI sn), .int (nI st), .int (nI sb), .int (nI sx)])), (aSl, .inl (cI, 9216, .inl (nF (upN sl ((q1 * 18) + (2 * q2)) (m_upx sl sj sn (nclr q1 (2 ^ q2)) q3 (2 * q2)))))), (aSj, .inl (cI, 324, .inl (nF sj))), (aR, .inr (2, [.ref aRb, .ref aRr, .ref aRa])), (aRb, .inl (cI, 9, .inl (nF rb))), (aRr, .inl (cI, 9, .inl (nF rr)))] H := hP
      have hD : va_D A [(aS, .inr (4, [.ref aR, .ref aSj, .ref aSl, .ref aSs, .ref aSo, .int (nI sn), .int (nI st), .int (nI sb), .int (nI sx)])), (aSl, .inl (cI, 9216, .inl (nF (upN sl ((q1 * 18) + (2 * q2)) (m_upx sl sj sn (nclr q1 (2 ^ q2)) q3 (2 * q2)))))), (aSj, .inl (cI, 324, .inl (nF sj))), (aR, .inr (2, [.ref aRb, .ref aRr, .ref aRa])), (aRb, .inl (cI, 9, .inl (nF rb))), (aRr, .inl (cI, 9, .inl (nF rr)))] := hD
      refine lv_aload_n hx hb dX4_fillLast_92 rfl (lv_at hl 4 rfl) ?_
      refine va_get (D := (dC, dI)) (ci := 4) (v := .ref aSl) (C := RX4) (T := TX4) (N := 9) hx hb hts mX4_fillLast_inX4 hown hK hP 0 rfl rfl 2 (by decide) (hts (.fieldLink RX4 15 "LeafOrder$Search" "least" "[I") mX4_fillLast_4) (fun _ h9 => h9) rfl dX4_fillLast_93 ?_
      refine lv_iload_n hx hb dX4_fillLast_96 rfl (lv_at hl 5 rfl) ?_
      refine lv_bipush (v := nI 18) hx hb dX4_fillLast_97 (by decide) ?_
      refine ln_imul hx hb dX4_fillLast_99 ?_
      refine lv_iload hx hb dX4_fillLast_100 (lv_at hl 2 rfl) ?_
      refine ln_iadd hx hb dX4_fillLast_102 ?_
      refine lv_iconst (v := nI 1) hx hb dX4_fillLast_103 (by decide) ?_
      refine ln_iadd hx hb dX4_fillLast_104 ?_
      refine lv_iload hx hb dX4_fillLast_105 (lv_at hl 1 rfl) ?_
      refine ln_iast (i := ((q1 * 18) + (2 * q2)) + 1) hx hb hK hP hD hS 1 0 rfl rfl (by omega) (by decide) dX4_fillLast_107 (fun H locs hP hD hS => ?_)
      have b_8 : ∀ k, (upN (upN sl ((q1 * 18) + (2 * q2)) (m_upx sl sj sn (nclr q1 (2 ^ q2)) q3 (2 * q2))) (((q1 * 18) + (2 * q2)) + 1) 1000000) k ≤ 1000000 := upN_le b_7 (by omega)
      have hP : va_P (dC, dI) vwCl [(aS, .inr (4, [.ref aR, .ref aSj, .ref aSl, .ref aSs, .ref aSo, .int (nI sn), .int (nI st), .int (nI sb), .int (nI sx)])), (aSl, .inl (cI, 9216, .inl (nF (upN (upN sl ((q1 * 18) + (2 * q2)) (m_upx sl sj sn (nclr q1 (2 ^ q2)) q3 (2 * q2))) (((q1 * 18) + (2 * q2)) + 1) 1000000)))), (aSj, .inl (cI, 324, .inl (nF sj))), (aR, .inr (2, [.ref aRb, .ref aRr, .ref aRa])), (aRb, .inl (cI, 9, .inl (nF rb))), (aRr, .inl (cI, 9, .inl (nF rr)))] H := hP
      have hD : va_D A [(aS, .inr (4, [.ref aR, .ref aSj, .ref aSl, .ref aSs, .ref aSo, .int (nI sn), .int (nI st), .int (nI sb), .int (nI sx)])), (aSl, .inl (cI, 9216, .inl (nF (upN (upN sl ((q1 * 18) + (2 * q2)) (m_upx sl sj sn (nclr q1 (2 ^ q2)) q3 (2 * q2))) (((q1 * 18) + (2 * q2)) + 1) 1000000)))), (aSj, .inl (cI, 324, .inl (nF sj))), (aR, .inr (2, [.ref aRb, .ref aRr, .ref aRa])), (aRb, .inl (cI, 9, .inl (nF rb))), (aRr, .inl (cI, 9, .inl (nF rr)))] := hD
      exact W.vret hx hb hr (fun t ht hW => ⟨⟨(upN (upN sl ((q1 * 18) + (2 * q2)) (m_upx sl sj sn (nclr q1 (2 ^ q2)) q3 (2 * q2))) (((q1 * 18) + (2 * q2)) + 1) 1000000), rfl, ⟨(by unfold m_last m_plain m_turn; rw [if_pos c_3, if_pos c_3, if_neg (by omega)]), b_8⟩, by rw [ht]; exact hP, hD⟩, hS.F ht⟩) hS.2.2 dX4_fillLast_108
    · refine lv_ldc (v := nI 1000000) hx hb hown (hts (.constant RX4 44 (1000000)) mX4_fillLast_0) dX4_fillLast_55 ?_
      refine lv_aload_n hx hb dX4_fillLast_57 rfl (lv_at hl 4 rfl) ?_
      refine lv_iload hx hb dX4_fillLast_58 (lv_at hl 3 rfl) ?_
      refine lv_iload_n hx hb dX4_fillLast_60 rfl (lv_at hl 7 rfl) ?_
      refine lv_iload hx hb dX4_fillLast_61 (lv_at hl 2 rfl) ?_
      refine lv_iconst (v := nI 1) hx hb dX4_fillLast_63 (by decide) ?_
      refine ln_iadd hx hb dX4_fillLast_64 ?_
      have hPc := hP.sub (ws' := [(aS, .inr (4, [.ref aR, .ref aSj, .ref aSl, .ref aSs, .ref aSo, .int (nI sn), .int (nI st), .int (nI sb), .int (nI sx)])), (aSl, .inl (cI, 9216, .inl (nF sl))), (aSj, .inl (cI, 324, .inl (nF sj)))]) [0, 1, 2] rfl
      refine vp_callSi (W.runV (As := [.int (nI (nclr q1 (2 ^ q2))), .int (nI q3), .int (nI ((2 * q2) + 1))]) (rest := [.int (nI 1000000)]) ⟨hx, hb, hml, hown, hts⟩ (k_X4_leastUpTo l dC dI cI cZ aS aR aSj aSl aSs aSo sn st sb sx sl sj (nclr q1 (2 ^ q2)) q3 ((2 * q2) + 1) bSl bSj (by omega) hrest (by omega) (by omega)) (cwV 3 hts gX4_fillLast_X4_leastUpTo rfl rfl rfl (by decide +kernel) ⟨Nat.le_of_ble_eq_true rfl, Nat.le_of_ble_eq_true rfl⟩) (ln_preV (q0 := 0) (ci := 4) hPc hKK rfl rfl) rfl rfl hl.1 rfl (lv_room (Nat.le_of_ble_eq_true rfl)) dX4_fillLast_65 ⟨Nat.le_of_ble_eq_true rfl, Nat.le_of_ble_eq_true rfl⟩) (fun r_9 w_10 => ?_)
      subst w_10
      refine lv_aload_n hx hb dX4_fillLast_68 rfl (lv_at hl 4 rfl) ?_
      refine va_get (D := (dC, dI)) (ci := 4) (v := .int (nI st)) (C := RX4) (T := TX4) (N := 9) hx hb hts mX4_fillLast_inX4 hown hK hP 0 rfl rfl 6 (by decide) (hts (.fieldLink RX4 45 "LeafOrder$Search" "turnCost" "I") mX4_fillLast_3) (fun _ h9 => h9) rfl dX4_fillLast_69 ?_
      refine ln_iadd hx hb dX4_fillLast_72 ?_
      refine ln_mmin (x := 1000000) (y := (m_upx sl sj sn (nclr q1 (2 ^ q2)) q3 ((2 * q2) + 1)) + st) hx hb (by rw [hml]; exact hl.1.symm) hown (hts (.methodLink RX4 93 Lib.Math.min.name) mX4_fillLast_5) (hts (.static Lib.Math.min.name) mX4_fillLast_6) (hts (.initialized "java/lang/Math") mX4_fillLast_7) (hts (.code Lib.Math.min.name Lib.Math.min.code 2 (some .int)) mX4_fillLast_8) (Nat.le_of_ble_eq_true rfl) (Nat.le_of_ble_eq_true rfl) (Nat.zero_le _) (Nat.zero_le _) (by decide) (by omega) dX4_fillLast_73 ?_
      refine lv_istore (lv' := [(7, .int (nI (min 1000000 ((m_upx sl sj sn (nclr q1 (2 ^ q2)) q3 ((2 * q2) + 1)) + st)))), (6, .int (nI (m_upx sl sj sn (nclr q1 (2 ^ q2)) q3 (2 * q2)))), (5, .int (nI (2 * q2))), (4, .int (nI (nclr q1 (2 ^ q2)))), (0, .ref aS), (1, .int (nI q1)), (2, .int (nI q2)), (3, .int (nI q3))]) hx hb dX4_fillLast_76 hl (by decide) rfl (fun ls hl => ?_)
      refine lv_aload_n hx hb dX4_fillLast_78 rfl (lv_at hl 4 rfl) ?_
      refine va_get (D := (dC, dI)) (ci := 4) (v := .ref aSl) (C := RX4) (T := TX4) (N := 9) hx hb hts mX4_fillLast_inX4 hown hK hP 0 rfl rfl 2 (by decide) (hts (.fieldLink RX4 15 "LeafOrder$Search" "least" "[I") mX4_fillLast_4) (fun _ h9 => h9) rfl dX4_fillLast_79 ?_
      refine lv_iload_n hx hb dX4_fillLast_82 rfl (lv_at hl 5 rfl) ?_
      refine lv_bipush (v := nI 18) hx hb dX4_fillLast_83 (by decide) ?_
      refine ln_imul hx hb dX4_fillLast_85 ?_
      refine lv_iload hx hb dX4_fillLast_86 (lv_at hl 2 rfl) ?_
      refine ln_iadd hx hb dX4_fillLast_88 ?_
      refine lv_iload hx hb dX4_fillLast_89 (lv_at hl 1 rfl) ?_
      refine ln_iast (i := (q1 * 18) + (2 * q2)) hx hb hK hP hD hS 1 0 rfl rfl (by omega) (by decide) dX4_fillLast_91 (fun H locs hP hD hS => ?_)
      have b_11 : ∀ k, (upN sl ((q1 * 18) + (2 * q2)) (m_upx sl sj sn (nclr q1 (2 ^ q2)) q3 (2 * q2))) k ≤ 1000000 := upN_le bSl (by omega)
      have hP : va_P (dC, dI) vwCl [(aS, .inr (4, [.ref aR, .ref aSj, .ref aSl, .ref aSs, .ref aSo, .int (nI sn), .int (nI st), .int (nI sb), .int (nI sx)])), (aSl, .inl (cI, 9216, .inl (nF (upN sl ((q1 * 18) + (2 * q2)) (m_upx sl sj sn (nclr q1 (2 ^ q2)) q3 (2 * q2)))))), (aSj, .inl (cI, 324, .inl (nF sj))), (aR, .inr (2, [.ref aRb, .ref aRr, .ref aRa])), (aRb, .inl (cI, 9, .inl (nF rb))), (aRr, .inl (cI, 9, .inl (nF rr)))] H := hP
      have hD : va_D A [(aS, .inr (4, [.ref aR, .ref aSj, .ref aSl, .ref aSs, .ref aSo, .int (nI sn), .int (nI st), .int (nI sb), .int (nI sx)])), (aSl, .inl (cI, 9216, .inl (nF (upN sl ((q1 * 18) + (2 * q2)) (m_upx sl sj sn (nclr q1 (2 ^ q2)) q3 (2 * q2)))))), (aSj, .inl (cI, 324, .inl (nF sj))), (aR, .inr (2, [.ref aRb, .ref aRr, .ref aRa])), (aRb, .inl (cI, 9, .inl (nF rb))), (aRr, .inl (cI, 9, .inl (nF rr)))] := hD
      refine lv_aload_n hx hb dX4_fillLast_92 rfl (lv_at hl 4 rfl) ?_
      refine va_get (D := (dC, dI)) (ci := 4) (v := .ref aSl) (C := RX4) (T := TX4) (N := 9) hx hb hts mX4_fillLast_inX4 hown hK hP 0 rfl rfl 2 (by decide) (hts (.fieldLink RX4 15 "LeafOrder$Search" "least" "[I") mX4_fillLast_4) (fun _ h9 => h9) rfl dX4_fillLast_93 ?_
      refine lv_iload_n hx hb dX4_fillLast_96 rfl (lv_at hl 5 rfl) ?_
      refine lv_bipush (v := nI 18) hx hb dX4_fillLast_97 (by decide) ?_
      refine ln_imul hx hb dX4_fillLast_99 ?_
      refine lv_iload hx hb dX4_fillLast_100 (lv_at hl 2 rfl) ?_
      refine ln_iadd hx hb dX4_fillLast_102 ?_
      refine lv_iconst (v := nI 1) hx hb dX4_fillLast_103 (by decide) ?_
      refine ln_iadd hx hb dX4_fillLast_104 ?_
      refine lv_iload hx hb dX4_fillLast_105 (lv_at hl 0 rfl) ?_
      refine ln_iast (i := ((q1 * 18) + (2 * q2)) + 1) hx hb hK hP hD hS 1 0 rfl rfl (by omega) (by decide) dX4_fillLast_107 (fun H locs hP hD hS => ?_)
      have b_12 : ∀ k, (upN (upN sl ((q1 * 18) + (2 * q2)) (m_upx sl sj sn (nclr q1 (2 ^ q2)) q3 (2 * q2))) (((q1 * 18) + (2 * q2)) + 1) (min 1000000 ((m_upx sl sj sn (nclr q1 (2 ^ q2)) q3 ((2 * q2) + 1)) + st))) k ≤ 1000000 := upN_le b_11 (by omega)
      have hP : va_P (dC, dI) vwCl [(aS, .inr (4, [.ref aR, .ref aSj, .ref aSl, .ref aSs, .ref aSo, .int (nI sn), .int (nI st), .int (nI sb), .int (nI sx)])), (aSl, .inl (cI, 9216, .inl (nF (upN (upN sl ((q1 * 18) + (2 * q2)) (m_upx sl sj sn (nclr q1 (2 ^ q2)) q3 (2 * q2))) (((q1 * 18) + (2 * q2)) + 1) (min 1000000 ((m_upx sl sj sn (nclr q1 (2 ^ q2)) q3 ((2 * q2) + 1)) + st)))))), (aSj, .inl (cI, 324, .inl (nF sj))), (aR, .inr (2, [.ref aRb, .ref aRr, .ref aRa])), (aRb, .inl (cI, 9, .inl (nF rb))), (aRr, .inl (cI, 9, .inl (nF rr)))] H := hP
      have hD : va_D A [(aS, .inr (4, [.ref aR, .ref aSj, .ref aSl, .ref aSs, .ref aSo, .int (nI sn), .int (nI st), .int (nI sb), .int (nI sx)])), (aSl, .inl (cI, 9216, .inl (nF (upN (upN sl ((q1 * 18) + (2 * q2)) (m_upx sl sj sn (nclr q1 (2 ^ q2)) q3 (2 * q2))) (((q1 * 18) + (2 * q2)) + 1) (min 1000000 ((m_upx sl sj sn (nclr q1 (2 ^ q2)) q3 ((2 * q2) + 1)) + st)))))), (aSj, .inl (cI, 324, .inl (nF sj))), (aR, .inr (2, [.ref aRb, .ref aRr, .ref aRa])), (aRb, .inl (cI, 9, .inl (nF rb))), (aRr, .inl (cI, 9, .inl (nF rr)))] := hD
      exact W.vret hx hb hr (fun t ht hW => ⟨⟨(upN (upN sl ((q1 * 18) + (2 * q2)) (m_upx sl sj sn (nclr q1 (2 ^ q2)) q3 (2 * q2))) (((q1 * 18) + (2 * q2)) + 1) (min 1000000 ((m_upx sl sj sn (nclr q1 (2 ^ q2)) q3 ((2 * q2) + 1)) + st))), rfl, ⟨(by unfold m_last m_plain m_turn; rw [if_pos c_3, if_pos c_3, if_pos (by omega)]), b_12⟩, by rw [ht]; exact hP, hD⟩, hS.F ht⟩) hS.2.2 dX4_fillLast_108
  · refine ln_if_eqT (tgt := 78) hx hb dX4_fillLast_32 (by decide) (by decide) ?_
    refine lv_aload_n hx hb dX4_fillLast_78 rfl (lv_at hl 4 rfl) ?_
    refine va_get (D := (dC, dI)) (ci := 4) (v := .ref aSl) (C := RX4) (T := TX4) (N := 9) hx hb hts mX4_fillLast_inX4 hown hK hP 0 rfl rfl 2 (by decide) (hts (.fieldLink RX4 15 "LeafOrder$Search" "least" "[I") mX4_fillLast_4) (fun _ h9 => h9) rfl dX4_fillLast_79 ?_
    refine lv_iload_n hx hb dX4_fillLast_82 rfl (lv_at hl 5 rfl) ?_
    refine lv_bipush (v := nI 18) hx hb dX4_fillLast_83 (by decide) ?_
    refine ln_imul hx hb dX4_fillLast_85 ?_
    refine lv_iload hx hb dX4_fillLast_86 (lv_at hl 2 rfl) ?_
    refine ln_iadd hx hb dX4_fillLast_88 ?_
    refine lv_iload hx hb dX4_fillLast_89 (lv_at hl 1 rfl) ?_
    refine ln_iast (i := (q1 * 18) + (2 * q2)) hx hb hK hP hD hS 1 0 rfl rfl (by omega) (by decide) dX4_fillLast_91 (fun H locs hP hD hS => ?_)
    have b_13 : ∀ k, (upN sl ((q1 * 18) + (2 * q2)) 1000000) k ≤ 1000000 := upN_le bSl (by omega)
    have hP : va_P (dC, dI) vwCl [(aS, .inr (4, [.ref aR, .ref aSj, .ref aSl, .ref aSs, .ref aSo, .int (nI sn), .int (nI st), .int (nI sb), .int (nI sx)])), (aSl, .inl (cI, 9216, .inl (nF (upN sl ((q1 * 18) + (2 * q2)) 1000000)))), (aSj, .inl (cI, 324, .inl (nF sj))), (aR, .inr (2, [.ref aRb, .ref aRr, .ref aRa])), (aRb, .inl (cI, 9, .inl (nF rb))), (aRr, .inl (cI, 9, .inl (nF rr)))] H := hP
    have hD : va_D A [(aS, .inr (4, [.ref aR, .ref aSj, .ref aSl, .ref aSs, .ref aSo, .int (nI sn), .int (nI st), .int (nI sb), .int (nI sx)])), (aSl, .inl (cI, 9216, .inl (nF (upN sl ((q1 * 18) + (2 * q2)) 1000000)))), (aSj, .inl (cI, 324, .inl (nF sj))), (aR, .inr (2, [.ref aRb, .ref aRr, .ref aRa])), (aRb, .inl (cI, 9, .inl (nF rb))), (aRr, .inl (cI, 9, .inl (nF rr)))] := hD
    refine lv_aload_n hx hb dX4_fillLast_92 rfl (lv_at hl 4 rfl) ?_
    refine va_get (D := (dC, dI)) (ci := 4) (v := .ref aSl) (C := RX4) (T := TX4) (N := 9) hx hb hts mX4_fillLast_inX4 hown hK hP 0 rfl rfl 2 (by decide) (hts (.fieldLink RX4 15 "LeafOrder$Search" "least" "[I") mX4_fillLast_4) (fun _ h9 => h9) rfl dX4_fillLast_93 ?_
    refine lv_iload_n hx hb dX4_fillLast_96 rfl (lv_at hl 5 rfl) ?_
    refine lv_bipush (v := nI 18) hx hb dX4_fillLast_97 (by decide) ?_
    refine ln_imul hx hb dX4_fillLast_99 ?_
    refine lv_iload hx hb dX4_fillLast_100 (lv_at hl 2 rfl) ?_
    refine ln_iadd hx hb dX4_fillLast_102 ?_
    refine lv_iconst (v := nI 1) hx hb dX4_fillLast_103 (by decide) ?_
    refine ln_iadd hx hb dX4_fillLast_104 ?_
    refine lv_iload hx hb dX4_fillLast_105 (lv_at hl 0 rfl) ?_
    refine ln_iast (i := ((q1 * 18) + (2 * q2)) + 1) hx hb hK hP hD hS 1 0 rfl rfl (by omega) (by decide) dX4_fillLast_107 (fun H locs hP hD hS => ?_)
    have b_14 : ∀ k, (upN (upN sl ((q1 * 18) + (2 * q2)) 1000000) (((q1 * 18) + (2 * q2)) + 1) 1000000) k ≤ 1000000 := upN_le b_13 (by omega)
    have hP : va_P (dC, dI) vwCl [(aS, .inr (4, [.ref aR, .ref aSj, .ref aSl, .ref aSs, .ref aSo, .int (nI sn), .int (nI st), .int (nI sb), .int (nI sx)])), (aSl, .inl (cI, 9216, .inl (nF (upN (upN sl ((q1 * 18) + (2 * q2)) 1000000) (((q1 * 18) + (2 * q2)) + 1) 1000000)))), (aSj, .inl (cI, 324, .inl (nF sj))), (aR, .inr (2, [.ref aRb, .ref aRr, .ref aRa])), (aRb, .inl (cI, 9, .inl (nF rb))), (aRr, .inl (cI, 9, .inl (nF rr)))] H := hP
    have hD : va_D A [(aS, .inr (4, [.ref aR, .ref aSj, .ref aSl, .ref aSs, .ref aSo, .int (nI sn), .int (nI st), .int (nI sb), .int (nI sx)])), (aSl, .inl (cI, 9216, .inl (nF (upN (upN sl ((q1 * 18) + (2 * q2)) 1000000) (((q1 * 18) + (2 * q2)) + 1) 1000000)))), (aSj, .inl (cI, 324, .inl (nF sj))), (aR, .inr (2, [.ref aRb, .ref aRr, .ref aRa])), (aRb, .inl (cI, 9, .inl (nF rb))), (aRr, .inl (cI, 9, .inl (nF rr)))] := hD
    exact W.vret hx hb hr (fun t ht hW => ⟨⟨(upN (upN sl ((q1 * 18) + (2 * q2)) 1000000) (((q1 * 18) + (2 * q2)) + 1) 1000000), rfl, ⟨(by unfold m_last m_plain m_turn; rw [if_neg c_3, if_neg c_3]), b_14⟩, by rw [ht]; exact hP, hD⟩, hS.F ht⟩) hS.2.2 dX4_fillLast_108
theorem mX4_fill_0 : Cond.fieldLink RX4 40 "LeafOrder$Search" "count" "I" ∈ wsX4_fill := by decide +kernel
theorem mX4_fill_inX4 : ∀ w ∈ wsX40, w ∈ wsX4_fill := by decide +kernel
theorem mX4_fill_2 : Cond.fieldLink RX4 24 "LeafOrder$Search" "rules" "LLeafOrder$Rules;" ∈ wsX4_fill := by decide +kernel
set_option maxHeartbeats 4000000 in
set_option maxRecDepth 100000 in
theorem k_X4_fill (l : Launch) (dC : Nat → ClassId) (dI : Nat → Nat → Nat) (cI cZ : ClassId) (aS aR aSj aSl aSs aSo aRb aRr aRa : Nat) (sn : Nat) (st : Nat) (sb : Nat) (sx : Nat) (sl : Nat → Nat) (sj : Nat → Nat) (rb : Nat → Nat) (rr : Nat → Nat) (ra : Nat → Nat) (ba : Nat) (bb : Nat) (sz : Nat) (bSl : ∀ k, sl k ≤ 1000000) (bSj : ∀ k, sj k ≤ 10000) (bRb : ∀ k, rb k ≤ 511) (bRr : ∀ k, rr k ≤ 511) (bRa : ∀ k, ra k ≤ 511) (hn : sn ≤ 9) (ht : st ≤ 1000000) (hbb : bb < 18 → ba < 9) : Met l yX4_fill wsX4_fill { frames := 3, cells := 0, slots := 0, locals := 76 } (va_Pc [.ref aS, .int (bhN ba), .int (bhN bb)] (fun U => U.heap.size = sz ∧ va_P (dC, dI) vwCl [(aS, .inr (4, [.ref aR, .ref aSj, .ref aSl, .ref aSs, .ref aSo, .int (nI sn), .int (nI st), .int (nI sb), .int (nI sx)])), (aSl, .inl (cI, 9216, .inl (nF sl))), (aSj, .inl (cI, 324, .inl (nF sj))), (aR, .inr (2, [.ref aRb, .ref aRr, .ref aRa])), (aRb, .inl (cI, 9, .inl (nF rb))), (aRr, .inl (cI, 9, .inl (nF rr))), (aRa, .inl (cI, 9, .inl (nF ra)))] U.heap ∧ lK dC dI cI cZ U ∧ va_D (fun _ => True) [(aS, .inr (4, [.ref aR, .ref aSj, .ref aSl, .ref aSs, .ref aSo, .int (nI sn), .int (nI st), .int (nI sb), .int (nI sx)])), (aSl, .inl (cI, 9216, .inl (nF sl))), (aSj, .inl (cI, 324, .inl (nF sj))), (aR, .inr (2, [.ref aRb, .ref aRr, .ref aRa])), (aRb, .inl (cI, 9, .inl (nF rb))), (aRr, .inl (cI, 9, .inl (nF rr))), (aRa, .inl (cI, 9, .inl (nF ra)))])) (va_Qv (fun (slz : (Nat → Nat)) => slz = m_fill rb rr ra sj sn st ba bb sl (2 ^ sn - 1) ∧ ∀ k, slz k ≤ 1000000) (fun (slz : (Nat → Nat)) (t : State) => va_P (dC, dI) vwCl [(aS, .inr (4, [.ref aR, .ref aSj, .ref aSl, .ref aSs, .ref aSo, .int (nI sn), .int (nI st), .int (nI sb), .int (nI sx)])), (aSl, .inl (cI, 9216, .inl (nF slz))), (aSj, .inl (cI, 324, .inl (nF sj))), (aR, .inr (2, [.ref aRb, .ref aRr, .ref aRa])), (aRb, .inl (cI, 9, .inl (nF rb))), (aRr, .inl (cI, 9, .inl (nF rr))), (aRa, .inl (cI, 9, .inl (nF ra)))] t.heap ∧ va_D (va_A [(aS, .inr (4, [.ref aR, .ref aSj, .ref aSl, .ref aSs, .ref aSo, .int (nI sn), .int (nI st), .int (nI sb), .int (nI sx)])), (aSl, .inl (cI, 9216, .inl (nF sl))), (aSj, .inl (cI, 324, .inl (nF sj))), (aR, .inr (2, [.ref aRb, .ref aRr, .ref aRa])), (aRb, .inl (cI, 9, .inl (nF rb))), (aRr, .inl (cI, 9, .inl (nF rr))), (aRa, .inl (cI, 9, .inl (nF ra)))] sz) [(aS, .inr (4, [.ref aR, .ref aSj, .ref aSl, .ref aSs, .ref aSo, .int (nI sn), .int (nI st), .int (nI sb), .int (nI sx)])), (aSl, .inl (cI, 9216, .inl (nF slz))), (aSj, .inl (cI, 324, .inl (nF sj))), (aR, .inr (2, [.ref aRb, .ref aRr, .ref aRa])), (aRb, .inl (cI, 9, .inl (nF rb))), (aRr, .inl (cI, 9, .inl (nF rr))), (aRa, .inl (cI, 9, .inl (nF ra)))]) (va_A [(aS, .inr (4, [.ref aR, .ref aSj, .ref aSl, .ref aSs, .ref aSo, .int (nI sn), .int (nI st), .int (nI sb), .int (nI sx)])), (aSl, .inl (cI, 9216, .inl (nF sl))), (aSj, .inl (cI, 324, .inl (nF sj))), (aR, .inr (2, [.ref aRb, .ref aRr, .ref aRa])), (aRb, .inl (cI, 9, .inl (nF rb))), (aRr, .inl (cI, 9, .inl (nF rr))), (aRa, .inl (cI, 9, .inl (nF ra)))] sz)) 0 0 (va_A [(aS, .inr (4, [.ref aR, .ref aSj, .ref aSl, .ref aSs, .ref aSo, .int (nI sn), .int (nI st), .int (nI sb), .int (nI sx)])), (aSl, .inl (cI, 9216, .inl (nF sl))), (aSj, .inl (cI, 324, .inl (nF sj))), (aR, .inr (2, [.ref aRb, .ref aRr, .ref aRa])), (aRb, .inl (cI, 9, .inl (nF rb))), (aRr, .inl (cI, 9, .inl (nF rr))), (aRa, .inl (cI, 9, .inl (nF ra)))] sz) := by
  refine Met.ofW (cc := cX4_fill) (maxL := 7) (ret := none) (by decide) rfl ?_
  intro p e s m args below meth c s₁ B hml hv
  obtain ⟨rfl, hsz, hP, hKK, hD0⟩ := hv
  have hK := hKK.1
  have hx := B.exec
  have hb := B.bytes
  have hr := B.returns
  have hts := atoms_spec (ws := wsX4_fill) B.pre
  have hown : s.vm.findClass RX4 = some m.cls := findClass_of_methodNamed B.named
  have hlocks := B.notSynchronized
  subst hsz
  have hD := hD0.self (sz := s.heap.size)
  generalize hAe : va_A [(aS, .inr (4, [.ref aR, .ref aSj, .ref aSl, .ref aSs, .ref aSo, .int (nI sn), .int (nI st), .int (nI sb), .int (nI sx)])), (aSl, .inl (cI, 9216, .inl (nF sl))), (aSj, .inl (cI, 324, .inl (nF sj))), (aR, .inr (2, [.ref aRb, .ref aRr, .ref aRa])), (aRb, .inl (cI, 9, .inl (nF rb))), (aRr, .inl (cI, 9, .inl (nF rr))), (aRa, .inl (cI, 9, .inl (nF ra)))] s.heap.size = A at hD ⊢
  have hA : ∀ q : Nat, s.heap.size ≤ q → A q := fun q h => by rw [← hAe]; exact Or.inr h
  have hS : va_S A s.heap s.heap [] := va_S.rf
  have hl := lv_entry ([.ref aS, .int (bhN ba), .int (bhN bb)]) (n := 7) (Nat.le_of_ble_eq_true rfl)
  rw [lg_entry_eq]
  generalize (lg_sl ([.ref aS, .int (bhN ba), .int (bhN bb)]) ++ List.replicate (7 - (lg_sl ([.ref aS, .int (bhN ba), .int (bhN bb)])).length) Slot.unset).toArray = ls at hl ⊢
  have hl : lv_has ls 7 [(0, .ref aS), (1, .int (bhN ba)), (2, .int (bhN bb))] := hl
  have hp9 := ln_p9 hn
  have hp1 := ln_one_two_pow sn
  refine lv_iconst (v := nI 1) hx hb dX4_fill_0 (by decide) ?_
  refine lv_istore_n (lv' := [(3, .int (nI 1)), (0, .ref aS), (1, .int (bhN ba)), (2, .int (bhN bb))]) hx hb dX4_fill_1 rfl hl (by decide) rfl (fun ls hl => ?_)
  have LP2 : ∀ (n2 : Nat) (set : Nat) (sla : Nat → Nat), 2 ^ sn - set < n2 → (∀ k, sla k ≤ 1000000) → (1 ≤ set ∧ set ≤ 2 ^ sn) → (sla = m_fill rb rr ra sj sn st ba bb sl (set - 1)) → ∀ (H : Heap) (locs : List Loc), va_P (dC, dI) vwCl [(aS, .inr (4, [.ref aR, .ref aSj, .ref aSl, .ref aSs, .ref aSo, .int (nI sn), .int (nI st), .int (nI sb), .int (nI sx)])), (aSl, .inl (cI, 9216, .inl (nF sla))), (aSj, .inl (cI, 324, .inl (nF sj))), (aR, .inr (2, [.ref aRb, .ref aRr, .ref aRa])), (aRb, .inl (cI, 9, .inl (nF rb))), (aRr, .inl (cI, 9, .inl (nF rr))), (aRa, .inl (cI, 9, .inl (nF ra)))] H → va_D A [(aS, .inr (4, [.ref aR, .ref aSj, .ref aSl, .ref aSs, .ref aSo, .int (nI sn), .int (nI st), .int (nI sb), .int (nI sx)])), (aSl, .inl (cI, 9216, .inl (nF sla))), (aSj, .inl (cI, 324, .inl (nF sj))), (aR, .inr (2, [.ref aRb, .ref aRr, .ref aRa])), (aRb, .inl (cI, 9, .inl (nF rb))), (aRr, .inl (cI, 9, .inl (nF rr))), (aRa, .inl (cI, 9, .inl (nF ra)))] → va_S A s.heap H locs → ∀ (ls : Array Slot), lv_has ls 7 [(0, .ref aS), (1, .int (bhN ba)), (2, .int (bhN bb)), (3, .int (nI set))] → W p l e { frames := 3, cells := 0, slots := 0, locals := 76 } s m [.ref aS, .int (bhN ba), .int (bhN bb)].toArray below meth c H locs 0 0 (MQ below (va_Qv (fun (slz : (Nat → Nat)) => slz = m_fill rb rr ra sj sn st ba bb sl (2 ^ sn - 1) ∧ ∀ k, slz k ≤ 1000000) (fun (slz : (Nat → Nat)) (t : State) => va_P (dC, dI) vwCl [(aS, .inr (4, [.ref aR, .ref aSj, .ref aSl, .ref aSs, .ref aSo, .int (nI sn), .int (nI st), .int (nI sb), .int (nI sx)])), (aSl, .inl (cI, 9216, .inl (nF slz))), (aSj, .inl (cI, 324, .inl (nF sj))), (aR, .inr (2, [.ref aRb, .ref aRr, .ref aRa])), (aRb, .inl (cI, 9, .inl (nF rb))), (aRr, .inl (cI, 9, .inl (nF rr))), (aRa, .inl (cI, 9, .inl (nF ra)))] t.heap ∧ va_D A [(aS, .inr (4, [.ref aR, .ref aSj, .ref aSl, .ref aSs, .ref aSo, .int (nI sn), .int (nI st), .int (nI sb), .int (nI sx)])), (aSl, .inl (cI, 9216, .inl (nF slz))), (aSj, .inl (cI, 324, .inl (nF sj))), (aR, .inr (2, [.ref aRb, .ref aRr, .ref aRa])), (aRb, .inl (cI, 9, .inl (nF rb))), (aRr, .inl (cI, 9, .inl (nF rr))), (aRa, .inl (cI, 9, .inl (nF ra)))]) A) [.ref aS, .int (bhN ba), .int (bhN bb)].toArray s 0 0 A) (F0 m 2 ls []) := by
    intro n2
    induction n2 with
    | zero =>
      intro set sla hm
      exact absurd hm (Nat.not_lt_zero _)
    | succ n2 ih2 =>
      intro set sla hm2 bSla hs hfa H locs hP hD hS ls hl
      refine lv_iload_n hx hb dX4_fill_2 rfl (lv_at hl 3 rfl) ?_
      refine lv_aload_n hx hb dX4_fill_3 rfl (lv_at hl 0 rfl) ?_
      have hPc := hP.sub (ws' := [(aS, .inr (4, [.ref aR, .ref aSj, .ref aSl, .ref aSs, .ref aSo, .int (nI sn), .int (nI st), .int (nI sb), .int (nI sx)]))]) [0] rfl
      refine vp_callSi (W.runV (As := []) (rest := [.int (nI set)]) ⟨hx, hb, hml, hown, hts⟩ (k_X4_all l dC dI cI cZ aS aR aSj aSl aSs aSo sn st sb sx (by omega)) (cwV 0 hts gX4_fill_X4_all rfl rfl rfl (by decide +kernel) ⟨Nat.le_of_ble_eq_true rfl, Nat.le_of_ble_eq_true rfl⟩) (ln_preV (q0 := 0) (ci := 4) hPc hKK rfl rfl) rfl rfl hl.1 rfl (lv_room (Nat.le_of_ble_eq_true rfl)) dX4_fill_4 ⟨Nat.le_of_ble_eq_true rfl, Nat.le_of_ble_eq_true rfl⟩) (fun r_1 w_2 => ?_)
      subst w_2
      refine ln_icmp_gt (tgt := 91) hx hb dX4_fill_7 (by decide) (by have := ln_p9 hn; omega) (by have := ln_p9 hn; omega) (fun c_3 => ?_) (fun c_3 => ?_)
      · exact W.vret hx hb hr (fun t ht hW => ⟨⟨sla, rfl, ⟨(by rw [hfa, show set - 1 = 2 ^ sn - 1 by omega]), bSla⟩, by rw [ht]; exact hP, hD⟩, hS.F ht⟩) hS.2.2 dX4_fill_91
      · refine lv_iconst (v := nI 0) hx hb dX4_fill_10 (by decide) ?_
        refine lv_istore (lv' := [(4, .int (nI 0)), (0, .ref aS), (1, .int (bhN ba)), (2, .int (bhN bb)), (3, .int (nI set))]) hx hb dX4_fill_11 hl (by decide) rfl (fun ls hl => ?_)
        have LP13 : ∀ (n13 : Nat) (i : Nat) (slb : Nat → Nat), sn - i < n13 → (∀ k, slb k ≤ 1000000) → (i ≤ sn) → (slb = m_fillS rb rr ra sj sn st ba bb set sla i) → ∀ (H : Heap) (locs : List Loc), va_P (dC, dI) vwCl [(aS, .inr (4, [.ref aR, .ref aSj, .ref aSl, .ref aSs, .ref aSo, .int (nI sn), .int (nI st), .int (nI sb), .int (nI sx)])), (aSl, .inl (cI, 9216, .inl (nF slb))), (aSj, .inl (cI, 324, .inl (nF sj))), (aR, .inr (2, [.ref aRb, .ref aRr, .ref aRa])), (aRb, .inl (cI, 9, .inl (nF rb))), (aRr, .inl (cI, 9, .inl (nF rr))), (aRa, .inl (cI, 9, .inl (nF ra)))] H → va_D A [(aS, .inr (4, [.ref aR, .ref aSj, .ref aSl, .ref aSs, .ref aSo, .int (nI sn), .int (nI st), .int (nI sb), .int (nI sx)])), (aSl, .inl (cI, 9216, .inl (nF slb))), (aSj, .inl (cI, 324, .inl (nF sj))), (aR, .inr (2, [.ref aRb, .ref aRr, .ref aRa])), (aRb, .inl (cI, 9, .inl (nF rb))), (aRr, .inl (cI, 9, .inl (nF rr))), (aRa, .inl (cI, 9, .inl (nF ra)))] → va_S A s.heap H locs → ∀ (ls : Array Slot), lv_has ls 7 [(0, .ref aS), (1, .int (bhN ba)), (2, .int (bhN bb)), (3, .int (nI set)), (4, .int (nI i))] → W p l e { frames := 3, cells := 0, slots := 0, locals := 76 } s m [.ref aS, .int (bhN ba), .int (bhN bb)].toArray below meth c H locs 0 0 (MQ below (va_Qv (fun (slz : (Nat → Nat)) => slz = m_fill rb rr ra sj sn st ba bb sl (2 ^ sn - 1) ∧ ∀ k, slz k ≤ 1000000) (fun (slz : (Nat → Nat)) (t : State) => va_P (dC, dI) vwCl [(aS, .inr (4, [.ref aR, .ref aSj, .ref aSl, .ref aSs, .ref aSo, .int (nI sn), .int (nI st), .int (nI sb), .int (nI sx)])), (aSl, .inl (cI, 9216, .inl (nF slz))), (aSj, .inl (cI, 324, .inl (nF sj))), (aR, .inr (2, [.ref aRb, .ref aRr, .ref aRa])), (aRb, .inl (cI, 9, .inl (nF rb))), (aRr, .inl (cI, 9, .inl (nF rr))), (aRa, .inl (cI, 9, .inl (nF ra)))] t.heap ∧ va_D A [(aS, .inr (4, [.ref aR, .ref aSj, .ref aSl, .ref aSs, .ref aSo, .int (nI sn), .int (nI st), .int (nI sb), .int (nI sx)])), (aSl, .inl (cI, 9216, .inl (nF slz))), (aSj, .inl (cI, 324, .inl (nF sj))), (aR, .inr (2, [.ref aRb, .ref aRr, .ref aRa])), (aRb, .inl (cI, 9, .inl (nF rb))), (aRr, .inl (cI, 9, .inl (nF rr))), (aRa, .inl (cI, 9, .inl (nF ra)))]) A) [.ref aS, .int (bhN ba), .int (bhN bb)].toArray s 0 0 A) (F0 m 13 ls []) := by
          intro n13
          induction n13 with
          | zero =>
            intro i slb hm
            exact absurd hm (Nat.not_lt_zero _)
          | succ n13 ih13 =>
            intro i slb hm13 bSlb hi hfs H locs hP hD hS ls hl
            refine lv_iload hx hb dX4_fill_13 (lv_at hl 4 rfl) ?_
            refine lv_aload_n hx hb dX4_fill_15 rfl (lv_at hl 0 rfl) ?_
            refine va_get (D := (dC, dI)) (ci := 4) (v := .int (nI sn)) (C := RX4) (T := TX4) (N := 9) hx hb hts mX4_fill_inX4 hown hK hP 0 rfl rfl 5 (by decide) (hts (.fieldLink RX4 40 "LeafOrder$Search" "count" "I") mX4_fill_0) (fun _ h9 => h9) rfl dX4_fill_16 ?_
            refine ln_icmp_ge (tgt := 85) hx hb dX4_fill_19 (by decide) (by omega) (by omega) (fun c_4 => ?_) (fun c_4 => ?_)
            · refine lv_iinc (v := (nI (set + 1))) (lv' := [(3, .int (nI (set + 1))), (0, .ref aS), (1, .int (bhN ba)), (2, .int (bhN bb)), (4, .int (nI i))]) hx hb dX4_fill_85 hl (k := 3) rfl (by first | exact nI_1 _ | rfl) (by decide) rfl (fun ls hl => ?_)
              refine lv_goto (tgt := 2) hx hb dX4_fill_88 (by decide) ?_
              exact ih2 (set + 1) slb (by omega) bSlb (by have := ln_p9 hn; omega) (by rw [Nat.add_sub_cancel, hfs, show i = sn by omega]; conv => rhs; rw [show set = (set - 1) + 1 by omega, m_fill]; rw [show set - 1 + 1 = set by omega, ← hfa]) _ _ hP hD hS ls (lv_sub hl [1, 2, 3, 0] rfl)
            · refine lv_iload_n hx hb dX4_fill_22 rfl (lv_at hl 3 rfl) ?_
              refine lv_iload hx hb dX4_fill_23 (lv_at hl 4 rfl) ?_
              refine ln_ishr hx hb dX4_fill_25 (by omega) (by omega) ?_
              refine lv_iconst (v := nI 1) hx hb dX4_fill_26 (by decide) ?_
              refine ln_iand hx hb dX4_fill_27 ?_
              refine ln_if_eq (tgt := 79) hx hb dX4_fill_28 (by decide) (ln_b31 _) (fun c_5 => ?_) (fun c_5 => ?_)
              · refine lv_iinc (v := (nI (i + 1))) (lv' := [(4, .int (nI (i + 1))), (0, .ref aS), (1, .int (bhN ba)), (2, .int (bhN bb)), (3, .int (nI set))]) hx hb dX4_fill_79 hl (k := 4) rfl (by first | exact nI_1 _ | rfl) (by decide) rfl (fun ls hl => ?_)
                refine lv_goto (tgt := 13) hx hb dX4_fill_82 (by decide) ?_
                exact ih13 (i + 1) slb (by omega) bSlb (by omega) (by rw [m_fillS, if_pos c_5, hfs]) _ _ hP hD hS ls (lv_sub hl [1, 2, 3, 4, 0] rfl)
              · refine lv_iload_n hx hb dX4_fill_31 rfl (lv_at hl 3 rfl) ?_
                refine lv_iconst (v := nI 1) hx hb dX4_fill_32 (by decide) ?_
                refine lv_iload hx hb dX4_fill_33 (lv_at hl 4 rfl) ?_
                refine ln_ishl1 hx hb dX4_fill_35 (by omega) ?_
                refine lv_iconst (v := (-1)) hx hb dX4_fill_36 (by decide) ?_
                refine lv_ixor hx hb dX4_fill_37 ?_
                refine ln_iclr hx hb dX4_fill_38 ?_
                refine lv_istore (lv' := [(5, .int (nI (nclr set (2 ^ i)))), (0, .ref aS), (1, .int (bhN ba)), (2, .int (bhN bb)), (3, .int (nI set)), (4, .int (nI i))]) hx hb dX4_fill_39 hl (by decide) rfl (fun ls hl => ?_)
                refine lv_aload_n hx hb dX4_fill_41 rfl (lv_at hl 1 rfl) ?_
                refine va_get (D := (dC, dI)) (ci := 4) (v := .ref aR) (C := RX4) (T := TX4) (N := 9) hx hb hts mX4_fill_inX4 hown hK hP 0 rfl rfl 0 (by decide) (hts (.fieldLink RX4 24 "LeafOrder$Search" "rules" "LLeafOrder$Rules;") mX4_fill_2) (fun _ h9 => h9) rfl dX4_fill_42 ?_
                refine lv_iload hx hb dX4_fill_45 (lv_at hl 5 rfl) ?_
                refine lv_iload hx hb dX4_fill_47 (lv_at hl 0 rfl) ?_
                have hPc := hP.sub (ws' := [(aR, .inr (2, [.ref aRb, .ref aRr, .ref aRa])), (aRa, .inl (cI, 9, .inl (nF ra)))]) [3, 6] rfl
                refine vp_callSi (W.runV (As := [.int (nI i), .int (nI (nclr set (2 ^ i)))]) (rest := []) ⟨hx, hb, hml, hown, hts⟩ (k_X2_neighboursOf l dC dI cI cZ aR aRb aRr aRa ra i (nclr set (2 ^ i)) bRa (by omega) (Nat.lt_of_le_of_lt (nclr_le _ _) (by omega))) (cwV 2 hts gX4_fill_X2_neighboursOf rfl rfl rfl (by decide +kernel) ⟨Nat.le_of_ble_eq_true rfl, Nat.le_of_ble_eq_true rfl⟩) (ln_preV (q0 := 0) (ci := 2) hPc hKK rfl rfl) rfl rfl hl.1 rfl (lv_room (Nat.le_of_ble_eq_true rfl)) dX4_fill_49 ⟨Nat.le_of_ble_eq_true rfl, Nat.le_of_ble_eq_true rfl⟩) (fun r_6 w_7 => ?_)
                subst w_7
                refine lv_istore (lv' := [(6, .int (nI (m_nbr ra i (nclr set (2 ^ i))))), (5, .int (nI (nclr set (2 ^ i)))), (0, .ref aS), (1, .int (bhN ba)), (2, .int (bhN bb)), (3, .int (nI set)), (4, .int (nI i))]) hx hb dX4_fill_52 hl (by decide) rfl (fun ls hl => ?_)
                refine lv_iload hx hb dX4_fill_54 (lv_at hl 6 rfl) ?_
                refine lv_iload_n hx hb dX4_fill_56 rfl (lv_at hl 4 rfl) ?_
                refine lv_icmp_ne (tgt := 70) hx hb dX4_fill_57 (by decide) (fun c_8 => ?_) (fun c_8 => ?_)
                · have hne : ¬ i = bb := fun q => c_8 (by rw [q, bhN_lt (by omega)])
                  have hnb := m_nbr_lt ra i (nclr set (2 ^ i)) (Nat.lt_of_le_of_lt (nclr_le _ _) (by omega))
                  have hah : m_nbr ra i (nclr set (2 ^ i)) < 512 := hnb
                  have haE : m_ahead ra ba bb i (nclr set (2 ^ i)) = m_nbr ra i (nclr set (2 ^ i)) := by unfold m_ahead; rw [if_neg hne]
                  refine lv_aload_n hx hb dX4_fill_70 rfl (lv_at hl 2 rfl) ?_
                  refine lv_iload_n hx hb dX4_fill_71 rfl (lv_at hl 5 rfl) ?_
                  refine lv_iload hx hb dX4_fill_72 (lv_at hl 6 rfl) ?_
                  refine lv_iload hx hb dX4_fill_74 (lv_at hl 0 rfl) ?_
                  have hPc := hP.sub (ws' := [(aS, .inr (4, [.ref aR, .ref aSj, .ref aSl, .ref aSs, .ref aSo, .int (nI sn), .int (nI st), .int (nI sb), .int (nI sx)])), (aSl, .inl (cI, 9216, .inl (nF slb))), (aSj, .inl (cI, 324, .inl (nF sj))), (aR, .inr (2, [.ref aRb, .ref aRr, .ref aRa])), (aRb, .inl (cI, 9, .inl (nF rb))), (aRr, .inl (cI, 9, .inl (nF rr)))]) [0, 1, 2, 3, 4, 5] rfl
                  have hDc := hD.sub (ws' := [(aS, .inr (4, [.ref aR, .ref aSj, .ref aSl, .ref aSs, .ref aSo, .int (nI sn), .int (nI st), .int (nI sb), .int (nI sx)])), (aSl, .inl (cI, 9216, .inl (nF slb))), (aSj, .inl (cI, 324, .inl (nF sj))), (aR, .inr (2, [.ref aRb, .ref aRr, .ref aRa])), (aRb, .inl (cI, 9, .inl (nF rb))), (aRr, .inl (cI, 9, .inl (nF rr)))]) [0, 1, 2, 3, 4, 5] (by decide) rfl
                  have hFc := va_free (wc := [(aS, .inr (4, [.ref aR, .ref aSj, .ref aSl, .ref aSs, .ref aSo, .int (nI sn), .int (nI st), .int (nI sb), .int (nI sx)])), (aSl, .inl (cI, 9216, .inl (nF slb))), (aSj, .inl (cI, 324, .inl (nF sj))), (aR, .inr (2, [.ref aRb, .ref aRr, .ref aRa])), (aRb, .inl (cI, 9, .inl (nF rb))), (aRr, .inl (cI, 9, .inl (nF rr)))]) hD hS hA [0, 1, 2, 3, 4, 5] rfl
                  refine va_callv (va_runV (As := [.int (nI set), .int (nI i), .int (nI (m_nbr ra i (nclr set (2 ^ i))))]) (rest := []) ⟨hx, hb, hml, hown, hts⟩ (k_X4_fillLast l dC dI cI cZ aS aR aSj aSl aSs aSo aRb aRr aRa sn st sb sx slb sj rb rr set i (m_nbr ra i (nclr set (2 ^ i))) H.size bSlb bSj bRb bRr (by omega) (by omega) (by omega) (by omega) hah) (cwV 3 hts gX4_fill_X4_fillLast rfl rfl rfl (by decide +kernel) ⟨Nat.le_of_ble_eq_true rfl, Nat.le_of_ble_eq_true rfl⟩) (ln_preVM (q0 := 0) (ci := 4) hPc hKK hDc rfl rfl) rfl rfl hl.1 rfl (lv_room (Nat.le_of_ble_eq_true rfl)) dX4_fill_76 ⟨Nat.le_of_ble_eq_true rfl, Nat.le_of_ble_eq_true rfl⟩) hS (fun q _ h => hFc q h) hFc (fun u t H1 locs ht hvm w_10 hB hz1 hk1 hS => ?_)
                  obtain ⟨slz_11, rfl⟩ : ∃ z, z = u := ⟨_, rfl⟩
                  obtain ⟨hP1, hD1⟩ := hB
                  rw [ht] at hP1
                  try dsimp only at w_10
                  obtain ⟨hP, hD⟩ := va_join (wr := [(aRa, .inl (cI, 9, .inl (nF ra)))]) (w1 := [(aS, .inr (4, [.ref aR, .ref aSj, .ref aSl, .ref aSs, .ref aSo, .int (nI sn), .int (nI st), .int (nI sb), .int (nI sx)])), (aSl, .inl (cI, 9216, .inl (nF slz_11))), (aSj, .inl (cI, 324, .inl (nF sj))), (aR, .inr (2, [.ref aRb, .ref aRr, .ref aRa])), (aRb, .inl (cI, 9, .inl (nF rb))), (aRr, .inl (cI, 9, .inl (nF rr)))]) hP hD [0, 1, 2, 3, 4, 5] [6] rfl rfl (by decide) (by decide) hk1 hFc hP1 hD1
                  generalize H1 = H at hP hS ⊢
                  have hP := hP.sub (ws' := [(aS, .inr (4, [.ref aR, .ref aSj, .ref aSl, .ref aSs, .ref aSo, .int (nI sn), .int (nI st), .int (nI sb), .int (nI sx)])), (aSl, .inl (cI, 9216, .inl (nF slz_11))), (aSj, .inl (cI, 324, .inl (nF sj))), (aR, .inr (2, [.ref aRb, .ref aRr, .ref aRa])), (aRb, .inl (cI, 9, .inl (nF rb))), (aRr, .inl (cI, 9, .inl (nF rr))), (aRa, .inl (cI, 9, .inl (nF ra)))]) [1, 2, 3, 4, 5, 6, 0] rfl
                  have hD := hD.sub (ws' := [(aS, .inr (4, [.ref aR, .ref aSj, .ref aSl, .ref aSs, .ref aSo, .int (nI sn), .int (nI st), .int (nI sb), .int (nI sx)])), (aSl, .inl (cI, 9216, .inl (nF slz_11))), (aSj, .inl (cI, 324, .inl (nF sj))), (aR, .inr (2, [.ref aRb, .ref aRr, .ref aRa])), (aRb, .inl (cI, 9, .inl (nF rb))), (aRr, .inl (cI, 9, .inl (nF rr))), (aRa, .inl (cI, 9, .inl (nF ra)))]) [1, 2, 3, 4, 5, 6, 0] (by decide) rfl
                  obtain ⟨w_10, b_12⟩ := w_10
                  refine lv_iinc (v := (nI (i + 1))) (lv' := [(4, .int (nI (i + 1))), (6, .int (nI (m_nbr ra i (nclr set (2 ^ i))))), (5, .int (nI (nclr set (2 ^ i)))), (0, .ref aS), (1, .int (bhN ba)), (2, .int (bhN bb)), (3, .int (nI set))]) hx hb dX4_fill_79 hl (k := 6) rfl (by first | exact nI_1 _ | rfl) (by decide) rfl (fun ls hl => ?_)
                  refine lv_goto (tgt := 13) hx hb dX4_fill_82 (by decide) ?_
                  exact ih13 (i + 1) slz_11 (by omega) b_12 (by omega) (by rw [m_fillS, if_neg c_5, haE, ← hfs]; exact w_10) _ _ hP hD hS ls (lv_sub hl [3, 4, 5, 6, 0] rfl)
                · have hie : i = bb := bhN_leaf (by omega) c_8
                  refine lv_iload hx hb dX4_fill_60 (lv_at hl 0 rfl) ?_
                  refine lv_iconst (v := nI 1) hx hb dX4_fill_62 (by decide) ?_
                  refine lv_iload_n hx hb dX4_fill_63 rfl (lv_at hl 3 rfl) ?_
                  have hba9 : ba < 9 := hbb (by omega)
                  have eba : bhN ba = nI ba := bhN_lt (by omega)
                  refine W.eq (g2 := F0 m 64 ls [.int (nI ba), .int (nI 1), .int (nI (m_nbr ra i (nclr set (2 ^ i))))]) (by rw [eba]) ?_
                  refine ln_ishl1 hx hb dX4_fill_64 (by omega) ?_
                  refine lv_iconst (v := (-1)) hx hb dX4_fill_65 (by decide) ?_
                  refine lv_ixor hx hb dX4_fill_66 ?_
                  refine ln_iclr hx hb dX4_fill_67 ?_
                  refine lv_istore (lv' := [(6, .int (nI (nclr (m_nbr ra i (nclr set (2 ^ i))) (2 ^ ba)))), (5, .int (nI (nclr set (2 ^ i)))), (0, .ref aS), (1, .int (bhN ba)), (2, .int (bhN bb)), (3, .int (nI set)), (4, .int (nI i))]) hx hb dX4_fill_68 hl (by decide) rfl (fun ls hl => ?_)
                  have hnb := m_nbr_lt ra i (nclr set (2 ^ i)) (Nat.lt_of_le_of_lt (nclr_le _ _) (by omega))
                  have hah : nclr (m_nbr ra i (nclr set (2 ^ i))) (2 ^ ba) < 512 := Nat.lt_of_le_of_lt (nclr_le _ _) hnb
                  have haE : m_ahead ra ba bb i (nclr set (2 ^ i)) = nclr (m_nbr ra i (nclr set (2 ^ i))) (2 ^ ba) := by unfold m_ahead; rw [if_pos hie]
                  refine lv_aload_n hx hb dX4_fill_70 rfl (lv_at hl 2 rfl) ?_
                  refine lv_iload_n hx hb dX4_fill_71 rfl (lv_at hl 5 rfl) ?_
                  refine lv_iload hx hb dX4_fill_72 (lv_at hl 6 rfl) ?_
                  refine lv_iload hx hb dX4_fill_74 (lv_at hl 0 rfl) ?_
                  have hPc := hP.sub (ws' := [(aS, .inr (4, [.ref aR, .ref aSj, .ref aSl, .ref aSs, .ref aSo, .int (nI sn), .int (nI st), .int (nI sb), .int (nI sx)])), (aSl, .inl (cI, 9216, .inl (nF slb))), (aSj, .inl (cI, 324, .inl (nF sj))), (aR, .inr (2, [.ref aRb, .ref aRr, .ref aRa])), (aRb, .inl (cI, 9, .inl (nF rb))), (aRr, .inl (cI, 9, .inl (nF rr)))]) [0, 1, 2, 3, 4, 5] rfl
                  have hDc := hD.sub (ws' := [(aS, .inr (4, [.ref aR, .ref aSj, .ref aSl, .ref aSs, .ref aSo, .int (nI sn), .int (nI st), .int (nI sb), .int (nI sx)])), (aSl, .inl (cI, 9216, .inl (nF slb))), (aSj, .inl (cI, 324, .inl (nF sj))), (aR, .inr (2, [.ref aRb, .ref aRr, .ref aRa])), (aRb, .inl (cI, 9, .inl (nF rb))), (aRr, .inl (cI, 9, .inl (nF rr)))]) [0, 1, 2, 3, 4, 5] (by decide) rfl
                  have hFc := va_free (wc := [(aS, .inr (4, [.ref aR, .ref aSj, .ref aSl, .ref aSs, .ref aSo, .int (nI sn), .int (nI st), .int (nI sb), .int (nI sx)])), (aSl, .inl (cI, 9216, .inl (nF slb))), (aSj, .inl (cI, 324, .inl (nF sj))), (aR, .inr (2, [.ref aRb, .ref aRr, .ref aRa])), (aRb, .inl (cI, 9, .inl (nF rb))), (aRr, .inl (cI, 9, .inl (nF rr)))]) hD hS hA [0, 1, 2, 3, 4, 5] rfl
                  refine va_callv (va_runV (As := [.int (nI set), .int (nI i), .int (nI (nclr (m_nbr ra i (nclr set (2 ^ i))) (2 ^ ba)))]) (rest := []) ⟨hx, hb, hml, hown, hts⟩ (k_X4_fillLast l dC dI cI cZ aS aR aSj aSl aSs aSo aRb aRr aRa sn st sb sx slb sj rb rr set i (nclr (m_nbr ra i (nclr set (2 ^ i))) (2 ^ ba)) H.size bSlb bSj bRb bRr (by omega) (by omega) (by omega) (by omega) hah) (cwV 3 hts gX4_fill_X4_fillLast rfl rfl rfl (by decide +kernel) ⟨Nat.le_of_ble_eq_true rfl, Nat.le_of_ble_eq_true rfl⟩) (ln_preVM (q0 := 0) (ci := 4) hPc hKK hDc rfl rfl) rfl rfl hl.1 rfl (lv_room (Nat.le_of_ble_eq_true rfl)) dX4_fill_76 ⟨Nat.le_of_ble_eq_true rfl, Nat.le_of_ble_eq_true rfl⟩) hS (fun q _ h => hFc q h) hFc (fun u t H1 locs ht hvm w_14 hB hz1 hk1 hS => ?_)
                  obtain ⟨slz_15, rfl⟩ : ∃ z, z = u := ⟨_, rfl⟩
                  obtain ⟨hP1, hD1⟩ := hB
                  rw [ht] at hP1
                  try dsimp only at w_14
                  obtain ⟨hP, hD⟩ := va_join (wr := [(aRa, .inl (cI, 9, .inl (nF ra)))]) (w1 := [(aS, .inr (4, [.ref aR, .ref aSj, .ref aSl, .ref aSs, .ref aSo, .int (nI sn), .int (nI st), .int (nI sb), .int (nI sx)])), (aSl, .inl (cI, 9216, .inl (nF slz_15))), (aSj, .inl (cI, 324, .inl (nF sj))), (aR, .inr (2, [.ref aRb, .ref aRr, .ref aRa])), (aRb, .inl (cI, 9, .inl (nF rb))), (aRr, .inl (cI, 9, .inl (nF rr)))]) hP hD [0, 1, 2, 3, 4, 5] [6] rfl rfl (by decide) (by decide) hk1 hFc hP1 hD1
                  generalize H1 = H at hP hS ⊢
                  have hP := hP.sub (ws' := [(aS, .inr (4, [.ref aR, .ref aSj, .ref aSl, .ref aSs, .ref aSo, .int (nI sn), .int (nI st), .int (nI sb), .int (nI sx)])), (aSl, .inl (cI, 9216, .inl (nF slz_15))), (aSj, .inl (cI, 324, .inl (nF sj))), (aR, .inr (2, [.ref aRb, .ref aRr, .ref aRa])), (aRb, .inl (cI, 9, .inl (nF rb))), (aRr, .inl (cI, 9, .inl (nF rr))), (aRa, .inl (cI, 9, .inl (nF ra)))]) [1, 2, 3, 4, 5, 6, 0] rfl
                  have hD := hD.sub (ws' := [(aS, .inr (4, [.ref aR, .ref aSj, .ref aSl, .ref aSs, .ref aSo, .int (nI sn), .int (nI st), .int (nI sb), .int (nI sx)])), (aSl, .inl (cI, 9216, .inl (nF slz_15))), (aSj, .inl (cI, 324, .inl (nF sj))), (aR, .inr (2, [.ref aRb, .ref aRr, .ref aRa])), (aRb, .inl (cI, 9, .inl (nF rb))), (aRr, .inl (cI, 9, .inl (nF rr))), (aRa, .inl (cI, 9, .inl (nF ra)))]) [1, 2, 3, 4, 5, 6, 0] (by decide) rfl
                  obtain ⟨w_14, b_16⟩ := w_14
                  refine lv_iinc (v := (nI (i + 1))) (lv' := [(4, .int (nI (i + 1))), (6, .int (nI (nclr (m_nbr ra i (nclr set (2 ^ i))) (2 ^ ba)))), (5, .int (nI (nclr set (2 ^ i)))), (0, .ref aS), (1, .int (bhN ba)), (2, .int (bhN bb)), (3, .int (nI set))]) hx hb dX4_fill_79 hl (k := 6) rfl (by first | exact nI_1 _ | rfl) (by decide) rfl (fun ls hl => ?_)
                  refine lv_goto (tgt := 13) hx hb dX4_fill_82 (by decide) ?_
                  exact ih13 (i + 1) slz_15 (by omega) b_16 (by omega) (by rw [m_fillS, if_neg c_5, haE, ← hfs]; exact w_14) _ _ hP hD hS ls (lv_sub hl [3, 4, 5, 6, 0] rfl)
        exact LP13 _ 0 sla (Nat.lt_succ_self _) bSla (Nat.zero_le _) rfl _ _ hP hD hS ls (lv_sub hl [1, 2, 3, 4, 0] rfl)
  exact LP2 _ 1 sl (Nat.lt_succ_self _) bSl ⟨Nat.le_refl _, ln_one_two_pow _⟩ rfl _ _ hP hD hS ls (lv_sub hl [1, 2, 3, 0] rfl)
theorem mX4_pick_0 : Cond.constant RX4 44 (1000000) ∈ wsX4_pick := by decide +kernel
theorem mX4_pick_1 : Cond.fieldLink RX4 40 "LeafOrder$Search" "count" "I" ∈ wsX4_pick := by decide +kernel
theorem mX4_pick_inX4 : ∀ w ∈ wsX40, w ∈ wsX4_pick := by decide +kernel
theorem mX4_pick_3 : Cond.fieldLink RX4 15 "LeafOrder$Search" "least" "[I" ∈ wsX4_pick := by decide +kernel
theorem mX4_pick_4 : Cond.fieldLink RX4 67 "LeafOrder$Search" "nextCost" "I" ∈ wsX4_pick := by decide +kernel
theorem mX4_pick_5 : Cond.methodLink RX4 93 Lib.Math.min.name ∈ wsX4_pick := by decide +kernel
theorem mX4_pick_6 : Cond.static Lib.Math.min.name ∈ wsX4_pick := by decide +kernel
theorem mX4_pick_7 : Cond.initialized "java/lang/Math" ∈ wsX4_pick := by decide +kernel
theorem mX4_pick_8 : Cond.code Lib.Math.min.name Lib.Math.min.code 2 (some .int) ∈ wsX4_pick := by decide +kernel
theorem mX4_pick_9 : Cond.fieldLink RX4 24 "LeafOrder$Search" "rules" "LLeafOrder$Rules;" ∈ wsX4_pick := by decide +kernel
set_option maxHeartbeats 4000000 in
set_option maxRecDepth 100000 in
theorem k_X4_pick (l : Launch) (dC : Nat → ClassId) (dI : Nat → Nat → Nat) (cI cZ : ClassId) (aS aR aSj aSl aSs aSo aRb aRr aRa : Nat) (sn : Nat) (st : Nat) (sb : Nat) (sx : Nat) (sl : Nat → Nat) (sj : Nat → Nat) (ra : Nat → Nat) (q1 : Nat) (q2 : Nat) (q3 : Nat) (sz : Nat) (bSl : ∀ k, sl k ≤ 1000000) (bSj : ∀ k, sj k ≤ 10000) (bRa : ∀ k, ra k ≤ 511) (hn : sn ≤ 9) (h1 : q1 < 512) (h2 : q2 ≤ 18) (h3 : q3 ≤ 10000000) (hsx : sx ≤ 1000000) : Met l yX4_pick wsX4_pick { frames := 2, cells := 0, slots := 0, locals := 43 } (va_Pc [.ref aS, .int (nI q1), .int (bhN q2), .int (nI q3)] (fun U => U.heap.size = sz ∧ va_P (dC, dI) vwCl [(aS, .inr (4, [.ref aR, .ref aSj, .ref aSl, .ref aSs, .ref aSo, .int (nI sn), .int (nI st), .int (nI sb), .int (nI sx)])), (aSl, .inl (cI, 9216, .inl (nF sl))), (aSj, .inl (cI, 324, .inl (nF sj))), (aR, .inr (2, [.ref aRb, .ref aRr, .ref aRa])), (aRa, .inl (cI, 9, .inl (nF ra)))] U.heap ∧ lK dC dI cI cZ U ∧ va_D (fun _ => True) [(aS, .inr (4, [.ref aR, .ref aSj, .ref aSl, .ref aSs, .ref aSo, .int (nI sn), .int (nI st), .int (nI sb), .int (nI sx)])), (aSl, .inl (cI, 9216, .inl (nF sl))), (aSj, .inl (cI, 324, .inl (nF sj))), (aR, .inr (2, [.ref aRb, .ref aRr, .ref aRa])), (aRa, .inl (cI, 9, .inl (nF ra)))])) (va_Qi (fun (r : Int32) (sxz : (Nat)) => ∃ z pcz, r = nI z ∧ z ≤ 17 ∧ sxz ≤ 1000000 ∧ (z, pcz, sxz) = m_pick sl sj (m_ends ra q1 q2) q1 q2 q3 sx (2 * sn)) (fun (sxz : (Nat)) (t : State) => va_P (dC, dI) vwCl [(aS, .inr (4, [.ref aR, .ref aSj, .ref aSl, .ref aSs, .ref aSo, .int (nI sn), .int (nI st), .int (nI sb), .int (nI sxz)])), (aSl, .inl (cI, 9216, .inl (nF sl))), (aSj, .inl (cI, 324, .inl (nF sj))), (aR, .inr (2, [.ref aRb, .ref aRr, .ref aRa])), (aRa, .inl (cI, 9, .inl (nF ra)))] t.heap ∧ va_D (va_A [(aS, .inr (4, [.ref aR, .ref aSj, .ref aSl, .ref aSs, .ref aSo, .int (nI sn), .int (nI st), .int (nI sb), .int (nI sx)])), (aSl, .inl (cI, 9216, .inl (nF sl))), (aSj, .inl (cI, 324, .inl (nF sj))), (aR, .inr (2, [.ref aRb, .ref aRr, .ref aRa])), (aRa, .inl (cI, 9, .inl (nF ra)))] sz) [(aS, .inr (4, [.ref aR, .ref aSj, .ref aSl, .ref aSs, .ref aSo, .int (nI sn), .int (nI st), .int (nI sb), .int (nI sxz)])), (aSl, .inl (cI, 9216, .inl (nF sl))), (aSj, .inl (cI, 324, .inl (nF sj))), (aR, .inr (2, [.ref aRb, .ref aRr, .ref aRa])), (aRa, .inl (cI, 9, .inl (nF ra)))]) (va_A [(aS, .inr (4, [.ref aR, .ref aSj, .ref aSl, .ref aSs, .ref aSo, .int (nI sn), .int (nI st), .int (nI sb), .int (nI sx)])), (aSl, .inl (cI, 9216, .inl (nF sl))), (aSj, .inl (cI, 324, .inl (nF sj))), (aR, .inr (2, [.ref aRb, .ref aRr, .ref aRa])), (aRa, .inl (cI, 9, .inl (nF ra)))] sz)) 0 0 (va_A [(aS, .inr (4, [.ref aR, .ref aSj, .ref aSl, .ref aSs, .ref aSo, .int (nI sn), .int (nI st), .int (nI sb), .int (nI sx)])), (aSl, .inl (cI, 9216, .inl (nF sl))), (aSj, .inl (cI, 324, .inl (nF sj))), (aR, .inr (2, [.ref aRb, .ref aRr, .ref aRa])), (aRa, .inl (cI, 9, .inl (nF ra)))] sz) := by
  refine Met.ofW (cc := cX4_pick) (maxL := 9) (ret := (some .int)) (by decide) rfl ?_
  intro p e s m args below meth c s₁ B hml hv
  obtain ⟨rfl, hsz, hP, hKK, hD0⟩ := hv
  have hK := hKK.1
  have hx := B.exec
  have hb := B.bytes
  have hr := B.returns
  have hts := atoms_spec (ws := wsX4_pick) B.pre
  have hown : s.vm.findClass RX4 = some m.cls := findClass_of_methodNamed B.named
  have hlocks := B.notSynchronized
  subst hsz
  have hD := hD0.self (sz := s.heap.size)
  generalize hAe : va_A [(aS, .inr (4, [.ref aR, .ref aSj, .ref aSl, .ref aSs, .ref aSo, .int (nI sn), .int (nI st), .int (nI sb), .int (nI sx)])), (aSl, .inl (cI, 9216, .inl (nF sl))), (aSj, .inl (cI, 324, .inl (nF sj))), (aR, .inr (2, [.ref aRb, .ref aRr, .ref aRa])), (aRa, .inl (cI, 9, .inl (nF ra)))] s.heap.size = A at hD ⊢
  have hA : ∀ q : Nat, s.heap.size ≤ q → A q := fun q h => by rw [← hAe]; exact Or.inr h
  have hS : va_S A s.heap s.heap [] := va_S.rf
  have hl := lv_entry ([.ref aS, .int (nI q1), .int (bhN q2), .int (nI q3)]) (n := 9) (Nat.le_of_ble_eq_true rfl)
  rw [lg_entry_eq]
  generalize (lg_sl ([.ref aS, .int (nI q1), .int (bhN q2), .int (nI q3)]) ++ List.replicate (9 - (lg_sl ([.ref aS, .int (nI q1), .int (bhN q2), .int (nI q3)])).length) Slot.unset).toArray = ls at hl ⊢
  have hl : lv_has ls 9 [(0, .ref aS), (1, .int (nI q1)), (2, .int (bhN q2)), (3, .int (nI q3))] := hl
  have hen := m_ends_lt ra q1 q2 h1
  have CUT20 : ∀ (ls : Array Slot), lv_has ls 9 [(0, .ref aS), (1, .int (nI q1)), (2, .int (bhN q2)), (3, .int (nI q3))] → W p l e { frames := 2, cells := 0, slots := 0, locals := 43 } s m [.ref aS, .int (nI q1), .int (bhN q2), .int (nI q3)].toArray below meth c s.heap [] 0 0 (MQ below (va_Qi (fun (r : Int32) (sxz : (Nat)) => ∃ z pcz, r = nI z ∧ z ≤ 17 ∧ sxz ≤ 1000000 ∧ (z, pcz, sxz) = m_pick sl sj (m_ends ra q1 q2) q1 q2 q3 sx (2 * sn)) (fun (sxz : (Nat)) (t : State) => va_P (dC, dI) vwCl [(aS, .inr (4, [.ref aR, .ref aSj, .ref aSl, .ref aSs, .ref aSo, .int (nI sn), .int (nI st), .int (nI sb), .int (nI sxz)])), (aSl, .inl (cI, 9216, .inl (nF sl))), (aSj, .inl (cI, 324, .inl (nF sj))), (aR, .inr (2, [.ref aRb, .ref aRr, .ref aRa])), (aRa, .inl (cI, 9, .inl (nF ra)))] t.heap ∧ va_D A [(aS, .inr (4, [.ref aR, .ref aSj, .ref aSl, .ref aSs, .ref aSo, .int (nI sn), .int (nI st), .int (nI sb), .int (nI sxz)])), (aSl, .inl (cI, 9216, .inl (nF sl))), (aSj, .inl (cI, 324, .inl (nF sj))), (aR, .inr (2, [.ref aRb, .ref aRr, .ref aRa])), (aRa, .inl (cI, 9, .inl (nF ra)))]) A) [.ref aS, .int (nI q1), .int (bhN q2), .int (nI q3)].toArray s 0 0 A) (F0 m 20 ls [.int (nI (m_ends ra q1 q2))]) := by
    intro ls hl
    refine lv_istore (lv' := [(4, .int (nI (m_ends ra q1 q2))), (0, .ref aS), (1, .int (nI q1)), (2, .int (bhN q2)), (3, .int (nI q3))]) hx hb dX4_pick_20 hl (by decide) rfl (fun ls hl => ?_)
    refine lv_iconst (v := nI 0) hx hb dX4_pick_22 (by decide) ?_
    refine lv_istore (lv' := [(5, .int (nI 0)), (4, .int (nI (m_ends ra q1 q2))), (0, .ref aS), (1, .int (nI q1)), (2, .int (bhN q2)), (3, .int (nI q3))]) hx hb dX4_pick_23 hl (by decide) rfl (fun ls hl => ?_)
    refine lv_ldc (v := nI 1000000) hx hb hown (hts (.constant RX4 44 (1000000)) mX4_pick_0) dX4_pick_25 ?_
    refine lv_istore (lv' := [(6, .int (nI 1000000)), (5, .int (nI 0)), (4, .int (nI (m_ends ra q1 q2))), (0, .ref aS), (1, .int (nI q1)), (2, .int (bhN q2)), (3, .int (nI q3))]) hx hb dX4_pick_27 hl (by decide) rfl (fun ls hl => ?_)
    refine lv_iconst (v := nI 0) hx hb dX4_pick_29 (by decide) ?_
    refine lv_istore (lv' := [(7, .int (nI 0)), (6, .int (nI 1000000)), (5, .int (nI 0)), (4, .int (nI (m_ends ra q1 q2))), (0, .ref aS), (1, .int (nI q1)), (2, .int (bhN q2)), (3, .int (nI q3))]) hx hb dX4_pick_30 hl (by decide) rfl (fun ls hl => ?_)
    have LP32 : ∀ (n32 : Nat) (i : Nat) (pk : Nat) (pcs : Nat) (nx : Nat), 2 * sn - i < n32 → (i ≤ 2 * sn) → (pk ≤ 17) → (pcs ≤ 1000000) → (nx ≤ 1000000) → ((pk, pcs, nx) = m_pick sl sj (m_ends ra q1 q2) q1 q2 q3 sx i) → ∀ (H : Heap) (locs : List Loc), va_P (dC, dI) vwCl [(aS, .inr (4, [.ref aR, .ref aSj, .ref aSl, .ref aSs, .ref aSo, .int (nI sn), .int (nI st), .int (nI sb), .int (nI nx)])), (aSl, .inl (cI, 9216, .inl (nF sl))), (aSj, .inl (cI, 324, .inl (nF sj))), (aR, .inr (2, [.ref aRb, .ref aRr, .ref aRa])), (aRa, .inl (cI, 9, .inl (nF ra)))] H → va_D A [(aS, .inr (4, [.ref aR, .ref aSj, .ref aSl, .ref aSs, .ref aSo, .int (nI sn), .int (nI st), .int (nI sb), .int (nI nx)])), (aSl, .inl (cI, 9216, .inl (nF sl))), (aSj, .inl (cI, 324, .inl (nF sj))), (aR, .inr (2, [.ref aRb, .ref aRr, .ref aRa])), (aRa, .inl (cI, 9, .inl (nF ra)))] → va_S A s.heap H locs → ∀ (ls : Array Slot), lv_has ls 9 [(0, .ref aS), (1, .int (nI q1)), (2, .int (bhN q2)), (3, .int (nI q3)), (4, .int (nI (m_ends ra q1 q2))), (5, .int (nI pk)), (6, .int (nI pcs)), (7, .int (nI i))] → W p l e { frames := 2, cells := 0, slots := 0, locals := 43 } s m [.ref aS, .int (nI q1), .int (bhN q2), .int (nI q3)].toArray below meth c H locs 0 0 (MQ below (va_Qi (fun (r : Int32) (sxz : (Nat)) => ∃ z pcz, r = nI z ∧ z ≤ 17 ∧ sxz ≤ 1000000 ∧ (z, pcz, sxz) = m_pick sl sj (m_ends ra q1 q2) q1 q2 q3 sx (2 * sn)) (fun (sxz : (Nat)) (t : State) => va_P (dC, dI) vwCl [(aS, .inr (4, [.ref aR, .ref aSj, .ref aSl, .ref aSs, .ref aSo, .int (nI sn), .int (nI st), .int (nI sb), .int (nI sxz)])), (aSl, .inl (cI, 9216, .inl (nF sl))), (aSj, .inl (cI, 324, .inl (nF sj))), (aR, .inr (2, [.ref aRb, .ref aRr, .ref aRa])), (aRa, .inl (cI, 9, .inl (nF ra)))] t.heap ∧ va_D A [(aS, .inr (4, [.ref aR, .ref aSj, .ref aSl, .ref aSs, .ref aSo, .int (nI sn), .int (nI st), .int (nI sb), .int (nI sxz)])), (aSl, .inl (cI, 9216, .inl (nF sl))), (aSj, .inl (cI, 324, .inl (nF sj))), (aR, .inr (2, [.ref aRb, .ref aRr, .ref aRa])), (aRa, .inl (cI, 9, .inl (nF ra)))]) A) [.ref aS, .int (nI q1), .int (bhN q2), .int (nI q3)].toArray s 0 0 A) (F0 m 32 ls []) := by
      intro n32
      induction n32 with
      | zero =>
        intro i pk pcs nx hm
        exact absurd hm (Nat.not_lt_zero _)
      | succ n32 ih32 =>
        intro i pk pcs nx hm32  hi hk17 hpc hnx hq1 H locs hP hD hS ls hl
        refine lv_iload hx hb dX4_pick_32 (lv_at hl 7 rfl) ?_
        refine lv_iconst (v := nI 2) hx hb dX4_pick_34 (by decide) ?_
        refine lv_aload_n hx hb dX4_pick_35 rfl (lv_at hl 0 rfl) ?_
        refine va_get (D := (dC, dI)) (ci := 4) (v := .int (nI sn)) (C := RX4) (T := TX4) (N := 9) hx hb hts mX4_pick_inX4 hown hK hP 0 rfl rfl 5 (by decide) (hts (.fieldLink RX4 40 "LeafOrder$Search" "count" "I") mX4_pick_1) (fun _ h9 => h9) rfl dX4_pick_36 ?_
        refine ln_imul hx hb dX4_pick_39 ?_
        refine ln_icmp_ge (tgt := 129) hx hb dX4_pick_40 (by decide) (by omega) (by omega) (fun c_1 => ?_) (fun c_1 => ?_)
        · refine lv_iload hx hb dX4_pick_129 (lv_at hl 5 rfl) ?_
          exact W.iret (v := (nI pk)) hx hb hr (fun t ht hW => ⟨⟨(nI pk), nx, rfl, ⟨_, _, rfl, hk17, hnx, (by rw [hq1, show i = 2 * sn by omega])⟩, by rw [ht]; exact hP, hD⟩, hS.F ht⟩) hS.2.2 dX4_pick_131
        · refine lv_iload hx hb dX4_pick_43 (lv_at hl 4 rfl) ?_
          refine lv_iload hx hb dX4_pick_45 (lv_at hl 7 rfl) ?_
          refine lv_iconst (v := nI 1) hx hb dX4_pick_47 (by decide) ?_
          refine ln_ishr hx hb dX4_pick_48 (by omega) (by omega) ?_
          refine ln_ishr hx hb dX4_pick_49 (by omega) (by omega) ?_
          refine lv_iconst (v := nI 1) hx hb dX4_pick_50 (by decide) ?_
          refine ln_iand hx hb dX4_pick_51 ?_
          refine ln_if_eq (tgt := 123) hx hb dX4_pick_52 (by decide) (ln_b31 _) (fun c_2 => ?_) (fun c_2 => ?_)
          · refine lv_iinc (v := (nI (i + 1))) (lv' := [(7, .int (nI (i + 1))), (0, .ref aS), (1, .int (nI q1)), (2, .int (bhN q2)), (3, .int (nI q3)), (4, .int (nI (m_ends ra q1 q2))), (5, .int (nI pk)), (6, .int (nI pcs))]) hx hb dX4_pick_123 hl (k := 7) rfl (by first | exact nI_1 _ | rfl) (by decide) rfl (fun ls hl => ?_)
            refine lv_goto (tgt := 32) hx hb dX4_pick_126 (by decide) ?_
            exact ih32 (i + 1) pk pcs nx (by omega)  (by omega) (by omega) (by omega) (by omega) (by rw [m_pick, if_pos c_2]; exact hq1) _ _ hP hD hS ls (lv_sub hl [1, 2, 3, 4, 5, 6, 7, 0] rfl)
          · refine lv_aload_n hx hb dX4_pick_55 rfl (lv_at hl 0 rfl) ?_
            refine va_get (D := (dC, dI)) (ci := 4) (v := .ref aSl) (C := RX4) (T := TX4) (N := 9) hx hb hts mX4_pick_inX4 hown hK hP 0 rfl rfl 2 (by decide) (hts (.fieldLink RX4 15 "LeafOrder$Search" "least" "[I") mX4_pick_3) (fun _ h9 => h9) rfl dX4_pick_56 ?_
            refine lv_iload_n hx hb dX4_pick_59 rfl (lv_at hl 1 rfl) ?_
            refine lv_bipush (v := nI 18) hx hb dX4_pick_60 (by decide) ?_
            refine ln_imul hx hb dX4_pick_62 ?_
            refine lv_iload hx hb dX4_pick_63 (lv_at hl 7 rfl) ?_
            refine ln_iadd hx hb dX4_pick_65 ?_
            refine ln_iald (i := (q1 * 18) + i) hx hb hK hP 1 0 rfl rfl (by omega) (by decide) dX4_pick_66 ?_
            have b_3 := bSl ((q1 * 18) + i)
            refine lv_aload_n hx hb dX4_pick_67 rfl (lv_at hl 0 rfl) ?_
            refine lv_iload hx hb dX4_pick_68 (lv_at hl 7 rfl) ?_
            refine lv_iload_n hx hb dX4_pick_70 rfl (lv_at hl 2 rfl) ?_
            have hPc := hP.sub (ws' := [(aS, .inr (4, [.ref aR, .ref aSj, .ref aSl, .ref aSs, .ref aSo, .int (nI sn), .int (nI st), .int (nI sb), .int (nI nx)])), (aSj, .inl (cI, 324, .inl (nF sj)))]) [0, 2] rfl
            refine vp_callSi (W.runV (As := [.int (nI i), .int (bhN q2)]) (rest := [.int (nI (sl ((q1 * 18) + i)))]) ⟨hx, hb, hml, hown, hts⟩ (k_X4_linkCost l dC dI cI cZ aS aR aSj aSl aSs aSo sn st sb nx sj i q2 bSj (by omega) (by omega)) (cwV 2 hts gX4_pick_X4_linkCost rfl rfl rfl (by decide +kernel) ⟨Nat.le_of_ble_eq_true rfl, Nat.le_of_ble_eq_true rfl⟩) (ln_preV (q0 := 0) (ci := 4) hPc hKK rfl rfl) rfl rfl hl.1 rfl (lv_room (Nat.le_of_ble_eq_true rfl)) dX4_pick_71 ⟨Nat.le_of_ble_eq_true rfl, Nat.le_of_ble_eq_true rfl⟩) (fun r_4 w_5 => ?_)
            subst w_5
            refine ln_iadd hx hb dX4_pick_74 ?_
            have hlk := m_link_le bSj i q2
            refine lv_iload_n hx hb dX4_pick_75 rfl (lv_at hl 3 rfl) ?_
            refine ln_iadd hx hb dX4_pick_76 ?_
            refine lv_istore (lv' := [(8, .int (nI (((sl ((q1 * 18) + i)) + (m_link sj i q2)) + q3))), (0, .ref aS), (1, .int (nI q1)), (2, .int (bhN q2)), (3, .int (nI q3)), (4, .int (nI (m_ends ra q1 q2))), (5, .int (nI pk)), (6, .int (nI pcs)), (7, .int (nI i))]) hx hb dX4_pick_77 hl (by decide) rfl (fun ls hl => ?_)
            refine lv_iload hx hb dX4_pick_79 (lv_at hl 0 rfl) ?_
            refine lv_iload hx hb dX4_pick_81 (lv_at hl 7 rfl) ?_
            refine ln_icmp_ge (tgt := 110) hx hb dX4_pick_83 (by decide) (by omega) (by omega) (fun c_6 => ?_) (fun c_6 => ?_)
            · refine lv_aload_n hx hb dX4_pick_110 rfl (lv_at hl 1 rfl) ?_
              refine lv_aload_n hx hb dX4_pick_111 rfl (lv_at hl 1 rfl) ?_
              refine va_get (D := (dC, dI)) (ci := 4) (v := .int (nI nx)) (C := RX4) (T := TX4) (N := 9) hx hb hts mX4_pick_inX4 hown hK hP 0 rfl rfl 8 (by decide) (hts (.fieldLink RX4 67 "LeafOrder$Search" "nextCost" "I") mX4_pick_4) (fun _ h9 => h9) rfl dX4_pick_112 ?_
              refine lv_iload hx hb dX4_pick_115 (lv_at hl 0 rfl) ?_
              refine ln_mmin (x := nx) (y := ((sl ((q1 * 18) + i)) + (m_link sj i q2)) + q3) hx hb (by rw [hml]; exact hl.1.symm) hown (hts (.methodLink RX4 93 Lib.Math.min.name) mX4_pick_5) (hts (.static Lib.Math.min.name) mX4_pick_6) (hts (.initialized "java/lang/Math") mX4_pick_7) (hts (.code Lib.Math.min.name Lib.Math.min.code 2 (some .int)) mX4_pick_8) (Nat.le_of_ble_eq_true rfl) (Nat.le_of_ble_eq_true rfl) (Nat.zero_le _) (Nat.zero_le _) (by omega) (by omega) dX4_pick_117 ?_
              refine va_put (D := (dC, dI)) (ci := 4) (v := .int (nI (min nx (((sl ((q1 * 18) + i)) + (m_link sj i q2)) + q3)))) (ty := .int) (C := RX4) (T := TX4) (N := 9) hx hb hts mX4_pick_inX4 tyX4 tyX4_ok nmX4 hown hK hP hD hS 0 rfl rfl 8 (by decide) (hts (.fieldLink RX4 67 "LeafOrder$Search" "nextCost" "I") mX4_pick_4) (fun _ h9 => h9) rfl (by decide +kernel) rfl rfl (Nat.le_of_ble_eq_true rfl) dX4_pick_120 (fun H locs hP hD hS => ?_)
              have hP : va_P (dC, dI) vwCl [(aS, .inr (4, [.ref aR, .ref aSj, .ref aSl, .ref aSs, .ref aSo, .int (nI sn), .int (nI st), .int (nI sb), .int (nI (min nx (((sl ((q1 * 18) + i)) + (m_link sj i q2)) + q3)))])), (aSl, .inl (cI, 9216, .inl (nF sl))), (aSj, .inl (cI, 324, .inl (nF sj))), (aR, .inr (2, [.ref aRb, .ref aRr, .ref aRa])), (aRa, .inl (cI, 9, .inl (nF ra)))] H := hP
              have hD : va_D A [(aS, .inr (4, [.ref aR, .ref aSj, .ref aSl, .ref aSs, .ref aSo, .int (nI sn), .int (nI st), .int (nI sb), .int (nI (min nx (((sl ((q1 * 18) + i)) + (m_link sj i q2)) + q3)))])), (aSl, .inl (cI, 9216, .inl (nF sl))), (aSj, .inl (cI, 324, .inl (nF sj))), (aR, .inr (2, [.ref aRb, .ref aRr, .ref aRa])), (aRa, .inl (cI, 9, .inl (nF ra)))] := hD
              refine lv_iinc (v := (nI (i + 1))) (lv' := [(7, .int (nI (i + 1))), (8, .int (nI (((sl ((q1 * 18) + i)) + (m_link sj i q2)) + q3))), (0, .ref aS), (1, .int (nI q1)), (2, .int (bhN q2)), (3, .int (nI q3)), (4, .int (nI (m_ends ra q1 q2))), (5, .int (nI pk)), (6, .int (nI pcs))]) hx hb dX4_pick_123 hl (k := 8) rfl (by first | exact nI_1 _ | rfl) (by decide) rfl (fun ls hl => ?_)
              refine lv_goto (tgt := 32) hx hb dX4_pick_126 (by decide) ?_
              exact ih32 (i + 1) pk pcs (min nx (((sl ((q1 * 18) + i)) + (m_link sj i q2)) + q3)) (by omega)  (by omega) (by omega) (by omega) (by omega) (by rw [m_pick, if_neg c_2, ← hq1, m_pst]; exact (if_neg (Nat.not_lt.mpr c_6)).symm) _ _ hP hD hS ls (lv_sub hl [2, 3, 4, 5, 6, 7, 8, 0] rfl)
            · refine lv_aload_n hx hb dX4_pick_86 rfl (lv_at hl 1 rfl) ?_
              refine lv_aload_n hx hb dX4_pick_87 rfl (lv_at hl 1 rfl) ?_
              refine va_get (D := (dC, dI)) (ci := 4) (v := .int (nI nx)) (C := RX4) (T := TX4) (N := 9) hx hb hts mX4_pick_inX4 hown hK hP 0 rfl rfl 8 (by decide) (hts (.fieldLink RX4 67 "LeafOrder$Search" "nextCost" "I") mX4_pick_4) (fun _ h9 => h9) rfl dX4_pick_88 ?_
              refine lv_iload hx hb dX4_pick_91 (lv_at hl 7 rfl) ?_
              refine ln_mmin (x := nx) (y := pcs) hx hb (by rw [hml]; exact hl.1.symm) hown (hts (.methodLink RX4 93 Lib.Math.min.name) mX4_pick_5) (hts (.static Lib.Math.min.name) mX4_pick_6) (hts (.initialized "java/lang/Math") mX4_pick_7) (hts (.code Lib.Math.min.name Lib.Math.min.code 2 (some .int)) mX4_pick_8) (Nat.le_of_ble_eq_true rfl) (Nat.le_of_ble_eq_true rfl) (Nat.zero_le _) (Nat.zero_le _) (by omega) (by omega) dX4_pick_93 ?_
              refine va_put (D := (dC, dI)) (ci := 4) (v := .int (nI (min nx pcs))) (ty := .int) (C := RX4) (T := TX4) (N := 9) hx hb hts mX4_pick_inX4 tyX4 tyX4_ok nmX4 hown hK hP hD hS 0 rfl rfl 8 (by decide) (hts (.fieldLink RX4 67 "LeafOrder$Search" "nextCost" "I") mX4_pick_4) (fun _ h9 => h9) rfl (by decide +kernel) rfl rfl (Nat.le_of_ble_eq_true rfl) dX4_pick_96 (fun H locs hP hD hS => ?_)
              have hP : va_P (dC, dI) vwCl [(aS, .inr (4, [.ref aR, .ref aSj, .ref aSl, .ref aSs, .ref aSo, .int (nI sn), .int (nI st), .int (nI sb), .int (nI (min nx pcs))])), (aSl, .inl (cI, 9216, .inl (nF sl))), (aSj, .inl (cI, 324, .inl (nF sj))), (aR, .inr (2, [.ref aRb, .ref aRr, .ref aRa])), (aRa, .inl (cI, 9, .inl (nF ra)))] H := hP
              have hD : va_D A [(aS, .inr (4, [.ref aR, .ref aSj, .ref aSl, .ref aSs, .ref aSo, .int (nI sn), .int (nI st), .int (nI sb), .int (nI (min nx pcs))])), (aSl, .inl (cI, 9216, .inl (nF sl))), (aSj, .inl (cI, 324, .inl (nF sj))), (aR, .inr (2, [.ref aRb, .ref aRr, .ref aRa])), (aRa, .inl (cI, 9, .inl (nF ra)))] := hD
              refine lv_iload hx hb dX4_pick_99 (lv_at hl 8 rfl) ?_
              refine lv_istore (lv' := [(5, .int (nI i)), (8, .int (nI (((sl ((q1 * 18) + i)) + (m_link sj i q2)) + q3))), (0, .ref aS), (1, .int (nI q1)), (2, .int (bhN q2)), (3, .int (nI q3)), (4, .int (nI (m_ends ra q1 q2))), (6, .int (nI pcs)), (7, .int (nI i))]) hx hb dX4_pick_101 hl (by decide) rfl (fun ls hl => ?_)
              refine lv_iload hx hb dX4_pick_103 (lv_at hl 1 rfl) ?_
              refine lv_istore (lv' := [(6, .int (nI (((sl ((q1 * 18) + i)) + (m_link sj i q2)) + q3))), (5, .int (nI i)), (8, .int (nI (((sl ((q1 * 18) + i)) + (m_link sj i q2)) + q3))), (0, .ref aS), (1, .int (nI q1)), (2, .int (bhN q2)), (3, .int (nI q3)), (4, .int (nI (m_ends ra q1 q2))), (7, .int (nI i))]) hx hb dX4_pick_105 hl (by decide) rfl (fun ls hl => ?_)
              refine lv_goto (tgt := 123) hx hb dX4_pick_107 (by decide) ?_
              refine lv_iinc (v := (nI (i + 1))) (lv' := [(7, .int (nI (i + 1))), (6, .int (nI (((sl ((q1 * 18) + i)) + (m_link sj i q2)) + q3))), (5, .int (nI i)), (8, .int (nI (((sl ((q1 * 18) + i)) + (m_link sj i q2)) + q3))), (0, .ref aS), (1, .int (nI q1)), (2, .int (bhN q2)), (3, .int (nI q3)), (4, .int (nI (m_ends ra q1 q2)))]) hx hb dX4_pick_123 hl (k := 8) rfl (by first | exact nI_1 _ | rfl) (by decide) rfl (fun ls hl => ?_)
              refine lv_goto (tgt := 32) hx hb dX4_pick_126 (by decide) ?_
              exact ih32 (i + 1) i (((sl ((q1 * 18) + i)) + (m_link sj i q2)) + q3) (min nx pcs) (by omega)  (by omega) (by omega) (by omega) (by omega) (by rw [m_pick, if_neg c_2, ← hq1, m_pst]; exact (if_pos c_6).symm) _ _ hP hD hS ls (lv_sub hl [4, 5, 6, 7, 8, 2, 1, 0] rfl)
    exact LP32 _ 0 0 1000000 sx (Nat.lt_succ_self _)  (Nat.zero_le _) (by decide) (by decide) hsx rfl _ _ hP hD hS ls (lv_sub hl [4, 5, 6, 7, 3, 2, 1, 0] rfl)
  rcases Nat.lt_or_ge q2 18 with hq | hq
  · have hl : lv_has ls 9 [(0, .ref aS), (1, .int (nI q1)), (2, .int (nI q2)), (3, .int (nI q3))] := by rw [bhN_lt hq] at hl; exact hl
    refine lv_iload_n hx hb dX4_pick_0 rfl (lv_at hl 2 rfl) ?_
    refine lv_iconst (v := (-1)) hx hb dX4_pick_1 (by decide) ?_
    refine ln_icmp_neT (tgt := 9) hx hb dX4_pick_2 (by decide) (ln_nm1 (by omega)) ?_
    refine lv_aload_n hx hb dX4_pick_9 rfl (lv_at hl 0 rfl) ?_
    refine va_get (D := (dC, dI)) (ci := 4) (v := .ref aR) (C := RX4) (T := TX4) (N := 9) hx hb hts mX4_pick_inX4 hown hK hP 0 rfl rfl 0 (by decide) (hts (.fieldLink RX4 24 "LeafOrder$Search" "rules" "LLeafOrder$Rules;") mX4_pick_9) (fun _ h9 => h9) rfl dX4_pick_10 ?_
    refine lv_iload_n hx hb dX4_pick_13 rfl (lv_at hl 2 rfl) ?_
    refine lv_iconst (v := nI 1) hx hb dX4_pick_14 (by decide) ?_
    refine ln_ishr hx hb dX4_pick_15 (by omega) (by omega) ?_
    refine lv_iload_n hx hb dX4_pick_16 rfl (lv_at hl 1 rfl) ?_
    have hPc := hP.sub (ws' := [(aR, .inr (2, [.ref aRb, .ref aRr, .ref aRa])), (aRa, .inl (cI, 9, .inl (nF ra)))]) [3, 4] rfl
    refine vp_callSi (W.runV (As := [.int (nI (q2 >>> 1)), .int (nI q1)]) (rest := []) ⟨hx, hb, hml, hown, hts⟩ (k_X2_neighboursOf l dC dI cI cZ aR aRb aRr aRa ra (q2 >>> 1) q1 bRa (by omega) (by omega)) (cwV 2 hts gX4_pick_X2_neighboursOf rfl rfl rfl (by decide +kernel) ⟨Nat.le_of_ble_eq_true rfl, Nat.le_of_ble_eq_true rfl⟩) (ln_preV (q0 := 0) (ci := 2) hPc hKK rfl rfl) rfl rfl hl.1 rfl (lv_room (Nat.le_of_ble_eq_true rfl)) dX4_pick_17 ⟨Nat.le_of_ble_eq_true rfl, Nat.le_of_ble_eq_true rfl⟩) (fun r_7 w_8 => ?_)
    subst w_8
    refine W.eq (g2 := F0 m 20 ls [.int (nI (m_ends ra q1 q2))]) (by unfold m_ends; rw [if_pos hq]) ?_
    exact CUT20 ls (by rw [bhN_lt hq]; exact lv_sub hl [0, 1, 2, 3] rfl)
  · have hl : lv_has ls 9 [(0, .ref aS), (1, .int (nI q1)), (2, .int (-1)), (3, .int (nI q3))] := by rw [show q2 = 18 by omega, bhN_18] at hl; exact hl
    refine lv_iload_n hx hb dX4_pick_0 rfl (lv_at hl 2 rfl) ?_
    refine lv_iconst (v := (-1)) hx hb dX4_pick_1 (by decide) ?_
    refine ln_icmp_neF (tgt := 9) hx hb dX4_pick_2 (by decide) (fun q => q rfl) ?_
    refine lv_iload_n hx hb dX4_pick_5 rfl (lv_at hl 1 rfl) ?_
    refine lv_goto (tgt := 20) hx hb dX4_pick_6 (by decide) ?_
    refine W.eq (g2 := F0 m 20 ls [.int (nI (m_ends ra q1 q2))]) (by unfold m_ends; rw [if_neg (by omega)]) ?_
    exact CUT20 ls (by rw [show q2 = 18 by omega, bhN_18]; exact lv_sub hl [0, 1, 2, 3] rfl)
theorem mX4_trace_0 : Cond.fieldLink RX4 40 "LeafOrder$Search" "count" "I" ∈ wsX4_trace := by decide +kernel
theorem mX4_trace_inX4 : ∀ w ∈ wsX40, w ∈ wsX4_trace := by decide +kernel
theorem mX4_trace_2 : Cond.fieldLink RX4 21 "LeafOrder$Search" "order" "[I" ∈ wsX4_trace := by decide +kernel
theorem mX4_trace_3 : Cond.fieldLink RX4 45 "LeafOrder$Search" "turnCost" "I" ∈ wsX4_trace := by decide +kernel
set_option maxHeartbeats 4000000 in
set_option maxRecDepth 100000 in
theorem k_X4_trace (l : Launch) (dC : Nat → ClassId) (dI : Nat → Nat → Nat) (cI cZ : ClassId) (aS aR aSj aSl aSs aSo aRb aRr aRa : Nat) (sn : Nat) (st : Nat) (sb : Nat) (sx : Nat) (sl : Nat → Nat) (sj : Nat → Nat) (so : Nat → Nat) (ra : Nat → Nat) (sz : Nat) (bSl : ∀ k, sl k ≤ 1000000) (bSj : ∀ k, sj k ≤ 10000) (bSo : ∀ k, so k ≤ 17) (bRa : ∀ k, ra k ≤ 511) (hn : sn ≤ 9) (ht : st ≤ 1000000) (hsx : sx ≤ 1000000) : Met l yX4_trace wsX4_trace { frames := 3, cells := 0, slots := 0, locals := 71 } (va_Pc [.ref aS] (fun U => U.heap.size = sz ∧ va_P (dC, dI) vwCl [(aS, .inr (4, [.ref aR, .ref aSj, .ref aSl, .ref aSs, .ref aSo, .int (nI sn), .int (nI st), .int (nI sb), .int (nI sx)])), (aSl, .inl (cI, 9216, .inl (nF sl))), (aSj, .inl (cI, 324, .inl (nF sj))), (aSo, .inl (cI, 9, .inl (nF so))), (aR, .inr (2, [.ref aRb, .ref aRr, .ref aRa])), (aRa, .inl (cI, 9, .inl (nF ra)))] U.heap ∧ lK dC dI cI cZ U ∧ va_D (fun _ => True) [(aS, .inr (4, [.ref aR, .ref aSj, .ref aSl, .ref aSs, .ref aSo, .int (nI sn), .int (nI st), .int (nI sb), .int (nI sx)])), (aSl, .inl (cI, 9216, .inl (nF sl))), (aSj, .inl (cI, 324, .inl (nF sj))), (aSo, .inl (cI, 9, .inl (nF so))), (aR, .inr (2, [.ref aRb, .ref aRr, .ref aRa])), (aRa, .inl (cI, 9, .inl (nF ra)))])) (va_Qv (fun (u : (Nat → Nat) × (Nat)) => match u with | (soz, sxz) => (∀ k, soz k ≤ 17) ∧ sxz ≤ 1000000 ∧ ∃ a1 a2 a3, (a1, a2, a3, soz, sxz) = m_trace sl sj ra so sn st sx sn) (fun (u : (Nat → Nat) × (Nat)) (t : State) => match u with | (soz, sxz) => va_P (dC, dI) vwCl [(aS, .inr (4, [.ref aR, .ref aSj, .ref aSl, .ref aSs, .ref aSo, .int (nI sn), .int (nI st), .int (nI sb), .int (nI sxz)])), (aSl, .inl (cI, 9216, .inl (nF sl))), (aSj, .inl (cI, 324, .inl (nF sj))), (aSo, .inl (cI, 9, .inl (nF soz))), (aR, .inr (2, [.ref aRb, .ref aRr, .ref aRa])), (aRa, .inl (cI, 9, .inl (nF ra)))] t.heap ∧ va_D (va_A [(aS, .inr (4, [.ref aR, .ref aSj, .ref aSl, .ref aSs, .ref aSo, .int (nI sn), .int (nI st), .int (nI sb), .int (nI sx)])), (aSl, .inl (cI, 9216, .inl (nF sl))), (aSj, .inl (cI, 324, .inl (nF sj))), (aSo, .inl (cI, 9, .inl (nF so))), (aR, .inr (2, [.ref aRb, .ref aRr, .ref aRa])), (aRa, .inl (cI, 9, .inl (nF ra)))] sz) [(aS, .inr (4, [.ref aR, .ref aSj, .ref aSl, .ref aSs, .ref aSo, .int (nI sn), .int (nI st), .int (nI sb), .int (nI sxz)])), (aSl, .inl (cI, 9216, .inl (nF sl))), (aSj, .inl (cI, 324, .inl (nF sj))), (aSo, .inl (cI, 9, .inl (nF soz))), (aR, .inr (2, [.ref aRb, .ref aRr, .ref aRa])), (aRa, .inl (cI, 9, .inl (nF ra)))]) (va_A [(aS, .inr (4, [.ref aR, .ref aSj, .ref aSl, .ref aSs, .ref aSo, .int (nI sn), .int (nI st), .int (nI sb), .int (nI sx)])), (aSl, .inl (cI, 9216, .inl (nF sl))), (aSj, .inl (cI, 324, .inl (nF sj))), (aSo, .inl (cI, 9, .inl (nF so))), (aR, .inr (2, [.ref aRb, .ref aRr, .ref aRa])), (aRa, .inl (cI, 9, .inl (nF ra)))] sz)) 0 0 (va_A [(aS, .inr (4, [.ref aR, .ref aSj, .ref aSl, .ref aSs, .ref aSo, .int (nI sn), .int (nI st), .int (nI sb), .int (nI sx)])), (aSl, .inl (cI, 9216, .inl (nF sl))), (aSj, .inl (cI, 324, .inl (nF sj))), (aSo, .inl (cI, 9, .inl (nF so))), (aR, .inr (2, [.ref aRb, .ref aRr, .ref aRa])), (aRa, .inl (cI, 9, .inl (nF ra)))] sz) := by
  refine Met.ofW (cc := cX4_trace) (maxL := 6) (ret := none) (by decide) rfl ?_
  intro p e s m args below meth c s₁ B hml hv
  obtain ⟨rfl, hsz, hP, hKK, hD0⟩ := hv
  have hK := hKK.1
  have hx := B.exec
  have hb := B.bytes
  have hr := B.returns
  have hts := atoms_spec (ws := wsX4_trace) B.pre
  have hown : s.vm.findClass RX4 = some m.cls := findClass_of_methodNamed B.named
  have hlocks := B.notSynchronized
  subst hsz
  have hD := hD0.self (sz := s.heap.size)
  generalize hAe : va_A [(aS, .inr (4, [.ref aR, .ref aSj, .ref aSl, .ref aSs, .ref aSo, .int (nI sn), .int (nI st), .int (nI sb), .int (nI sx)])), (aSl, .inl (cI, 9216, .inl (nF sl))), (aSj, .inl (cI, 324, .inl (nF sj))), (aSo, .inl (cI, 9, .inl (nF so))), (aR, .inr (2, [.ref aRb, .ref aRr, .ref aRa])), (aRa, .inl (cI, 9, .inl (nF ra)))] s.heap.size = A at hD ⊢
  have hA : ∀ q : Nat, s.heap.size ≤ q → A q := fun q h => by rw [← hAe]; exact Or.inr h
  have hS : va_S A s.heap s.heap [] := va_S.rf
  have hl := lv_entry ([.ref aS]) (n := 6) (Nat.le_of_ble_eq_true rfl)
  rw [lg_entry_eq]
  generalize (lg_sl ([.ref aS]) ++ List.replicate (6 - (lg_sl ([.ref aS])).length) Slot.unset).toArray = ls at hl ⊢
  have hl : lv_has ls 6 [(0, .ref aS)] := hl
  refine lv_aload_n hx hb dX4_trace_0 rfl (lv_at hl 0 rfl) ?_
  have hPc := hP.sub (ws' := [(aS, .inr (4, [.ref aR, .ref aSj, .ref aSl, .ref aSs, .ref aSo, .int (nI sn), .int (nI st), .int (nI sb), .int (nI sx)]))]) [0] rfl
  refine vp_callSi (W.runV (As := []) (rest := []) ⟨hx, hb, hml, hown, hts⟩ (k_X4_all l dC dI cI cZ aS aR aSj aSl aSs aSo sn st sb sx (by omega)) (cwV 0 hts gX4_trace_X4_all rfl rfl rfl (by decide +kernel) ⟨Nat.le_of_ble_eq_true rfl, Nat.le_of_ble_eq_true rfl⟩) (ln_preV (q0 := 0) (ci := 4) hPc hKK rfl rfl) rfl rfl hl.1 rfl (lv_room (Nat.le_of_ble_eq_true rfl)) dX4_trace_1 ⟨Nat.le_of_ble_eq_true rfl, Nat.le_of_ble_eq_true rfl⟩) (fun r_1 w_2 => ?_)
  subst w_2
  refine lv_istore_n (lv' := [(1, .int (nI (2 ^ sn - 1))), (0, .ref aS)]) hx hb dX4_trace_4 rfl hl (by decide) rfl (fun ls hl => ?_)
  refine lv_iconst (v := (-1)) hx hb dX4_trace_5 (by decide) ?_
  refine lv_istore_n (lv' := [(2, .int (-1)), (1, .int (nI (2 ^ sn - 1))), (0, .ref aS)]) hx hb dX4_trace_6 rfl hl (by decide) rfl (fun ls hl => ?_)
  refine lv_iconst (v := nI 0) hx hb dX4_trace_7 (by decide) ?_
  refine lv_istore_n (lv' := [(3, .int (nI 0)), (2, .int (-1)), (1, .int (nI (2 ^ sn - 1))), (0, .ref aS)]) hx hb dX4_trace_8 rfl hl (by decide) rfl (fun ls hl => ?_)
  refine lv_aload_n hx hb dX4_trace_9 rfl (lv_at hl 3 rfl) ?_
  refine va_get (D := (dC, dI)) (ci := 4) (v := .int (nI sn)) (C := RX4) (T := TX4) (N := 9) hx hb hts mX4_trace_inX4 hown hK hP 0 rfl rfl 5 (by decide) (hts (.fieldLink RX4 40 "LeafOrder$Search" "count" "I") mX4_trace_0) (fun _ h9 => h9) rfl dX4_trace_10 ?_
  refine lv_iconst (v := nI 1) hx hb dX4_trace_13 (by decide) ?_
  refine lv_isub hx hb dX4_trace_14 ?_
  refine lv_istore (lv' := [(4, .int (nI sn - nI 1)), (3, .int (nI 0)), (2, .int (-1)), (1, .int (nI (2 ^ sn - 1))), (0, .ref aS)]) hx hb dX4_trace_15 hl (by decide) rfl (fun ls hl => ?_)
  have hl : lv_has ls 6 [(4, .int (nI sn - nI 1)), (3, .int (nI 0)), (2, .int (bhN 18)), (1, .int (nI (2 ^ sn - 1))), (0, .ref aS)] := hl
  have LP17 : ∀ (n17 : Nat) (p' : Nat) (set : Nat) (b : Nat) (tail : Nat) (sov : Nat → Nat) (nx : Nat), p' < n17 → (∀ k, sov k ≤ 17) → (p' ≤ sn) → (set < 512) → (b ≤ 18) → (tail ≤ (sn - p') * 1010000) → (nx ≤ 1000000) → ((set, b, tail, sov, nx) = m_trace sl sj ra so sn st sx (sn - p')) → ∀ (H : Heap) (locs : List Loc), va_P (dC, dI) vwCl [(aS, .inr (4, [.ref aR, .ref aSj, .ref aSl, .ref aSs, .ref aSo, .int (nI sn), .int (nI st), .int (nI sb), .int (nI nx)])), (aSl, .inl (cI, 9216, .inl (nF sl))), (aSj, .inl (cI, 324, .inl (nF sj))), (aSo, .inl (cI, 9, .inl (nF sov))), (aR, .inr (2, [.ref aRb, .ref aRr, .ref aRa])), (aRa, .inl (cI, 9, .inl (nF ra)))] H → va_D A [(aS, .inr (4, [.ref aR, .ref aSj, .ref aSl, .ref aSs, .ref aSo, .int (nI sn), .int (nI st), .int (nI sb), .int (nI nx)])), (aSl, .inl (cI, 9216, .inl (nF sl))), (aSj, .inl (cI, 324, .inl (nF sj))), (aSo, .inl (cI, 9, .inl (nF sov))), (aR, .inr (2, [.ref aRb, .ref aRr, .ref aRa])), (aRa, .inl (cI, 9, .inl (nF ra)))] → va_S A s.heap H locs → ∀ (ls : Array Slot), lv_has ls 6 [(0, .ref aS), (1, .int (nI set)), (2, .int (bhN b)), (3, .int (nI tail)), (4, .int (nI p' - nI 1))] → W p l e { frames := 3, cells := 0, slots := 0, locals := 71 } s m [.ref aS].toArray below meth c H locs 0 0 (MQ below (va_Qv (fun (u : (Nat → Nat) × (Nat)) => match u with | (soz, sxz) => (∀ k, soz k ≤ 17) ∧ sxz ≤ 1000000 ∧ ∃ a1 a2 a3, (a1, a2, a3, soz, sxz) = m_trace sl sj ra so sn st sx sn) (fun (u : (Nat → Nat) × (Nat)) (t : State) => match u with | (soz, sxz) => va_P (dC, dI) vwCl [(aS, .inr (4, [.ref aR, .ref aSj, .ref aSl, .ref aSs, .ref aSo, .int (nI sn), .int (nI st), .int (nI sb), .int (nI sxz)])), (aSl, .inl (cI, 9216, .inl (nF sl))), (aSj, .inl (cI, 324, .inl (nF sj))), (aSo, .inl (cI, 9, .inl (nF soz))), (aR, .inr (2, [.ref aRb, .ref aRr, .ref aRa])), (aRa, .inl (cI, 9, .inl (nF ra)))] t.heap ∧ va_D A [(aS, .inr (4, [.ref aR, .ref aSj, .ref aSl, .ref aSs, .ref aSo, .int (nI sn), .int (nI st), .int (nI sb), .int (nI sxz)])), (aSl, .inl (cI, 9216, .inl (nF sl))), (aSj, .inl (cI, 324, .inl (nF sj))), (aSo, .inl (cI, 9, .inl (nF soz))), (aR, .inr (2, [.ref aRb, .ref aRr, .ref aRa])), (aRa, .inl (cI, 9, .inl (nF ra)))]) A) [.ref aS].toArray s 0 0 A) (F0 m 17 ls []) := by
    intro n17
    induction n17 with
    | zero =>
      intro p' set b tail sov nx hm
      exact absurd hm (Nat.not_lt_zero _)
    | succ n17 ih17 =>
      intro p' set b tail sov nx hm17 bSov hp hset hb18 htl hnx hq1 H locs hP hD hS ls hl
      refine lv_iload hx hb dX4_trace_17 (lv_at hl 4 rfl) ?_
      refine lv_if_lt (tgt := 80) hx hb dX4_trace_19 (by decide) (fun c_3 => ?_) (fun c_3 => ?_)
      · have hp0 : p' = 0 := pl_neg (by omega) c_3
        exact W.vret hx hb hr (fun t ht hW => ⟨⟨(sov, nx), rfl, ⟨bSov, hnx, _, _, _, (by rw [hq1, show sn - p' = sn by omega])⟩, by rw [ht]; exact hP, hD⟩, hS.F ht⟩) hS.2.2 dX4_trace_80
      · have hp1 : 1 ≤ p' := pl_pos c_3
        obtain ⟨pp, rfl⟩ : ∃ pp, p' = pp + 1 := ⟨p' - 1, by omega⟩
        have hl : lv_has ls 6 [(0, .ref aS), (1, .int (nI set)), (2, .int (bhN b)), (3, .int (nI tail)), (4, .int (nI pp))] := by rw [show nI (pp + 1) - nI 1 = nI pp from by rw [pk_sub (by omega)]; rfl] at hl; exact hl
        refine lv_aload_n hx hb dX4_trace_22 rfl (lv_at hl 0 rfl) ?_
        refine lv_iload_n hx hb dX4_trace_23 rfl (lv_at hl 1 rfl) ?_
        refine lv_iload_n hx hb dX4_trace_24 rfl (lv_at hl 2 rfl) ?_
        refine lv_iload_n hx hb dX4_trace_25 rfl (lv_at hl 3 rfl) ?_
        have hPc := hP.sub (ws' := [(aS, .inr (4, [.ref aR, .ref aSj, .ref aSl, .ref aSs, .ref aSo, .int (nI sn), .int (nI st), .int (nI sb), .int (nI nx)])), (aSl, .inl (cI, 9216, .inl (nF sl))), (aSj, .inl (cI, 324, .inl (nF sj))), (aR, .inr (2, [.ref aRb, .ref aRr, .ref aRa])), (aRa, .inl (cI, 9, .inl (nF ra)))]) [0, 1, 2, 4, 5] rfl
        have hDc := hD.sub (ws' := [(aS, .inr (4, [.ref aR, .ref aSj, .ref aSl, .ref aSs, .ref aSo, .int (nI sn), .int (nI st), .int (nI sb), .int (nI nx)])), (aSl, .inl (cI, 9216, .inl (nF sl))), (aSj, .inl (cI, 324, .inl (nF sj))), (aR, .inr (2, [.ref aRb, .ref aRr, .ref aRa])), (aRa, .inl (cI, 9, .inl (nF ra)))]) [0, 1, 2, 4, 5] (by decide) rfl
        have hFc := va_free (wc := [(aS, .inr (4, [.ref aR, .ref aSj, .ref aSl, .ref aSs, .ref aSo, .int (nI sn), .int (nI st), .int (nI sb), .int (nI nx)])), (aSl, .inl (cI, 9216, .inl (nF sl))), (aSj, .inl (cI, 324, .inl (nF sj))), (aR, .inr (2, [.ref aRb, .ref aRr, .ref aRa])), (aRa, .inl (cI, 9, .inl (nF ra)))]) hD hS hA [0, 1, 2, 4, 5] rfl
        refine va_calli (va_runV (As := [.int (nI set), .int (bhN b), .int (nI tail)]) (rest := []) ⟨hx, hb, hml, hown, hts⟩ (k_X4_pick l dC dI cI cZ aS aR aSj aSl aSs aSo aRb aRr aRa sn st sb nx sl sj ra set b tail H.size bSl bSj bRa (by omega) (by omega) (by omega) (by omega) (by omega)) (cwV 3 hts gX4_trace_X4_pick rfl rfl rfl (by decide +kernel) ⟨Nat.le_of_ble_eq_true rfl, Nat.le_of_ble_eq_true rfl⟩) (ln_preVM (q0 := 0) (ci := 4) hPc hKK hDc rfl rfl) rfl rfl hl.1 rfl (lv_room (Nat.le_of_ble_eq_true rfl)) dX4_trace_26 ⟨Nat.le_of_ble_eq_true rfl, Nat.le_of_ble_eq_true rfl⟩) hS (fun q _ h => hFc q h) hFc (fun r_4 u t H1 locs ht hvm w_5 hB hz1 hk1 hS => ?_)
        obtain ⟨sxz_6, rfl⟩ : ∃ z, z = u := ⟨_, rfl⟩
        obtain ⟨hP1, hD1⟩ := hB
        rw [ht] at hP1
        try dsimp only at w_5
        obtain ⟨hP, hD⟩ := va_join (wr := [(aSo, .inl (cI, 9, .inl (nF sov)))]) (w1 := [(aS, .inr (4, [.ref aR, .ref aSj, .ref aSl, .ref aSs, .ref aSo, .int (nI sn), .int (nI st), .int (nI sb), .int (nI sxz_6)])), (aSl, .inl (cI, 9216, .inl (nF sl))), (aSj, .inl (cI, 324, .inl (nF sj))), (aR, .inr (2, [.ref aRb, .ref aRr, .ref aRa])), (aRa, .inl (cI, 9, .inl (nF ra)))]) hP hD [0, 1, 2, 4, 5] [3] rfl rfl (by decide) (by decide) hk1 hFc hP1 hD1
        generalize H1 = H at hP hS ⊢
        have hP := hP.sub (ws' := [(aS, .inr (4, [.ref aR, .ref aSj, .ref aSl, .ref aSs, .ref aSo, .int (nI sn), .int (nI st), .int (nI sb), .int (nI sxz_6)])), (aSl, .inl (cI, 9216, .inl (nF sl))), (aSj, .inl (cI, 324, .inl (nF sj))), (aSo, .inl (cI, 9, .inl (nF sov))), (aR, .inr (2, [.ref aRb, .ref aRr, .ref aRa])), (aRa, .inl (cI, 9, .inl (nF ra)))]) [1, 2, 3, 0, 4, 5] rfl
        have hD := hD.sub (ws' := [(aS, .inr (4, [.ref aR, .ref aSj, .ref aSl, .ref aSs, .ref aSo, .int (nI sn), .int (nI st), .int (nI sb), .int (nI sxz_6)])), (aSl, .inl (cI, 9216, .inl (nF sl))), (aSj, .inl (cI, 324, .inl (nF sj))), (aSo, .inl (cI, 9, .inl (nF sov))), (aR, .inr (2, [.ref aRb, .ref aRr, .ref aRa])), (aRa, .inl (cI, 9, .inl (nF ra)))]) [1, 2, 3, 0, 4, 5] (by decide) rfl
        obtain ⟨z, pcz, rfl, hz17, hzx, hz⟩ := w_5
        refine lv_istore (lv' := [(5, .int (nI z)), (0, .ref aS), (1, .int (nI set)), (2, .int (bhN b)), (3, .int (nI tail)), (4, .int (nI pp))]) hx hb dX4_trace_29 hl (by decide) rfl (fun ls hl => ?_)
        refine lv_aload_n hx hb dX4_trace_31 rfl (lv_at hl 1 rfl) ?_
        refine va_get (D := (dC, dI)) (ci := 4) (v := .ref aSo) (C := RX4) (T := TX4) (N := 9) hx hb hts mX4_trace_inX4 hown hK hP 0 rfl rfl 4 (by decide) (hts (.fieldLink RX4 21 "LeafOrder$Search" "order" "[I") mX4_trace_2) (fun _ h9 => h9) rfl dX4_trace_32 ?_
        refine lv_iload hx hb dX4_trace_35 (lv_at hl 5 rfl) ?_
        refine lv_iload hx hb dX4_trace_37 (lv_at hl 0 rfl) ?_
        refine ln_iast (i := pp) hx hb hK hP hD hS 3 0 rfl rfl (by omega) (by decide) dX4_trace_39 (fun H locs hP hD hS => ?_)
        have b_7 : ∀ k, (upN sov pp z) k ≤ 17 := upN_le bSov (by omega)
        have hP : va_P (dC, dI) vwCl [(aS, .inr (4, [.ref aR, .ref aSj, .ref aSl, .ref aSs, .ref aSo, .int (nI sn), .int (nI st), .int (nI sb), .int (nI sxz_6)])), (aSl, .inl (cI, 9216, .inl (nF sl))), (aSj, .inl (cI, 324, .inl (nF sj))), (aSo, .inl (cI, 9, .inl (nF (upN sov pp z)))), (aR, .inr (2, [.ref aRb, .ref aRr, .ref aRa])), (aRa, .inl (cI, 9, .inl (nF ra)))] H := hP
        have hD : va_D A [(aS, .inr (4, [.ref aR, .ref aSj, .ref aSl, .ref aSs, .ref aSo, .int (nI sn), .int (nI st), .int (nI sb), .int (nI sxz_6)])), (aSl, .inl (cI, 9216, .inl (nF sl))), (aSj, .inl (cI, 324, .inl (nF sj))), (aSo, .inl (cI, 9, .inl (nF (upN sov pp z)))), (aR, .inr (2, [.ref aRb, .ref aRr, .ref aRa])), (aRa, .inl (cI, 9, .inl (nF ra)))] := hD
        refine lv_iload_n hx hb dX4_trace_40 rfl (lv_at hl 4 rfl) ?_
        refine lv_aload_n hx hb dX4_trace_41 rfl (lv_at hl 1 rfl) ?_
        refine lv_iload hx hb dX4_trace_42 (lv_at hl 0 rfl) ?_
        refine lv_iload_n hx hb dX4_trace_44 rfl (lv_at hl 3 rfl) ?_
        have hPc := hP.sub (ws' := [(aS, .inr (4, [.ref aR, .ref aSj, .ref aSl, .ref aSs, .ref aSo, .int (nI sn), .int (nI st), .int (nI sb), .int (nI sxz_6)])), (aSj, .inl (cI, 324, .inl (nF sj)))]) [0, 2] rfl
        refine vp_callSi (W.runV (As := [.int (nI z), .int (bhN b)]) (rest := [.int (nI tail)]) ⟨hx, hb, hml, hown, hts⟩ (k_X4_linkCost l dC dI cI cZ aS aR aSj aSl aSs aSo sn st sb sxz_6 sj z b bSj (by omega) (by omega)) (cwV 2 hts gX4_trace_X4_linkCost rfl rfl rfl (by decide +kernel) ⟨Nat.le_of_ble_eq_true rfl, Nat.le_of_ble_eq_true rfl⟩) (ln_preV (q0 := 0) (ci := 4) hPc hKK rfl rfl) rfl rfl hl.1 rfl (lv_room (Nat.le_of_ble_eq_true rfl)) dX4_trace_45 ⟨Nat.le_of_ble_eq_true rfl, Nat.le_of_ble_eq_true rfl⟩) (fun r_8 w_9 => ?_)
        subst w_9
        refine lv_iload hx hb dX4_trace_48 (lv_at hl 0 rfl) ?_
        refine lv_iconst (v := nI 1) hx hb dX4_trace_50 (by decide) ?_
        refine ln_iand hx hb dX4_trace_51 ?_
        refine lv_aload_n hx hb dX4_trace_52 rfl (lv_at hl 1 rfl) ?_
        refine va_get (D := (dC, dI)) (ci := 4) (v := .int (nI st)) (C := RX4) (T := TX4) (N := 9) hx hb hts mX4_trace_inX4 hown hK hP 0 rfl rfl 6 (by decide) (hts (.fieldLink RX4 45 "LeafOrder$Search" "turnCost" "I") mX4_trace_3) (fun _ h9 => h9) rfl dX4_trace_53 ?_
        refine ln_imul hx hb dX4_trace_56 ?_
        refine ln_iadd hx hb dX4_trace_57 ?_
        refine ln_iadd hx hb dX4_trace_58 ?_
        refine lv_istore_n (lv' := [(3, .int (nI (tail + ((m_link sj z b) + ((z &&& 1) * st))))), (5, .int (nI z)), (0, .ref aS), (1, .int (nI set)), (2, .int (bhN b)), (4, .int (nI pp))]) hx hb dX4_trace_59 rfl hl (by decide) rfl (fun ls hl => ?_)
        refine lv_iload_n hx hb dX4_trace_60 rfl (lv_at hl 3 rfl) ?_
        refine lv_iconst (v := nI 1) hx hb dX4_trace_61 (by decide) ?_
        refine lv_iload hx hb dX4_trace_62 (lv_at hl 1 rfl) ?_
        refine lv_iconst (v := nI 1) hx hb dX4_trace_64 (by decide) ?_
        refine ln_ishr hx hb dX4_trace_65 (by omega) (by omega) ?_
        refine ln_ishl1 hx hb dX4_trace_66 (by omega) ?_
        refine lv_iconst (v := (-1)) hx hb dX4_trace_67 (by decide) ?_
        refine lv_ixor hx hb dX4_trace_68 ?_
        refine ln_iclr hx hb dX4_trace_69 ?_
        refine lv_istore_n (lv' := [(1, .int (nI (nclr set (2 ^ (z >>> 1))))), (3, .int (nI (tail + ((m_link sj z b) + ((z &&& 1) * st))))), (5, .int (nI z)), (0, .ref aS), (2, .int (bhN b)), (4, .int (nI pp))]) hx hb dX4_trace_70 rfl hl (by decide) rfl (fun ls hl => ?_)
        refine lv_iload hx hb dX4_trace_71 (lv_at hl 2 rfl) ?_
        refine lv_istore_n (lv' := [(2, .int (nI z)), (1, .int (nI (nclr set (2 ^ (z >>> 1))))), (3, .int (nI (tail + ((m_link sj z b) + ((z &&& 1) * st))))), (5, .int (nI z)), (0, .ref aS), (4, .int (nI pp))]) hx hb dX4_trace_73 rfl hl (by decide) rfl (fun ls hl => ?_)
        have hl : lv_has ls 6 [(2, .int (bhN z)), (1, .int (nI (nclr set (2 ^ (z >>> 1))))), (3, .int (nI (tail + ((m_link sj z b) + ((z &&& 1) * st))))), (5, .int (nI z)), (0, .ref aS), (4, .int (nI pp))] := by rw [bhN_lt (show z < 18 by omega)]; exact hl
        have hlk := m_link_le bSj z b
        have hz1 : (z &&& 1) * st ≤ 1000000 := Nat.le_trans (Nat.mul_le_mul_right _ (show z &&& 1 ≤ 1 by rw [Nat.and_one_is_mod]; omega)) (by omega)
        have hcl := nclr_le set (2 ^ (z >>> 1))
        have hk9 : sn - pp = (sn - (pp + 1)) + 1 := by omega
        refine lv_iinc (v := (nI pp - nI 1)) (lv' := [(4, .int (nI pp - nI 1)), (2, .int (bhN z)), (1, .int (nI (nclr set (2 ^ (z >>> 1))))), (3, .int (nI (tail + ((m_link sj z b) + ((z &&& 1) * st))))), (5, .int (nI z)), (0, .ref aS)]) hx hb dX4_trace_74 hl (k := 5) rfl (pl_dec _) (by decide) rfl (fun ls hl => ?_)
        refine lv_goto (tgt := 17) hx hb dX4_trace_77 (by decide) ?_
        exact ih17 pp (nclr set (2 ^ (z >>> 1))) z (tail + ((m_link sj z b) + ((z &&& 1) * st))) (upN sov pp z) sxz_6 (by omega) b_7 (by omega) (by omega) (by omega) (by rw [hk9, Nat.succ_mul]; omega) hzx (by rw [hk9, m_trace, ← hq1]; unfold m_tst m_tz; dsimp only; rw [← hz, show sn - 1 - (sn - (pp + 1)) = pp by omega]) _ _ hP hD hS ls (lv_sub hl [5, 2, 1, 3, 0] rfl)
  exact LP17 _ sn (2 ^ sn - 1) 18 0 so sx (Nat.lt_succ_self _) bSo (Nat.le_refl _) (by have := ln_p9 hn; omega) (Nat.le_refl _) (Nat.zero_le _) hsx (by rw [Nat.sub_self]; rfl) _ _ hP hD hS ls (lv_sub hl [4, 3, 2, 1, 0] rfl)
end
section
theorem mX1_stainsApart_0 : Cond.fieldLink RX1 27 "LeafOrder$Leaves" "stains" "[I" ∈ wsX1_stainsApart := by decide +kernel
theorem mX1_stainsApart_inX1 : ∀ w ∈ wsX10, w ∈ wsX1_stainsApart := by decide +kernel
theorem mX1_stainsApart_2 : Cond.methodLink RX1 42 Lib.Math.abs.name ∈ wsX1_stainsApart := by decide +kernel
theorem mX1_stainsApart_3 : Cond.static Lib.Math.abs.name ∈ wsX1_stainsApart := by decide +kernel
theorem mX1_stainsApart_4 : Cond.initialized "java/lang/Math" ∈ wsX1_stainsApart := by decide +kernel
theorem mX1_stainsApart_5 : Cond.code Lib.Math.abs.name Lib.Math.abs.code 1 (some .int) ∈ wsX1_stainsApart := by decide +kernel
set_option maxHeartbeats 4000000 in
set_option maxRecDepth 100000 in
theorem k_X1_stainsApart (l : Launch) (dC : Nat → ClassId) (dI : Nat → Nat → Nat) (cI cZ : ClassId) (aL aLb aLe aLw aLc aLd aLs : Nat) (nL : Nat) (fs : Nat → Nat) (q1 : Nat) (q2 : Nat) (bLs : ∀ k, fs k ≤ 99) (h1 : q1 < 9) (h2 : q2 < 9) : Met l yX1_stainsApart wsX1_stainsApart { frames := 1, cells := 0, slots := 0, locals := 21 } (va_Pc [.ref aL, .int (nI q1), .int (nI q2)] (fun U => va_P (dC, dI) vwCl [(aL, .inr (1, [.int (nI nL), .ref aLb, .ref aLe, .ref aLw, .ref aLc, .ref aLd, .ref aLs])), (aLs, .inl (cI, 27, .inl (nF fs)))] U.heap ∧ lK dC dI cI cZ U)) (vp_Si (fun r => r = (nI (m_sap fs q1 q2 3)))) 0 0 (fun _ => False) := by
  refine Met.ofW (cc := cX1_stainsApart) (maxL := 5) (ret := (some .int)) (by decide) rfl ?_
  intro p e s m args below meth c s₁ B hml hv
  obtain ⟨rfl, hP, hKK⟩ := hv
  have hK := hKK.1
  have hx := B.exec
  have hb := B.bytes
  have hr := B.returns
  have hts := atoms_spec (ws := wsX1_stainsApart) B.pre
  have hown : s.vm.findClass RX1 = some m.cls := findClass_of_methodNamed B.named
  have hlocks := B.notSynchronized
  have hl := lv_entry ([.ref aL, .int (nI q1), .int (nI q2)]) (n := 5) (Nat.le_of_ble_eq_true rfl)
  rw [lg_entry_eq]
  generalize (lg_sl ([.ref aL, .int (nI q1), .int (nI q2)]) ++ List.replicate (5 - (lg_sl ([.ref aL, .int (nI q1), .int (nI q2)])).length) Slot.unset).toArray = ls at hl ⊢
  have hl : lv_has ls 5 [(0, .ref aL), (1, .int (nI q1)), (2, .int (nI q2))] := hl
  refine lv_iconst (v := nI 0) hx hb dX1_stainsApart_0 (by decide) ?_
  refine lv_istore_n (lv' := [(3, .int (nI 0)), (0, .ref aL), (1, .int (nI q1)), (2, .int (nI q2))]) hx hb dX1_stainsApart_1 rfl hl (by decide) rfl (fun ls hl => ?_)
  refine lv_iconst (v := nI 0) hx hb dX1_stainsApart_2 (by decide) ?_
  refine lv_istore (lv' := [(4, .int (nI 0)), (3, .int (nI 0)), (0, .ref aL), (1, .int (nI q1)), (2, .int (nI q2))]) hx hb dX1_stainsApart_3 hl (by decide) rfl (fun ls hl => ?_)
  have LP5 : ∀ (n5 : Nat) (i : Nat) (acc : Nat), 3 - i < n5 → (i ≤ 3) → (acc = m_sap fs q1 q2 i) → ∀ (ls : Array Slot), lv_has ls 5 [(0, .ref aL), (1, .int (nI q1)), (2, .int (nI q2)), (3, .int (nI acc)), (4, .int (nI i))] → W p l e { frames := 1, cells := 0, slots := 0, locals := 21 } s m [.ref aL, .int (nI q1), .int (nI q2)].toArray below meth c s.heap [] 0 0 (MQ below (vp_Si (fun r => r = (nI (m_sap fs q1 q2 3)))) [.ref aL, .int (nI q1), .int (nI q2)].toArray s 0 0 (fun _ => False)) (F0 m 5 ls []) := by
    intro n5
    induction n5 with
    | zero =>
      intro i acc hm
      exact absurd hm (Nat.not_lt_zero _)
    | succ n5 ih5 =>
      intro i acc hm5  hi hacc ls hl
      refine lv_iload hx hb dX1_stainsApart_5 (lv_at hl 4 rfl) ?_
      refine lv_iconst (v := nI 3) hx hb dX1_stainsApart_7 (by decide) ?_
      refine ln_icmp_ge (tgt := 46) hx hb dX1_stainsApart_8 (by decide) (by omega) (by decide) (fun c_1 => ?_) (fun c_1 => ?_)
      · refine lv_iload_n hx hb dX1_stainsApart_46 rfl (lv_at hl 3 rfl) ?_
        exact W.iret (v := (nI acc)) hx hb hr (fun t ht hW => ⟨(nI acc), rfl, (by rw [hacc, show i = 3 by omega]), ht⟩) (fun _ h => by cases h) dX1_stainsApart_47
      · refine lv_iload_n hx hb dX1_stainsApart_11 rfl (lv_at hl 3 rfl) ?_
        refine lv_aload_n hx hb dX1_stainsApart_12 rfl (lv_at hl 0 rfl) ?_
        refine va_get (D := (dC, dI)) (ci := 1) (v := .ref aLs) (C := RX1) (T := TX1) (N := 7) hx hb hts mX1_stainsApart_inX1 hown hK hP 0 rfl rfl 6 (by decide) (hts (.fieldLink RX1 27 "LeafOrder$Leaves" "stains" "[I") mX1_stainsApart_0) (fun _ h9 => h9) rfl dX1_stainsApart_13 ?_
        refine lv_iconst (v := nI 3) hx hb dX1_stainsApart_16 (by decide) ?_
        refine lv_iload_n hx hb dX1_stainsApart_17 rfl (lv_at hl 1 rfl) ?_
        refine ln_imul hx hb dX1_stainsApart_18 ?_
        refine lv_iload hx hb dX1_stainsApart_19 (lv_at hl 4 rfl) ?_
        refine ln_iadd hx hb dX1_stainsApart_21 ?_
        refine ln_iald (i := (3 * q1) + i) hx hb hK hP 1 0 rfl rfl (by omega) (by decide) dX1_stainsApart_22 ?_
        have b_2 := bLs ((3 * q1) + i)
        refine lv_aload_n hx hb dX1_stainsApart_23 rfl (lv_at hl 0 rfl) ?_
        refine va_get (D := (dC, dI)) (ci := 1) (v := .ref aLs) (C := RX1) (T := TX1) (N := 7) hx hb hts mX1_stainsApart_inX1 hown hK hP 0 rfl rfl 6 (by decide) (hts (.fieldLink RX1 27 "LeafOrder$Leaves" "stains" "[I") mX1_stainsApart_0) (fun _ h9 => h9) rfl dX1_stainsApart_24 ?_
        refine lv_iconst (v := nI 3) hx hb dX1_stainsApart_27 (by decide) ?_
        refine lv_iload_n hx hb dX1_stainsApart_28 rfl (lv_at hl 2 rfl) ?_
        refine ln_imul hx hb dX1_stainsApart_29 ?_
        refine lv_iload hx hb dX1_stainsApart_30 (lv_at hl 4 rfl) ?_
        refine ln_iadd hx hb dX1_stainsApart_32 ?_
        refine ln_iald (i := (3 * q2) + i) hx hb hK hP 1 0 rfl rfl (by omega) (by decide) dX1_stainsApart_33 ?_
        have b_3 := bLs ((3 * q2) + i)
        refine lv_isub hx hb dX1_stainsApart_34 ?_
        refine ln_mabs (x := fs ((3 * q1) + i)) (y := fs ((3 * q2) + i)) hx hb (by rw [hml]; exact hl.1.symm) hown (hts (.methodLink RX1 42 Lib.Math.abs.name) mX1_stainsApart_2) (hts (.static Lib.Math.abs.name) mX1_stainsApart_3) (hts (.initialized "java/lang/Math") mX1_stainsApart_4) (hts (.code Lib.Math.abs.name Lib.Math.abs.code 1 (some .int)) mX1_stainsApart_5) (Nat.le_of_ble_eq_true rfl) (Nat.le_of_ble_eq_true rfl) (Nat.zero_le _) (Nat.zero_le _) (by omega) (by omega) dX1_stainsApart_35 ?_
        refine ln_iadd hx hb dX1_stainsApart_38 ?_
        refine lv_istore_n (lv' := [(3, .int (nI (acc + (m_dist (fs ((3 * q1) + i)) (fs ((3 * q2) + i)))))), (0, .ref aL), (1, .int (nI q1)), (2, .int (nI q2)), (4, .int (nI i))]) hx hb dX1_stainsApart_39 rfl hl (by decide) rfl (fun ls hl => ?_)
        refine lv_iinc (v := (nI (i + 1))) (lv' := [(4, .int (nI (i + 1))), (3, .int (nI (acc + (m_dist (fs ((3 * q1) + i)) (fs ((3 * q2) + i)))))), (0, .ref aL), (1, .int (nI q1)), (2, .int (nI q2))]) hx hb dX1_stainsApart_40 hl (k := 4) rfl (by first | exact nI_1 _ | rfl) (by decide) rfl (fun ls hl => ?_)
        refine lv_goto (tgt := 5) hx hb dX1_stainsApart_43 (by decide) ?_
        exact ih5 (i + 1) (acc + (m_dist (fs ((3 * q1) + i)) (fs ((3 * q2) + i)))) (by omega)  (by omega) (by rw [m_sap, hacc]) ls (lv_sub hl [2, 3, 4, 1, 0] rfl)
  exact LP5 _ 0 0 (Nat.lt_succ_self _)  (by decide) rfl ls (lv_sub hl [2, 3, 4, 1, 0] rfl)
theorem mX3_fullCost_0 : Cond.fieldLink RX3 15 "LeafOrder$Scale" "pile" "LLeafOrder$Leaves;" ∈ wsX3_fullCost := by decide +kernel
theorem mX3_fullCost_inX3 : ∀ w ∈ wsX30, w ∈ wsX3_fullCost := by decide +kernel
theorem mX3_fullCost_2 : Cond.fieldLink RX3 27 "LeafOrder$Leaves" "begins" "[I" ∈ wsX3_fullCost := by decide +kernel
theorem mX3_fullCost_inX1 : ∀ w ∈ wsX10, w ∈ wsX3_fullCost := by decide +kernel
theorem mX3_fullCost_4 : Cond.fieldLink RX3 32 "LeafOrder$Leaves" "words" "[I" ∈ wsX3_fullCost := by decide +kernel
theorem mX3_fullCost_5 : Cond.fieldLink RX3 9 "LeafOrder$Scale" "sizes" "[I" ∈ wsX3_fullCost := by decide +kernel
theorem mX3_fullCost_6 : Cond.fieldLink RX3 35 "LeafOrder$Leaves" "ends" "[I" ∈ wsX3_fullCost := by decide +kernel
theorem mX3_fullCost_7 : Cond.methodLink RX3 38 Lib.Math.abs.name ∈ wsX3_fullCost := by decide +kernel
theorem mX3_fullCost_8 : Cond.static Lib.Math.abs.name ∈ wsX3_fullCost := by decide +kernel
theorem mX3_fullCost_9 : Cond.initialized "java/lang/Math" ∈ wsX3_fullCost := by decide +kernel
theorem mX3_fullCost_10 : Cond.code Lib.Math.abs.name Lib.Math.abs.code 1 (some .int) ∈ wsX3_fullCost := by decide +kernel
theorem mX3_fullCost_11 : Cond.fieldLink RX3 44 "LeafOrder$Leaves" "cutEnds" "[I" ∈ wsX3_fullCost := by decide +kernel
theorem mX3_fullCost_12 : Cond.fieldLink RX3 47 "LeafOrder$Leaves" "cutBegins" "[I" ∈ wsX3_fullCost := by decide +kernel
set_option maxHeartbeats 4000000 in
set_option maxRecDepth 100000 in
theorem k_X3_fullCost (l : Launch) (dC : Nat → ClassId) (dI : Nat → Nat → Nat) (cI cZ : ClassId) (aC aL aCz aLb aLe aLw aLc aLd aLs : Nat) (fz : Nat → Nat) (nL : Nat) (fb : Nat → Nat) (fe : Nat → Nat) (fw : Nat → Int32) (fc : Nat → Nat) (fd : Nat → Nat) (fs : Nat → Nat) (q1 : Nat) (q2 : Nat) (bCz : ∀ k, fz k ≤ 999) (bLb : ∀ k, fb k ≤ 99) (bLe : ∀ k, fe k ≤ 99) (bLc : ∀ k, fc k ≤ 99) (bLd : ∀ k, fd k ≤ 99) (bLs : ∀ k, fs k ≤ 99) (h1 : q1 < 18) (h2 : q2 < 18) : Met l yX3_fullCost wsX3_fullCost { frames := 2, cells := 0, slots := 0, locals := 45 } (va_Pc [.ref aC, .int (nI q1), .int (nI q2)] (fun U => va_P (dC, dI) vwCl [(aC, .inr (3, [.ref aL, .ref aCz])), (aCz, .inl (cI, 6, .inl (nF fz))), (aL, .inr (1, [.int (nI nL), .ref aLb, .ref aLe, .ref aLw, .ref aLc, .ref aLd, .ref aLs])), (aLb, .inl (cI, 18, .inl (nF fb))), (aLe, .inl (cI, 18, .inl (nF fe))), (aLw, .inl (cI, 18, .inl fw)), (aLc, .inl (cI, 18, .inl (nF fc))), (aLd, .inl (cI, 18, .inl (nF fd))), (aLs, .inl (cI, 27, .inl (nF fs)))] U.heap ∧ lK dC dI cI cZ U)) (vp_Si (fun r => r = (nI (m_full fb fe fw fc fd fs fz q1 q2)))) 0 0 (fun _ => False) := by
  refine Met.ofW (cc := cX3_fullCost) (maxL := 8) (ret := (some .int)) (by decide) rfl ?_
  intro p e s m args below meth c s₁ B hml hv
  obtain ⟨rfl, hP, hKK⟩ := hv
  have hK := hKK.1
  have hx := B.exec
  have hb := B.bytes
  have hr := B.returns
  have hts := atoms_spec (ws := wsX3_fullCost) B.pre
  have hown : s.vm.findClass RX3 = some m.cls := findClass_of_methodNamed B.named
  have hlocks := B.notSynchronized
  have hl := lv_entry ([.ref aC, .int (nI q1), .int (nI q2)]) (n := 8) (Nat.le_of_ble_eq_true rfl)
  rw [lg_entry_eq]
  generalize (lg_sl ([.ref aC, .int (nI q1), .int (nI q2)]) ++ List.replicate (8 - (lg_sl ([.ref aC, .int (nI q1), .int (nI q2)])).length) Slot.unset).toArray = ls at hl ⊢
  have hl : lv_has ls 8 [(0, .ref aC), (1, .int (nI q1)), (2, .int (nI q2))] := hl
  have hx1 : q1 ^^^ 1 < 18 := xor1_lt h1
  refine lv_iload_n hx hb dX3_fullCost_0 rfl (lv_at hl 1 rfl) ?_
  refine lv_iconst (v := nI 1) hx hb dX3_fullCost_1 (by decide) ?_
  refine ln_ixor hx hb dX3_fullCost_2 ?_
  refine lv_istore_n (lv' := [(3, .int (nI (q1 ^^^ 1))), (0, .ref aC), (1, .int (nI q1)), (2, .int (nI q2))]) hx hb dX3_fullCost_3 rfl hl (by decide) rfl (fun ls hl => ?_)
  refine lv_iload_n hx hb dX3_fullCost_4 rfl (lv_at hl 3 rfl) ?_
  refine lv_istore (lv' := [(4, .int (nI q2)), (3, .int (nI (q1 ^^^ 1))), (0, .ref aC), (1, .int (nI q1)), (2, .int (nI q2))]) hx hb dX3_fullCost_5 hl (by decide) rfl (fun ls hl => ?_)
  refine lv_aload_n hx hb dX3_fullCost_7 rfl (lv_at hl 2 rfl) ?_
  refine va_get (D := (dC, dI)) (ci := 3) (v := .ref aL) (C := RX3) (T := TX3) (N := 2) hx hb hts mX3_fullCost_inX3 hown hK hP 0 rfl rfl 0 (by decide) (hts (.fieldLink RX3 15 "LeafOrder$Scale" "pile" "LLeafOrder$Leaves;") mX3_fullCost_0) (fun _ h9 => h9) rfl dX3_fullCost_8 ?_
  refine va_get (D := (dC, dI)) (ci := 1) (v := .ref aLb) (C := RX1) (T := TX1) (N := 7) hx hb hts mX3_fullCost_inX1 hown hK hP 2 rfl rfl 1 (by decide) (hts (.fieldLink RX3 27 "LeafOrder$Leaves" "begins" "[I") mX3_fullCost_2) (fun _ h9 => h9) rfl dX3_fullCost_11 ?_
  refine lv_iload hx hb dX3_fullCost_14 (lv_at hl 0 rfl) ?_
  refine ln_iald (i := q2) hx hb hK hP 3 0 rfl rfl (by omega) (by decide) dX3_fullCost_16 ?_
  have b_1 := bLb q2
  refine lv_istore (lv' := [(5, .int (nI (fb q2))), (4, .int (nI q2)), (3, .int (nI (q1 ^^^ 1))), (0, .ref aC), (1, .int (nI q1)), (2, .int (nI q2))]) hx hb dX3_fullCost_17 hl (by decide) rfl (fun ls hl => ?_)
  refine lv_aload_n hx hb dX3_fullCost_19 rfl (lv_at hl 3 rfl) ?_
  refine va_get (D := (dC, dI)) (ci := 3) (v := .ref aL) (C := RX3) (T := TX3) (N := 2) hx hb hts mX3_fullCost_inX3 hown hK hP 0 rfl rfl 0 (by decide) (hts (.fieldLink RX3 15 "LeafOrder$Scale" "pile" "LLeafOrder$Leaves;") mX3_fullCost_0) (fun _ h9 => h9) rfl dX3_fullCost_20 ?_
  refine va_get (D := (dC, dI)) (ci := 1) (v := .ref aLw) (C := RX1) (T := TX1) (N := 7) hx hb hts mX3_fullCost_inX1 hown hK hP 2 rfl rfl 3 (by decide) (hts (.fieldLink RX3 32 "LeafOrder$Leaves" "words" "[I") mX3_fullCost_4) (fun _ h9 => h9) rfl dX3_fullCost_23 ?_
  refine lv_iload_n hx hb dX3_fullCost_26 rfl (lv_at hl 2 rfl) ?_
  refine ln_ialdI (i := q1 ^^^ 1) hx hb hK hP 5 0 rfl rfl (by omega) (by decide) dX3_fullCost_27 ?_
  refine lv_istore (lv' := [(6, .int (fw (q1 ^^^ 1))), (5, .int (nI (fb q2))), (4, .int (nI q2)), (3, .int (nI (q1 ^^^ 1))), (0, .ref aC), (1, .int (nI q1)), (2, .int (nI q2))]) hx hb dX3_fullCost_28 hl (by decide) rfl (fun ls hl => ?_)
  refine lv_aload_n hx hb dX3_fullCost_30 rfl (lv_at hl 4 rfl) ?_
  refine va_get (D := (dC, dI)) (ci := 3) (v := .ref aCz) (C := RX3) (T := TX3) (N := 2) hx hb hts mX3_fullCost_inX3 hown hK hP 0 rfl rfl 1 (by decide) (hts (.fieldLink RX3 9 "LeafOrder$Scale" "sizes" "[I") mX3_fullCost_5) (fun _ h9 => h9) rfl dX3_fullCost_31 ?_
  refine lv_iconst (v := nI 0) hx hb dX3_fullCost_34 (by decide) ?_
  refine ln_iald (i := 0) hx hb hK hP 1 0 rfl rfl (by omega) (by decide) dX3_fullCost_35 ?_
  have b_2 := bCz 0
  refine lv_iload hx hb dX3_fullCost_36 (lv_at hl 1 rfl) ?_
  refine lv_aload_n hx hb dX3_fullCost_38 rfl (lv_at hl 4 rfl) ?_
  refine va_get (D := (dC, dI)) (ci := 3) (v := .ref aL) (C := RX3) (T := TX3) (N := 2) hx hb hts mX3_fullCost_inX3 hown hK hP 0 rfl rfl 0 (by decide) (hts (.fieldLink RX3 15 "LeafOrder$Scale" "pile" "LLeafOrder$Leaves;") mX3_fullCost_0) (fun _ h9 => h9) rfl dX3_fullCost_39 ?_
  refine va_get (D := (dC, dI)) (ci := 1) (v := .ref aLe) (C := RX1) (T := TX1) (N := 7) hx hb hts mX3_fullCost_inX1 hown hK hP 2 rfl rfl 2 (by decide) (hts (.fieldLink RX3 35 "LeafOrder$Leaves" "ends" "[I") mX3_fullCost_6) (fun _ h9 => h9) rfl dX3_fullCost_42 ?_
  refine lv_iload_n hx hb dX3_fullCost_45 rfl (lv_at hl 3 rfl) ?_
  refine ln_iald (i := q1 ^^^ 1) hx hb hK hP 4 0 rfl rfl (by omega) (by decide) dX3_fullCost_46 ?_
  have b_3 := bLe (q1 ^^^ 1)
  refine lv_isub hx hb dX3_fullCost_47 ?_
  refine ln_mabs (x := fb q2) (y := fe (q1 ^^^ 1)) hx hb (by rw [hml]; exact hl.1.symm) hown (hts (.methodLink RX3 38 Lib.Math.abs.name) mX3_fullCost_7) (hts (.static Lib.Math.abs.name) mX3_fullCost_8) (hts (.initialized "java/lang/Math") mX3_fullCost_9) (hts (.code Lib.Math.abs.name Lib.Math.abs.code 1 (some .int)) mX3_fullCost_10) (Nat.le_of_ble_eq_true rfl) (Nat.le_of_ble_eq_true rfl) (Nat.zero_le _) (Nat.zero_le _) (by omega) (by omega) dX3_fullCost_48 ?_
  refine ln_imul hx hb dX3_fullCost_51 ?_
  refine lv_istore (lv' := [(7, .int (nI ((fz 0) * (m_dist (fb q2) (fe (q1 ^^^ 1)))))), (6, .int (fw (q1 ^^^ 1))), (5, .int (nI (fb q2))), (4, .int (nI q2)), (3, .int (nI (q1 ^^^ 1))), (0, .ref aC), (1, .int (nI q1)), (2, .int (nI q2))]) hx hb dX3_fullCost_52 hl (by decide) rfl (fun ls hl => ?_)
  refine lv_iload hx hb dX3_fullCost_54 (lv_at hl 1 rfl) ?_
  refine lv_iconst (v := (-1)) hx hb dX3_fullCost_56 (by decide) ?_
  refine lv_icmp_eq (tgt := 78) hx hb dX3_fullCost_57 (by decide) (fun c_4 => ?_) (fun c_4 => ?_)
  · refine lv_aload_n hx hb dX3_fullCost_78 rfl (lv_at hl 5 rfl) ?_
    refine va_get (D := (dC, dI)) (ci := 3) (v := .ref aL) (C := RX3) (T := TX3) (N := 2) hx hb hts mX3_fullCost_inX3 hown hK hP 0 rfl rfl 0 (by decide) (hts (.fieldLink RX3 15 "LeafOrder$Scale" "pile" "LLeafOrder$Leaves;") mX3_fullCost_0) (fun _ h9 => h9) rfl dX3_fullCost_79 ?_
    refine va_get (D := (dC, dI)) (ci := 1) (v := .ref aLd) (C := RX1) (T := TX1) (N := 7) hx hb hts mX3_fullCost_inX1 hown hK hP 2 rfl rfl 5 (by decide) (hts (.fieldLink RX3 44 "LeafOrder$Leaves" "cutEnds" "[I") mX3_fullCost_11) (fun _ h9 => h9) rfl dX3_fullCost_82 ?_
    refine lv_iload_n hx hb dX3_fullCost_85 rfl (lv_at hl 4 rfl) ?_
    refine ln_iald (i := q1 ^^^ 1) hx hb hK hP 7 0 rfl rfl (by omega) (by decide) dX3_fullCost_86 ?_
    have b_5 := bLd (q1 ^^^ 1)
    refine lv_aload_n hx hb dX3_fullCost_87 rfl (lv_at hl 5 rfl) ?_
    refine va_get (D := (dC, dI)) (ci := 3) (v := .ref aL) (C := RX3) (T := TX3) (N := 2) hx hb hts mX3_fullCost_inX3 hown hK hP 0 rfl rfl 0 (by decide) (hts (.fieldLink RX3 15 "LeafOrder$Scale" "pile" "LLeafOrder$Leaves;") mX3_fullCost_0) (fun _ h9 => h9) rfl dX3_fullCost_88 ?_
    refine va_get (D := (dC, dI)) (ci := 1) (v := .ref aLc) (C := RX1) (T := TX1) (N := 7) hx hb hts mX3_fullCost_inX1 hown hK hP 2 rfl rfl 4 (by decide) (hts (.fieldLink RX3 47 "LeafOrder$Leaves" "cutBegins" "[I") mX3_fullCost_12) (fun _ h9 => h9) rfl dX3_fullCost_91 ?_
    refine lv_iload hx hb dX3_fullCost_94 (lv_at hl 3 rfl) ?_
    refine ln_iald (i := q2) hx hb hK hP 6 0 rfl rfl (by omega) (by decide) dX3_fullCost_96 ?_
    have b_6 := bLc q2
    refine ln_icmp_eq (tgt := 111) hx hb dX3_fullCost_97 (by decide) (by omega) (by omega) (fun c_7 => ?_) (fun c_7 => ?_)
    · refine lv_iload hx hb dX3_fullCost_111 (lv_at hl 0 rfl) ?_
      refine lv_aload_n hx hb dX3_fullCost_113 rfl (lv_at hl 5 rfl) ?_
      refine va_get (D := (dC, dI)) (ci := 3) (v := .ref aCz) (C := RX3) (T := TX3) (N := 2) hx hb hts mX3_fullCost_inX3 hown hK hP 0 rfl rfl 1 (by decide) (hts (.fieldLink RX3 9 "LeafOrder$Scale" "sizes" "[I") mX3_fullCost_5) (fun _ h9 => h9) rfl dX3_fullCost_114 ?_
      refine lv_iconst (v := nI 1) hx hb dX3_fullCost_117 (by decide) ?_
      refine ln_iald (i := 1) hx hb hK hP 1 0 rfl rfl (by omega) (by decide) dX3_fullCost_118 ?_
      have b_8 := bCz 1
      refine lv_aload_n hx hb dX3_fullCost_119 rfl (lv_at hl 5 rfl) ?_
      refine va_get (D := (dC, dI)) (ci := 3) (v := .ref aL) (C := RX3) (T := TX3) (N := 2) hx hb hts mX3_fullCost_inX3 hown hK hP 0 rfl rfl 0 (by decide) (hts (.fieldLink RX3 15 "LeafOrder$Scale" "pile" "LLeafOrder$Leaves;") mX3_fullCost_0) (fun _ h9 => h9) rfl dX3_fullCost_120 ?_
      refine lv_iload_n hx hb dX3_fullCost_123 rfl (lv_at hl 6 rfl) ?_
      refine lv_iconst (v := nI 1) hx hb dX3_fullCost_124 (by decide) ?_
      refine ln_ishr hx hb dX3_fullCost_125 (by omega) (by omega) ?_
      refine lv_iload_n hx hb dX3_fullCost_126 rfl (lv_at hl 7 rfl) ?_
      refine lv_iconst (v := nI 1) hx hb dX3_fullCost_127 (by decide) ?_
      refine ln_ishr hx hb dX3_fullCost_128 (by omega) (by omega) ?_
      have hPc := hP.sub (ws' := [(aL, .inr (1, [.int (nI nL), .ref aLb, .ref aLe, .ref aLw, .ref aLc, .ref aLd, .ref aLs])), (aLs, .inl (cI, 27, .inl (nF fs)))]) [2, 8] rfl
      refine vp_callSi (W.runV (As := [.int (nI (q1 >>> 1)), .int (nI (q2 >>> 1))]) (rest := [.int (nI (fz 1)), .int (nI ((fz 0) * (m_dist (fb q2) (fe (q1 ^^^ 1)))))]) ⟨hx, hb, hml, hown, hts⟩ (k_X1_stainsApart l dC dI cI cZ aL aLb aLe aLw aLc aLd aLs nL fs (q1 >>> 1) (q2 >>> 1) bLs (by omega) (by omega)) (cwV 2 hts gX3_fullCost_X1_stainsApart rfl rfl rfl (by decide +kernel) ⟨Nat.le_of_ble_eq_true rfl, Nat.le_of_ble_eq_true rfl⟩) (ln_preV (q0 := 0) (ci := 1) hPc hKK rfl rfl) rfl rfl hl.1 rfl (lv_room (Nat.le_of_ble_eq_true rfl)) dX3_fullCost_129 ⟨Nat.le_of_ble_eq_true rfl, Nat.le_of_ble_eq_true rfl⟩) (fun r_9 w_10 => ?_)
      subst w_10
      refine ln_imul hx hb dX3_fullCost_132 ?_
      refine ln_iadd hx hb dX3_fullCost_133 ?_
      exact W.iret (v := (nI (((fz 0) * (m_dist (fb q2) (fe (q1 ^^^ 1)))) + ((fz 1) * (m_sap fs (q1 >>> 1) (q2 >>> 1) 3))))) hx hb hr (fun t ht hW => ⟨(nI (((fz 0) * (m_dist (fb q2) (fe (q1 ^^^ 1)))) + ((fz 1) * (m_sap fs (q1 >>> 1) (q2 >>> 1) 3)))), rfl, (by unfold m_full; rw [if_pos c_4, if_pos c_7] <;> simp only [Nat.add_zero]), ht⟩) (fun _ h => by cases h) dX3_fullCost_134
    · refine lv_iload hx hb dX3_fullCost_100 (lv_at hl 0 rfl) ?_
      refine lv_aload_n hx hb dX3_fullCost_102 rfl (lv_at hl 5 rfl) ?_
      refine va_get (D := (dC, dI)) (ci := 3) (v := .ref aCz) (C := RX3) (T := TX3) (N := 2) hx hb hts mX3_fullCost_inX3 hown hK hP 0 rfl rfl 1 (by decide) (hts (.fieldLink RX3 9 "LeafOrder$Scale" "sizes" "[I") mX3_fullCost_5) (fun _ h9 => h9) rfl dX3_fullCost_103 ?_
      refine lv_iconst (v := nI 3) hx hb dX3_fullCost_106 (by decide) ?_
      refine ln_iald (i := 3) hx hb hK hP 1 0 rfl rfl (by omega) (by decide) dX3_fullCost_107 ?_
      have b_11 := bCz 3
      refine ln_iadd hx hb dX3_fullCost_108 ?_
      refine lv_istore (lv' := [(7, .int (nI (((fz 0) * (m_dist (fb q2) (fe (q1 ^^^ 1)))) + (fz 3)))), (6, .int (fw (q1 ^^^ 1))), (5, .int (nI (fb q2))), (4, .int (nI q2)), (3, .int (nI (q1 ^^^ 1))), (0, .ref aC), (1, .int (nI q1)), (2, .int (nI q2))]) hx hb dX3_fullCost_109 hl (by decide) rfl (fun ls hl => ?_)
      refine lv_iload hx hb dX3_fullCost_111 (lv_at hl 0 rfl) ?_
      refine lv_aload_n hx hb dX3_fullCost_113 rfl (lv_at hl 5 rfl) ?_
      refine va_get (D := (dC, dI)) (ci := 3) (v := .ref aCz) (C := RX3) (T := TX3) (N := 2) hx hb hts mX3_fullCost_inX3 hown hK hP 0 rfl rfl 1 (by decide) (hts (.fieldLink RX3 9 "LeafOrder$Scale" "sizes" "[I") mX3_fullCost_5) (fun _ h9 => h9) rfl dX3_fullCost_114 ?_
      refine lv_iconst (v := nI 1) hx hb dX3_fullCost_117 (by decide) ?_
      refine ln_iald (i := 1) hx hb hK hP 1 0 rfl rfl (by omega) (by decide) dX3_fullCost_118 ?_
      have b_12 := bCz 1
      refine lv_aload_n hx hb dX3_fullCost_119 rfl (lv_at hl 5 rfl) ?_
      refine va_get (D := (dC, dI)) (ci := 3) (v := .ref aL) (C := RX3) (T := TX3) (N := 2) hx hb hts mX3_fullCost_inX3 hown hK hP 0 rfl rfl 0 (by decide) (hts (.fieldLink RX3 15 "LeafOrder$Scale" "pile" "LLeafOrder$Leaves;") mX3_fullCost_0) (fun _ h9 => h9) rfl dX3_fullCost_120 ?_
      refine lv_iload_n hx hb dX3_fullCost_123 rfl (lv_at hl 6 rfl) ?_
      refine lv_iconst (v := nI 1) hx hb dX3_fullCost_124 (by decide) ?_
      refine ln_ishr hx hb dX3_fullCost_125 (by omega) (by omega) ?_
      refine lv_iload_n hx hb dX3_fullCost_126 rfl (lv_at hl 7 rfl) ?_
      refine lv_iconst (v := nI 1) hx hb dX3_fullCost_127 (by decide) ?_
      refine ln_ishr hx hb dX3_fullCost_128 (by omega) (by omega) ?_
      have hPc := hP.sub (ws' := [(aL, .inr (1, [.int (nI nL), .ref aLb, .ref aLe, .ref aLw, .ref aLc, .ref aLd, .ref aLs])), (aLs, .inl (cI, 27, .inl (nF fs)))]) [2, 8] rfl
      refine vp_callSi (W.runV (As := [.int (nI (q1 >>> 1)), .int (nI (q2 >>> 1))]) (rest := [.int (nI (fz 1)), .int (nI (((fz 0) * (m_dist (fb q2) (fe (q1 ^^^ 1)))) + (fz 3)))]) ⟨hx, hb, hml, hown, hts⟩ (k_X1_stainsApart l dC dI cI cZ aL aLb aLe aLw aLc aLd aLs nL fs (q1 >>> 1) (q2 >>> 1) bLs (by omega) (by omega)) (cwV 2 hts gX3_fullCost_X1_stainsApart rfl rfl rfl (by decide +kernel) ⟨Nat.le_of_ble_eq_true rfl, Nat.le_of_ble_eq_true rfl⟩) (ln_preV (q0 := 0) (ci := 1) hPc hKK rfl rfl) rfl rfl hl.1 rfl (lv_room (Nat.le_of_ble_eq_true rfl)) dX3_fullCost_129 ⟨Nat.le_of_ble_eq_true rfl, Nat.le_of_ble_eq_true rfl⟩) (fun r_13 w_14 => ?_)
      subst w_14
      refine ln_imul hx hb dX3_fullCost_132 ?_
      refine ln_iadd hx hb dX3_fullCost_133 ?_
      exact W.iret (v := (nI ((((fz 0) * (m_dist (fb q2) (fe (q1 ^^^ 1)))) + (fz 3)) + ((fz 1) * (m_sap fs (q1 >>> 1) (q2 >>> 1) 3))))) hx hb hr (fun t ht hW => ⟨(nI ((((fz 0) * (m_dist (fb q2) (fe (q1 ^^^ 1)))) + (fz 3)) + ((fz 1) * (m_sap fs (q1 >>> 1) (q2 >>> 1) 3)))), rfl, (by unfold m_full; rw [if_pos c_4, if_neg c_7] <;> simp only [Nat.add_zero]), ht⟩) (fun _ h => by cases h) dX3_fullCost_134
  · refine lv_iload hx hb dX3_fullCost_60 (lv_at hl 1 rfl) ?_
    refine lv_iload hx hb dX3_fullCost_62 (lv_at hl 2 rfl) ?_
    refine lv_icmp_eq (tgt := 78) hx hb dX3_fullCost_64 (by decide) (fun c_15 => ?_) (fun c_15 => ?_)
    · refine lv_aload_n hx hb dX3_fullCost_78 rfl (lv_at hl 5 rfl) ?_
      refine va_get (D := (dC, dI)) (ci := 3) (v := .ref aL) (C := RX3) (T := TX3) (N := 2) hx hb hts mX3_fullCost_inX3 hown hK hP 0 rfl rfl 0 (by decide) (hts (.fieldLink RX3 15 "LeafOrder$Scale" "pile" "LLeafOrder$Leaves;") mX3_fullCost_0) (fun _ h9 => h9) rfl dX3_fullCost_79 ?_
      refine va_get (D := (dC, dI)) (ci := 1) (v := .ref aLd) (C := RX1) (T := TX1) (N := 7) hx hb hts mX3_fullCost_inX1 hown hK hP 2 rfl rfl 5 (by decide) (hts (.fieldLink RX3 44 "LeafOrder$Leaves" "cutEnds" "[I") mX3_fullCost_11) (fun _ h9 => h9) rfl dX3_fullCost_82 ?_
      refine lv_iload_n hx hb dX3_fullCost_85 rfl (lv_at hl 4 rfl) ?_
      refine ln_iald (i := q1 ^^^ 1) hx hb hK hP 7 0 rfl rfl (by omega) (by decide) dX3_fullCost_86 ?_
      have b_16 := bLd (q1 ^^^ 1)
      refine lv_aload_n hx hb dX3_fullCost_87 rfl (lv_at hl 5 rfl) ?_
      refine va_get (D := (dC, dI)) (ci := 3) (v := .ref aL) (C := RX3) (T := TX3) (N := 2) hx hb hts mX3_fullCost_inX3 hown hK hP 0 rfl rfl 0 (by decide) (hts (.fieldLink RX3 15 "LeafOrder$Scale" "pile" "LLeafOrder$Leaves;") mX3_fullCost_0) (fun _ h9 => h9) rfl dX3_fullCost_88 ?_
      refine va_get (D := (dC, dI)) (ci := 1) (v := .ref aLc) (C := RX1) (T := TX1) (N := 7) hx hb hts mX3_fullCost_inX1 hown hK hP 2 rfl rfl 4 (by decide) (hts (.fieldLink RX3 47 "LeafOrder$Leaves" "cutBegins" "[I") mX3_fullCost_12) (fun _ h9 => h9) rfl dX3_fullCost_91 ?_
      refine lv_iload hx hb dX3_fullCost_94 (lv_at hl 3 rfl) ?_
      refine ln_iald (i := q2) hx hb hK hP 6 0 rfl rfl (by omega) (by decide) dX3_fullCost_96 ?_
      have b_17 := bLc q2
      refine ln_icmp_eq (tgt := 111) hx hb dX3_fullCost_97 (by decide) (by omega) (by omega) (fun c_18 => ?_) (fun c_18 => ?_)
      · refine lv_iload hx hb dX3_fullCost_111 (lv_at hl 0 rfl) ?_
        refine lv_aload_n hx hb dX3_fullCost_113 rfl (lv_at hl 5 rfl) ?_
        refine va_get (D := (dC, dI)) (ci := 3) (v := .ref aCz) (C := RX3) (T := TX3) (N := 2) hx hb hts mX3_fullCost_inX3 hown hK hP 0 rfl rfl 1 (by decide) (hts (.fieldLink RX3 9 "LeafOrder$Scale" "sizes" "[I") mX3_fullCost_5) (fun _ h9 => h9) rfl dX3_fullCost_114 ?_
        refine lv_iconst (v := nI 1) hx hb dX3_fullCost_117 (by decide) ?_
        refine ln_iald (i := 1) hx hb hK hP 1 0 rfl rfl (by omega) (by decide) dX3_fullCost_118 ?_
        have b_19 := bCz 1
        refine lv_aload_n hx hb dX3_fullCost_119 rfl (lv_at hl 5 rfl) ?_
        refine va_get (D := (dC, dI)) (ci := 3) (v := .ref aL) (C := RX3) (T := TX3) (N := 2) hx hb hts mX3_fullCost_inX3 hown hK hP 0 rfl rfl 0 (by decide) (hts (.fieldLink RX3 15 "LeafOrder$Scale" "pile" "LLeafOrder$Leaves;") mX3_fullCost_0) (fun _ h9 => h9) rfl dX3_fullCost_120 ?_
        refine lv_iload_n hx hb dX3_fullCost_123 rfl (lv_at hl 6 rfl) ?_
        refine lv_iconst (v := nI 1) hx hb dX3_fullCost_124 (by decide) ?_
        refine ln_ishr hx hb dX3_fullCost_125 (by omega) (by omega) ?_
        refine lv_iload_n hx hb dX3_fullCost_126 rfl (lv_at hl 7 rfl) ?_
        refine lv_iconst (v := nI 1) hx hb dX3_fullCost_127 (by decide) ?_
        refine ln_ishr hx hb dX3_fullCost_128 (by omega) (by omega) ?_
        have hPc := hP.sub (ws' := [(aL, .inr (1, [.int (nI nL), .ref aLb, .ref aLe, .ref aLw, .ref aLc, .ref aLd, .ref aLs])), (aLs, .inl (cI, 27, .inl (nF fs)))]) [2, 8] rfl
        refine vp_callSi (W.runV (As := [.int (nI (q1 >>> 1)), .int (nI (q2 >>> 1))]) (rest := [.int (nI (fz 1)), .int (nI ((fz 0) * (m_dist (fb q2) (fe (q1 ^^^ 1)))))]) ⟨hx, hb, hml, hown, hts⟩ (k_X1_stainsApart l dC dI cI cZ aL aLb aLe aLw aLc aLd aLs nL fs (q1 >>> 1) (q2 >>> 1) bLs (by omega) (by omega)) (cwV 2 hts gX3_fullCost_X1_stainsApart rfl rfl rfl (by decide +kernel) ⟨Nat.le_of_ble_eq_true rfl, Nat.le_of_ble_eq_true rfl⟩) (ln_preV (q0 := 0) (ci := 1) hPc hKK rfl rfl) rfl rfl hl.1 rfl (lv_room (Nat.le_of_ble_eq_true rfl)) dX3_fullCost_129 ⟨Nat.le_of_ble_eq_true rfl, Nat.le_of_ble_eq_true rfl⟩) (fun r_20 w_21 => ?_)
        subst w_21
        refine ln_imul hx hb dX3_fullCost_132 ?_
        refine ln_iadd hx hb dX3_fullCost_133 ?_
        exact W.iret (v := (nI (((fz 0) * (m_dist (fb q2) (fe (q1 ^^^ 1)))) + ((fz 1) * (m_sap fs (q1 >>> 1) (q2 >>> 1) 3))))) hx hb hr (fun t ht hW => ⟨(nI (((fz 0) * (m_dist (fb q2) (fe (q1 ^^^ 1)))) + ((fz 1) * (m_sap fs (q1 >>> 1) (q2 >>> 1) 3)))), rfl, (by unfold m_full; rw [if_neg c_4, if_pos c_15, if_pos c_18] <;> simp only [Nat.add_zero]), ht⟩) (fun _ h => by cases h) dX3_fullCost_134
      · refine lv_iload hx hb dX3_fullCost_100 (lv_at hl 0 rfl) ?_
        refine lv_aload_n hx hb dX3_fullCost_102 rfl (lv_at hl 5 rfl) ?_
        refine va_get (D := (dC, dI)) (ci := 3) (v := .ref aCz) (C := RX3) (T := TX3) (N := 2) hx hb hts mX3_fullCost_inX3 hown hK hP 0 rfl rfl 1 (by decide) (hts (.fieldLink RX3 9 "LeafOrder$Scale" "sizes" "[I") mX3_fullCost_5) (fun _ h9 => h9) rfl dX3_fullCost_103 ?_
        refine lv_iconst (v := nI 3) hx hb dX3_fullCost_106 (by decide) ?_
        refine ln_iald (i := 3) hx hb hK hP 1 0 rfl rfl (by omega) (by decide) dX3_fullCost_107 ?_
        have b_22 := bCz 3
        refine ln_iadd hx hb dX3_fullCost_108 ?_
        refine lv_istore (lv' := [(7, .int (nI (((fz 0) * (m_dist (fb q2) (fe (q1 ^^^ 1)))) + (fz 3)))), (6, .int (fw (q1 ^^^ 1))), (5, .int (nI (fb q2))), (4, .int (nI q2)), (3, .int (nI (q1 ^^^ 1))), (0, .ref aC), (1, .int (nI q1)), (2, .int (nI q2))]) hx hb dX3_fullCost_109 hl (by decide) rfl (fun ls hl => ?_)
        refine lv_iload hx hb dX3_fullCost_111 (lv_at hl 0 rfl) ?_
        refine lv_aload_n hx hb dX3_fullCost_113 rfl (lv_at hl 5 rfl) ?_
        refine va_get (D := (dC, dI)) (ci := 3) (v := .ref aCz) (C := RX3) (T := TX3) (N := 2) hx hb hts mX3_fullCost_inX3 hown hK hP 0 rfl rfl 1 (by decide) (hts (.fieldLink RX3 9 "LeafOrder$Scale" "sizes" "[I") mX3_fullCost_5) (fun _ h9 => h9) rfl dX3_fullCost_114 ?_
        refine lv_iconst (v := nI 1) hx hb dX3_fullCost_117 (by decide) ?_
        refine ln_iald (i := 1) hx hb hK hP 1 0 rfl rfl (by omega) (by decide) dX3_fullCost_118 ?_
        have b_23 := bCz 1
        refine lv_aload_n hx hb dX3_fullCost_119 rfl (lv_at hl 5 rfl) ?_
        refine va_get (D := (dC, dI)) (ci := 3) (v := .ref aL) (C := RX3) (T := TX3) (N := 2) hx hb hts mX3_fullCost_inX3 hown hK hP 0 rfl rfl 0 (by decide) (hts (.fieldLink RX3 15 "LeafOrder$Scale" "pile" "LLeafOrder$Leaves;") mX3_fullCost_0) (fun _ h9 => h9) rfl dX3_fullCost_120 ?_
        refine lv_iload_n hx hb dX3_fullCost_123 rfl (lv_at hl 6 rfl) ?_
        refine lv_iconst (v := nI 1) hx hb dX3_fullCost_124 (by decide) ?_
        refine ln_ishr hx hb dX3_fullCost_125 (by omega) (by omega) ?_
        refine lv_iload_n hx hb dX3_fullCost_126 rfl (lv_at hl 7 rfl) ?_
        refine lv_iconst (v := nI 1) hx hb dX3_fullCost_127 (by decide) ?_
        refine ln_ishr hx hb dX3_fullCost_128 (by omega) (by omega) ?_
        have hPc := hP.sub (ws' := [(aL, .inr (1, [.int (nI nL), .ref aLb, .ref aLe, .ref aLw, .ref aLc, .ref aLd, .ref aLs])), (aLs, .inl (cI, 27, .inl (nF fs)))]) [2, 8] rfl
        refine vp_callSi (W.runV (As := [.int (nI (q1 >>> 1)), .int (nI (q2 >>> 1))]) (rest := [.int (nI (fz 1)), .int (nI (((fz 0) * (m_dist (fb q2) (fe (q1 ^^^ 1)))) + (fz 3)))]) ⟨hx, hb, hml, hown, hts⟩ (k_X1_stainsApart l dC dI cI cZ aL aLb aLe aLw aLc aLd aLs nL fs (q1 >>> 1) (q2 >>> 1) bLs (by omega) (by omega)) (cwV 2 hts gX3_fullCost_X1_stainsApart rfl rfl rfl (by decide +kernel) ⟨Nat.le_of_ble_eq_true rfl, Nat.le_of_ble_eq_true rfl⟩) (ln_preV (q0 := 0) (ci := 1) hPc hKK rfl rfl) rfl rfl hl.1 rfl (lv_room (Nat.le_of_ble_eq_true rfl)) dX3_fullCost_129 ⟨Nat.le_of_ble_eq_true rfl, Nat.le_of_ble_eq_true rfl⟩) (fun r_24 w_25 => ?_)
        subst w_25
        refine ln_imul hx hb dX3_fullCost_132 ?_
        refine ln_iadd hx hb dX3_fullCost_133 ?_
        exact W.iret (v := (nI ((((fz 0) * (m_dist (fb q2) (fe (q1 ^^^ 1)))) + (fz 3)) + ((fz 1) * (m_sap fs (q1 >>> 1) (q2 >>> 1) 3))))) hx hb hr (fun t ht hW => ⟨(nI ((((fz 0) * (m_dist (fb q2) (fe (q1 ^^^ 1)))) + (fz 3)) + ((fz 1) * (m_sap fs (q1 >>> 1) (q2 >>> 1) 3)))), rfl, (by unfold m_full; rw [if_neg c_4, if_pos c_15, if_neg c_18] <;> simp only [Nat.add_zero]), ht⟩) (fun _ h => by cases h) dX3_fullCost_134
    · refine lv_iload hx hb dX3_fullCost_67 (lv_at hl 0 rfl) ?_
      refine lv_aload_n hx hb dX3_fullCost_69 rfl (lv_at hl 5 rfl) ?_
      refine va_get (D := (dC, dI)) (ci := 3) (v := .ref aCz) (C := RX3) (T := TX3) (N := 2) hx hb hts mX3_fullCost_inX3 hown hK hP 0 rfl rfl 1 (by decide) (hts (.fieldLink RX3 9 "LeafOrder$Scale" "sizes" "[I") mX3_fullCost_5) (fun _ h9 => h9) rfl dX3_fullCost_70 ?_
      refine lv_iconst (v := nI 2) hx hb dX3_fullCost_73 (by decide) ?_
      refine ln_iald (i := 2) hx hb hK hP 1 0 rfl rfl (by omega) (by decide) dX3_fullCost_74 ?_
      have b_26 := bCz 2
      refine ln_iadd hx hb dX3_fullCost_75 ?_
      refine lv_istore (lv' := [(7, .int (nI (((fz 0) * (m_dist (fb q2) (fe (q1 ^^^ 1)))) + (fz 2)))), (6, .int (fw (q1 ^^^ 1))), (5, .int (nI (fb q2))), (4, .int (nI q2)), (3, .int (nI (q1 ^^^ 1))), (0, .ref aC), (1, .int (nI q1)), (2, .int (nI q2))]) hx hb dX3_fullCost_76 hl (by decide) rfl (fun ls hl => ?_)
      refine lv_aload_n hx hb dX3_fullCost_78 rfl (lv_at hl 5 rfl) ?_
      refine va_get (D := (dC, dI)) (ci := 3) (v := .ref aL) (C := RX3) (T := TX3) (N := 2) hx hb hts mX3_fullCost_inX3 hown hK hP 0 rfl rfl 0 (by decide) (hts (.fieldLink RX3 15 "LeafOrder$Scale" "pile" "LLeafOrder$Leaves;") mX3_fullCost_0) (fun _ h9 => h9) rfl dX3_fullCost_79 ?_
      refine va_get (D := (dC, dI)) (ci := 1) (v := .ref aLd) (C := RX1) (T := TX1) (N := 7) hx hb hts mX3_fullCost_inX1 hown hK hP 2 rfl rfl 5 (by decide) (hts (.fieldLink RX3 44 "LeafOrder$Leaves" "cutEnds" "[I") mX3_fullCost_11) (fun _ h9 => h9) rfl dX3_fullCost_82 ?_
      refine lv_iload_n hx hb dX3_fullCost_85 rfl (lv_at hl 4 rfl) ?_
      refine ln_iald (i := q1 ^^^ 1) hx hb hK hP 7 0 rfl rfl (by omega) (by decide) dX3_fullCost_86 ?_
      have b_27 := bLd (q1 ^^^ 1)
      refine lv_aload_n hx hb dX3_fullCost_87 rfl (lv_at hl 5 rfl) ?_
      refine va_get (D := (dC, dI)) (ci := 3) (v := .ref aL) (C := RX3) (T := TX3) (N := 2) hx hb hts mX3_fullCost_inX3 hown hK hP 0 rfl rfl 0 (by decide) (hts (.fieldLink RX3 15 "LeafOrder$Scale" "pile" "LLeafOrder$Leaves;") mX3_fullCost_0) (fun _ h9 => h9) rfl dX3_fullCost_88 ?_
      refine va_get (D := (dC, dI)) (ci := 1) (v := .ref aLc) (C := RX1) (T := TX1) (N := 7) hx hb hts mX3_fullCost_inX1 hown hK hP 2 rfl rfl 4 (by decide) (hts (.fieldLink RX3 47 "LeafOrder$Leaves" "cutBegins" "[I") mX3_fullCost_12) (fun _ h9 => h9) rfl dX3_fullCost_91 ?_
      refine lv_iload hx hb dX3_fullCost_94 (lv_at hl 3 rfl) ?_
      refine ln_iald (i := q2) hx hb hK hP 6 0 rfl rfl (by omega) (by decide) dX3_fullCost_96 ?_
      have b_28 := bLc q2
      refine ln_icmp_eq (tgt := 111) hx hb dX3_fullCost_97 (by decide) (by omega) (by omega) (fun c_29 => ?_) (fun c_29 => ?_)
      · refine lv_iload hx hb dX3_fullCost_111 (lv_at hl 0 rfl) ?_
        refine lv_aload_n hx hb dX3_fullCost_113 rfl (lv_at hl 5 rfl) ?_
        refine va_get (D := (dC, dI)) (ci := 3) (v := .ref aCz) (C := RX3) (T := TX3) (N := 2) hx hb hts mX3_fullCost_inX3 hown hK hP 0 rfl rfl 1 (by decide) (hts (.fieldLink RX3 9 "LeafOrder$Scale" "sizes" "[I") mX3_fullCost_5) (fun _ h9 => h9) rfl dX3_fullCost_114 ?_
        refine lv_iconst (v := nI 1) hx hb dX3_fullCost_117 (by decide) ?_
        refine ln_iald (i := 1) hx hb hK hP 1 0 rfl rfl (by omega) (by decide) dX3_fullCost_118 ?_
        have b_30 := bCz 1
        refine lv_aload_n hx hb dX3_fullCost_119 rfl (lv_at hl 5 rfl) ?_
        refine va_get (D := (dC, dI)) (ci := 3) (v := .ref aL) (C := RX3) (T := TX3) (N := 2) hx hb hts mX3_fullCost_inX3 hown hK hP 0 rfl rfl 0 (by decide) (hts (.fieldLink RX3 15 "LeafOrder$Scale" "pile" "LLeafOrder$Leaves;") mX3_fullCost_0) (fun _ h9 => h9) rfl dX3_fullCost_120 ?_
        refine lv_iload_n hx hb dX3_fullCost_123 rfl (lv_at hl 6 rfl) ?_
        refine lv_iconst (v := nI 1) hx hb dX3_fullCost_124 (by decide) ?_
        refine ln_ishr hx hb dX3_fullCost_125 (by omega) (by omega) ?_
        refine lv_iload_n hx hb dX3_fullCost_126 rfl (lv_at hl 7 rfl) ?_
        refine lv_iconst (v := nI 1) hx hb dX3_fullCost_127 (by decide) ?_
        refine ln_ishr hx hb dX3_fullCost_128 (by omega) (by omega) ?_
        have hPc := hP.sub (ws' := [(aL, .inr (1, [.int (nI nL), .ref aLb, .ref aLe, .ref aLw, .ref aLc, .ref aLd, .ref aLs])), (aLs, .inl (cI, 27, .inl (nF fs)))]) [2, 8] rfl
        refine vp_callSi (W.runV (As := [.int (nI (q1 >>> 1)), .int (nI (q2 >>> 1))]) (rest := [.int (nI (fz 1)), .int (nI (((fz 0) * (m_dist (fb q2) (fe (q1 ^^^ 1)))) + (fz 2)))]) ⟨hx, hb, hml, hown, hts⟩ (k_X1_stainsApart l dC dI cI cZ aL aLb aLe aLw aLc aLd aLs nL fs (q1 >>> 1) (q2 >>> 1) bLs (by omega) (by omega)) (cwV 2 hts gX3_fullCost_X1_stainsApart rfl rfl rfl (by decide +kernel) ⟨Nat.le_of_ble_eq_true rfl, Nat.le_of_ble_eq_true rfl⟩) (ln_preV (q0 := 0) (ci := 1) hPc hKK rfl rfl) rfl rfl hl.1 rfl (lv_room (Nat.le_of_ble_eq_true rfl)) dX3_fullCost_129 ⟨Nat.le_of_ble_eq_true rfl, Nat.le_of_ble_eq_true rfl⟩) (fun r_31 w_32 => ?_)
        subst w_32
        refine ln_imul hx hb dX3_fullCost_132 ?_
        refine ln_iadd hx hb dX3_fullCost_133 ?_
        exact W.iret (v := (nI ((((fz 0) * (m_dist (fb q2) (fe (q1 ^^^ 1)))) + (fz 2)) + ((fz 1) * (m_sap fs (q1 >>> 1) (q2 >>> 1) 3))))) hx hb hr (fun t ht hW => ⟨(nI ((((fz 0) * (m_dist (fb q2) (fe (q1 ^^^ 1)))) + (fz 2)) + ((fz 1) * (m_sap fs (q1 >>> 1) (q2 >>> 1) 3)))), rfl, (by unfold m_full; rw [if_neg c_4, if_neg c_15, if_pos c_29] <;> simp only [Nat.add_zero]), ht⟩) (fun _ h => by cases h) dX3_fullCost_134
      · refine lv_iload hx hb dX3_fullCost_100 (lv_at hl 0 rfl) ?_
        refine lv_aload_n hx hb dX3_fullCost_102 rfl (lv_at hl 5 rfl) ?_
        refine va_get (D := (dC, dI)) (ci := 3) (v := .ref aCz) (C := RX3) (T := TX3) (N := 2) hx hb hts mX3_fullCost_inX3 hown hK hP 0 rfl rfl 1 (by decide) (hts (.fieldLink RX3 9 "LeafOrder$Scale" "sizes" "[I") mX3_fullCost_5) (fun _ h9 => h9) rfl dX3_fullCost_103 ?_
        refine lv_iconst (v := nI 3) hx hb dX3_fullCost_106 (by decide) ?_
        refine ln_iald (i := 3) hx hb hK hP 1 0 rfl rfl (by omega) (by decide) dX3_fullCost_107 ?_
        have b_33 := bCz 3
        refine ln_iadd hx hb dX3_fullCost_108 ?_
        refine lv_istore (lv' := [(7, .int (nI ((((fz 0) * (m_dist (fb q2) (fe (q1 ^^^ 1)))) + (fz 2)) + (fz 3)))), (6, .int (fw (q1 ^^^ 1))), (5, .int (nI (fb q2))), (4, .int (nI q2)), (3, .int (nI (q1 ^^^ 1))), (0, .ref aC), (1, .int (nI q1)), (2, .int (nI q2))]) hx hb dX3_fullCost_109 hl (by decide) rfl (fun ls hl => ?_)
        refine lv_iload hx hb dX3_fullCost_111 (lv_at hl 0 rfl) ?_
        refine lv_aload_n hx hb dX3_fullCost_113 rfl (lv_at hl 5 rfl) ?_
        refine va_get (D := (dC, dI)) (ci := 3) (v := .ref aCz) (C := RX3) (T := TX3) (N := 2) hx hb hts mX3_fullCost_inX3 hown hK hP 0 rfl rfl 1 (by decide) (hts (.fieldLink RX3 9 "LeafOrder$Scale" "sizes" "[I") mX3_fullCost_5) (fun _ h9 => h9) rfl dX3_fullCost_114 ?_
        refine lv_iconst (v := nI 1) hx hb dX3_fullCost_117 (by decide) ?_
        refine ln_iald (i := 1) hx hb hK hP 1 0 rfl rfl (by omega) (by decide) dX3_fullCost_118 ?_
        have b_34 := bCz 1
        refine lv_aload_n hx hb dX3_fullCost_119 rfl (lv_at hl 5 rfl) ?_
        refine va_get (D := (dC, dI)) (ci := 3) (v := .ref aL) (C := RX3) (T := TX3) (N := 2) hx hb hts mX3_fullCost_inX3 hown hK hP 0 rfl rfl 0 (by decide) (hts (.fieldLink RX3 15 "LeafOrder$Scale" "pile" "LLeafOrder$Leaves;") mX3_fullCost_0) (fun _ h9 => h9) rfl dX3_fullCost_120 ?_
        refine lv_iload_n hx hb dX3_fullCost_123 rfl (lv_at hl 6 rfl) ?_
        refine lv_iconst (v := nI 1) hx hb dX3_fullCost_124 (by decide) ?_
        refine ln_ishr hx hb dX3_fullCost_125 (by omega) (by omega) ?_
        refine lv_iload_n hx hb dX3_fullCost_126 rfl (lv_at hl 7 rfl) ?_
        refine lv_iconst (v := nI 1) hx hb dX3_fullCost_127 (by decide) ?_
        refine ln_ishr hx hb dX3_fullCost_128 (by omega) (by omega) ?_
        have hPc := hP.sub (ws' := [(aL, .inr (1, [.int (nI nL), .ref aLb, .ref aLe, .ref aLw, .ref aLc, .ref aLd, .ref aLs])), (aLs, .inl (cI, 27, .inl (nF fs)))]) [2, 8] rfl
        refine vp_callSi (W.runV (As := [.int (nI (q1 >>> 1)), .int (nI (q2 >>> 1))]) (rest := [.int (nI (fz 1)), .int (nI ((((fz 0) * (m_dist (fb q2) (fe (q1 ^^^ 1)))) + (fz 2)) + (fz 3)))]) ⟨hx, hb, hml, hown, hts⟩ (k_X1_stainsApart l dC dI cI cZ aL aLb aLe aLw aLc aLd aLs nL fs (q1 >>> 1) (q2 >>> 1) bLs (by omega) (by omega)) (cwV 2 hts gX3_fullCost_X1_stainsApart rfl rfl rfl (by decide +kernel) ⟨Nat.le_of_ble_eq_true rfl, Nat.le_of_ble_eq_true rfl⟩) (ln_preV (q0 := 0) (ci := 1) hPc hKK rfl rfl) rfl rfl hl.1 rfl (lv_room (Nat.le_of_ble_eq_true rfl)) dX3_fullCost_129 ⟨Nat.le_of_ble_eq_true rfl, Nat.le_of_ble_eq_true rfl⟩) (fun r_35 w_36 => ?_)
        subst w_36
        refine ln_imul hx hb dX3_fullCost_132 ?_
        refine ln_iadd hx hb dX3_fullCost_133 ?_
        exact W.iret (v := (nI (((((fz 0) * (m_dist (fb q2) (fe (q1 ^^^ 1)))) + (fz 2)) + (fz 3)) + ((fz 1) * (m_sap fs (q1 >>> 1) (q2 >>> 1) 3))))) hx hb hr (fun t ht hW => ⟨(nI (((((fz 0) * (m_dist (fb q2) (fe (q1 ^^^ 1)))) + (fz 2)) + (fz 3)) + ((fz 1) * (m_sap fs (q1 >>> 1) (q2 >>> 1) 3)))), rfl, (by unfold m_full; rw [if_neg c_4, if_neg c_15, if_neg c_29] <;> simp only [Nat.add_zero]), ht⟩) (fun _ h => by cases h) dX3_fullCost_134
theorem mX3_isOverGap_0 : Cond.fieldLink RX3 9 "LeafOrder$Scale" "sizes" "[I" ∈ wsX3_isOverGap := by decide +kernel
theorem mX3_isOverGap_inX3 : ∀ w ∈ wsX30, w ∈ wsX3_isOverGap := by decide +kernel
set_option maxHeartbeats 4000000 in
set_option maxRecDepth 100000 in
theorem k_X3_isOverGap (l : Launch) (dC : Nat → ClassId) (dI : Nat → Nat → Nat) (cI cZ : ClassId) (aC aL aCz : Nat) (fz : Nat → Nat) (q1 : Nat) (bCz : ∀ k, fz k ≤ 999) (h1 : q1 < 2147483648) : Met l yX3_isOverGap wsX3_isOverGap { frames := 0, cells := 0, slots := 0, locals := 0 } (va_Pc [.ref aC, .int (nI q1)] (fun U => va_P (dC, dI) vwCl [(aC, .inr (3, [.ref aL, .ref aCz])), (aCz, .inl (cI, 6, .inl (nF fz)))] U.heap ∧ lK dC dI cI cZ U)) (vp_Si (fun r => (r = nI 1 ∧ (0 < fz 5 ∧ fz 5 < q1)) ∨ (r = nI 0 ∧ ¬ (0 < fz 5 ∧ fz 5 < q1)))) 0 0 (fun _ => False) := by
  refine Met.ofW (cc := cX3_isOverGap) (maxL := 2) (ret := (some .boolean)) (by decide) rfl ?_
  intro p e s m args below meth c s₁ B hml hv
  obtain ⟨rfl, hP, hKK⟩ := hv
  have hK := hKK.1
  have hx := B.exec
  have hb := B.bytes
  have hr := B.returns
  have hts := atoms_spec (ws := wsX3_isOverGap) B.pre
  have hown : s.vm.findClass RX3 = some m.cls := findClass_of_methodNamed B.named
  have hlocks := B.notSynchronized
  have hl := lv_entry ([.ref aC, .int (nI q1)]) (n := 2) (Nat.le_of_ble_eq_true rfl)
  rw [lg_entry_eq]
  generalize (lg_sl ([.ref aC, .int (nI q1)]) ++ List.replicate (2 - (lg_sl ([.ref aC, .int (nI q1)])).length) Slot.unset).toArray = ls at hl ⊢
  have hl : lv_has ls 2 [(0, .ref aC), (1, .int (nI q1))] := hl
  refine lv_aload_n hx hb dX3_isOverGap_0 rfl (lv_at hl 0 rfl) ?_
  refine va_get (D := (dC, dI)) (ci := 3) (v := .ref aCz) (C := RX3) (T := TX3) (N := 2) hx hb hts mX3_isOverGap_inX3 hown hK hP 0 rfl rfl 1 (by decide) (hts (.fieldLink RX3 9 "LeafOrder$Scale" "sizes" "[I") mX3_isOverGap_0) (fun _ h9 => h9) rfl dX3_isOverGap_1 ?_
  refine lv_iconst (v := nI 5) hx hb dX3_isOverGap_4 (by decide) ?_
  refine ln_iald (i := 5) hx hb hK hP 1 0 rfl rfl (by omega) (by decide) dX3_isOverGap_5 ?_
  have b_1 := bCz 5
  refine ln_if_le (tgt := 23) hx hb dX3_isOverGap_6 (by decide) (by omega) (fun c_2 => ?_) (fun c_2 => ?_)
  · refine lv_iconst (v := nI 0) hx hb dX3_isOverGap_23 (by decide) ?_
    exact W.zret (v := (nI 0)) hx hb hr (by decide) (fun t ht hW => ⟨(nI 0), rfl, Or.inr ⟨rfl, (by omega)⟩, ht⟩) (fun _ h => by cases h) dX3_isOverGap_24
  · refine lv_iload_n hx hb dX3_isOverGap_9 rfl (lv_at hl 1 rfl) ?_
    refine lv_aload_n hx hb dX3_isOverGap_10 rfl (lv_at hl 0 rfl) ?_
    refine va_get (D := (dC, dI)) (ci := 3) (v := .ref aCz) (C := RX3) (T := TX3) (N := 2) hx hb hts mX3_isOverGap_inX3 hown hK hP 0 rfl rfl 1 (by decide) (hts (.fieldLink RX3 9 "LeafOrder$Scale" "sizes" "[I") mX3_isOverGap_0) (fun _ h9 => h9) rfl dX3_isOverGap_11 ?_
    refine lv_iconst (v := nI 5) hx hb dX3_isOverGap_14 (by decide) ?_
    refine ln_iald (i := 5) hx hb hK hP 1 0 rfl rfl (by omega) (by decide) dX3_isOverGap_15 ?_
    have b_3 := bCz 5
    refine ln_icmp_le (tgt := 23) hx hb dX3_isOverGap_16 (by decide) (by omega) (by omega) (fun c_4 => ?_) (fun c_4 => ?_)
    · refine lv_iconst (v := nI 0) hx hb dX3_isOverGap_23 (by decide) ?_
      exact W.zret (v := (nI 0)) hx hb hr (by decide) (fun t ht hW => ⟨(nI 0), rfl, Or.inr ⟨rfl, (by omega)⟩, ht⟩) (fun _ h => by cases h) dX3_isOverGap_24
    · refine lv_iconst (v := nI 1) hx hb dX3_isOverGap_19 (by decide) ?_
      refine lv_goto (tgt := 24) hx hb dX3_isOverGap_20 (by decide) ?_
      exact W.zret (v := (nI 1)) hx hb hr (by decide) (fun t ht hW => ⟨(nI 1), rfl, Or.inl ⟨rfl, ⟨by omega, by omega⟩⟩, ht⟩) (fun _ h => by cases h) dX3_isOverGap_24
theorem mX3_joinCost_0 : Cond.fieldLink RX3 9 "LeafOrder$Scale" "sizes" "[I" ∈ wsX3_joinCost := by decide +kernel
theorem mX3_joinCost_inX3 : ∀ w ∈ wsX30, w ∈ wsX3_joinCost := by decide +kernel
set_option maxHeartbeats 4000000 in
set_option maxRecDepth 100000 in
theorem k_X3_joinCost (l : Launch) (dC : Nat → ClassId) (dI : Nat → Nat → Nat) (cI cZ : ClassId) (aC aL aCz aLb aLe aLw aLc aLd aLs : Nat) (fz : Nat → Nat) (nL : Nat) (fb : Nat → Nat) (fe : Nat → Nat) (fw : Nat → Int32) (fc : Nat → Nat) (fd : Nat → Nat) (fs : Nat → Nat) (q1 : Nat) (q2 : Nat) (bCz : ∀ k, fz k ≤ 999) (bLb : ∀ k, fb k ≤ 99) (bLe : ∀ k, fe k ≤ 99) (bLc : ∀ k, fc k ≤ 99) (bLd : ∀ k, fd k ≤ 99) (bLs : ∀ k, fs k ≤ 99) (h1 : q1 < 18) (h2 : q2 < 18) : Met l yX3_joinCost wsX3_joinCost { frames := 3, cells := 0, slots := 0, locals := 72 } (va_Pc [.ref aC, .int (nI q1), .int (nI q2)] (fun U => va_P (dC, dI) vwCl [(aC, .inr (3, [.ref aL, .ref aCz])), (aCz, .inl (cI, 6, .inl (nF fz))), (aL, .inr (1, [.int (nI nL), .ref aLb, .ref aLe, .ref aLw, .ref aLc, .ref aLd, .ref aLs])), (aLb, .inl (cI, 18, .inl (nF fb))), (aLe, .inl (cI, 18, .inl (nF fe))), (aLw, .inl (cI, 18, .inl fw)), (aLc, .inl (cI, 18, .inl (nF fc))), (aLd, .inl (cI, 18, .inl (nF fd))), (aLs, .inl (cI, 27, .inl (nF fs)))] U.heap ∧ lK dC dI cI cZ U)) (vp_Si (fun r => r = (nI (m_join fb fe fw fc fd fs fz q1 q2)))) 0 0 (fun _ => False) := by
  refine Met.ofW (cc := cX3_joinCost) (maxL := 4) (ret := (some .int)) (by decide) rfl ?_
  intro p e s m args below meth c s₁ B hml hv
  obtain ⟨rfl, hP, hKK⟩ := hv
  have hK := hKK.1
  have hx := B.exec
  have hb := B.bytes
  have hr := B.returns
  have hts := atoms_spec (ws := wsX3_joinCost) B.pre
  have hown : s.vm.findClass RX3 = some m.cls := findClass_of_methodNamed B.named
  have hlocks := B.notSynchronized
  have hl := lv_entry ([.ref aC, .int (nI q1), .int (nI q2)]) (n := 4) (Nat.le_of_ble_eq_true rfl)
  rw [lg_entry_eq]
  generalize (lg_sl ([.ref aC, .int (nI q1), .int (nI q2)]) ++ List.replicate (4 - (lg_sl ([.ref aC, .int (nI q1), .int (nI q2)])).length) Slot.unset).toArray = ls at hl ⊢
  have hl : lv_has ls 4 [(0, .ref aC), (1, .int (nI q1)), (2, .int (nI q2))] := hl
  refine lv_aload_n hx hb dX3_joinCost_0 rfl (lv_at hl 0 rfl) ?_
  refine lv_iload_n hx hb dX3_joinCost_1 rfl (lv_at hl 1 rfl) ?_
  refine lv_iload_n hx hb dX3_joinCost_2 rfl (lv_at hl 2 rfl) ?_
  have hPc := hP.sub (ws' := [(aC, .inr (3, [.ref aL, .ref aCz])), (aCz, .inl (cI, 6, .inl (nF fz))), (aL, .inr (1, [.int (nI nL), .ref aLb, .ref aLe, .ref aLw, .ref aLc, .ref aLd, .ref aLs])), (aLb, .inl (cI, 18, .inl (nF fb))), (aLe, .inl (cI, 18, .inl (nF fe))), (aLw, .inl (cI, 18, .inl fw)), (aLc, .inl (cI, 18, .inl (nF fc))), (aLd, .inl (cI, 18, .inl (nF fd))), (aLs, .inl (cI, 27, .inl (nF fs)))]) [0, 1, 2, 3, 4, 5, 6, 7, 8] rfl
  refine vp_callSi (W.runV (As := [.int (nI q1), .int (nI q2)]) (rest := []) ⟨hx, hb, hml, hown, hts⟩ (k_X3_fullCost l dC dI cI cZ aC aL aCz aLb aLe aLw aLc aLd aLs fz nL fb fe fw fc fd fs q1 q2 bCz bLb bLe bLc bLd bLs (by omega) (by omega)) (cwV 2 hts gX3_joinCost_X3_fullCost rfl rfl rfl (by decide +kernel) ⟨Nat.le_of_ble_eq_true rfl, Nat.le_of_ble_eq_true rfl⟩) (ln_preV (q0 := 0) (ci := 3) hPc hKK rfl rfl) rfl rfl hl.1 rfl (lv_room (Nat.le_of_ble_eq_true rfl)) dX3_joinCost_3 ⟨Nat.le_of_ble_eq_true rfl, Nat.le_of_ble_eq_true rfl⟩) (fun r_1 w_2 => ?_)
  subst w_2
  refine lv_istore_n (lv' := [(3, .int (nI (m_full fb fe fw fc fd fs fz q1 q2))), (0, .ref aC), (1, .int (nI q1)), (2, .int (nI q2))]) hx hb dX3_joinCost_6 rfl hl (by decide) rfl (fun ls hl => ?_)
  refine lv_aload_n hx hb dX3_joinCost_7 rfl (lv_at hl 1 rfl) ?_
  refine lv_iload_n hx hb dX3_joinCost_8 rfl (lv_at hl 0 rfl) ?_
  have hPc := hP.sub (ws' := [(aC, .inr (3, [.ref aL, .ref aCz])), (aCz, .inl (cI, 6, .inl (nF fz)))]) [0, 1] rfl
  refine vp_callSi (W.runV (As := [.int (nI (m_full fb fe fw fc fd fs fz q1 q2))]) (rest := []) ⟨hx, hb, hml, hown, hts⟩ (k_X3_isOverGap l dC dI cI cZ aC aL aCz fz (m_full fb fe fw fc fd fs fz q1 q2) bCz (Nat.lt_of_le_of_lt (m_full_le fb fe fw fc fd fs fz q1 q2 bLb bLe bLs bCz) (by decide))) (cwV 1 hts gX3_joinCost_X3_isOverGap rfl rfl rfl (by decide +kernel) ⟨Nat.le_of_ble_eq_true rfl, Nat.le_of_ble_eq_true rfl⟩) (ln_preV (q0 := 0) (ci := 3) hPc hKK rfl rfl) rfl rfl hl.1 rfl (lv_room (Nat.le_of_ble_eq_true rfl)) dX3_joinCost_9 ⟨Nat.le_of_ble_eq_true rfl, Nat.le_of_ble_eq_true rfl⟩) (fun r_3 w_4 => ?_)
  rcases w_4 with ⟨rfl, c_5⟩ | ⟨rfl, c_5⟩
  · refine ln_if_eqF (tgt := 24) hx hb dX3_joinCost_12 (by decide) (by decide) ?_
    refine lv_aload_n hx hb dX3_joinCost_15 rfl (lv_at hl 1 rfl) ?_
    refine va_get (D := (dC, dI)) (ci := 3) (v := .ref aCz) (C := RX3) (T := TX3) (N := 2) hx hb hts mX3_joinCost_inX3 hown hK hP 0 rfl rfl 1 (by decide) (hts (.fieldLink RX3 9 "LeafOrder$Scale" "sizes" "[I") mX3_joinCost_0) (fun _ h9 => h9) rfl dX3_joinCost_16 ?_
    refine lv_iconst (v := nI 5) hx hb dX3_joinCost_19 (by decide) ?_
    refine ln_iald (i := 5) hx hb hK hP 1 0 rfl rfl (by omega) (by decide) dX3_joinCost_20 ?_
    have b_6 := bCz 5
    refine lv_goto (tgt := 25) hx hb dX3_joinCost_21 (by decide) ?_
    exact W.iret (v := (nI (fz 5))) hx hb hr (fun t ht hW => ⟨(nI (fz 5)), rfl, (by unfold m_join; rw [if_pos c_5]), ht⟩) (fun _ h => by cases h) dX3_joinCost_25
  · refine ln_if_eqT (tgt := 24) hx hb dX3_joinCost_12 (by decide) (by decide) ?_
    refine lv_iload_n hx hb dX3_joinCost_24 rfl (lv_at hl 0 rfl) ?_
    exact W.iret (v := (nI (m_full fb fe fw fc fd fs fz q1 q2))) hx hb hr (fun t ht hW => ⟨(nI (m_full fb fe fw fc fd fs fz q1 q2)), rfl, (by unfold m_join; rw [if_neg c_5]), ht⟩) (fun _ h => by cases h) dX3_joinCost_25
set_option maxHeartbeats 4000000 in
set_option maxRecDepth 100000 in
theorem k_X3_isMissing (l : Launch) (dC : Nat → ClassId) (dI : Nat → Nat → Nat) (cI cZ : ClassId) (aC aL aCz aLb aLe aLw aLc aLd aLs : Nat) (fz : Nat → Nat) (nL : Nat) (fb : Nat → Nat) (fe : Nat → Nat) (fw : Nat → Int32) (fc : Nat → Nat) (fd : Nat → Nat) (fs : Nat → Nat) (q1 : Nat) (q2 : Nat) (bCz : ∀ k, fz k ≤ 999) (bLb : ∀ k, fb k ≤ 99) (bLe : ∀ k, fe k ≤ 99) (bLc : ∀ k, fc k ≤ 99) (bLd : ∀ k, fd k ≤ 99) (bLs : ∀ k, fs k ≤ 99) (h1 : q1 < 18) (h2 : q2 < 18) : Met l yX3_isMissing wsX3_isMissing { frames := 3, cells := 0, slots := 0, locals := 72 } (va_Pc [.ref aC, .int (nI q1), .int (nI q2)] (fun U => va_P (dC, dI) vwCl [(aC, .inr (3, [.ref aL, .ref aCz])), (aCz, .inl (cI, 6, .inl (nF fz))), (aL, .inr (1, [.int (nI nL), .ref aLb, .ref aLe, .ref aLw, .ref aLc, .ref aLd, .ref aLs])), (aLb, .inl (cI, 18, .inl (nF fb))), (aLe, .inl (cI, 18, .inl (nF fe))), (aLw, .inl (cI, 18, .inl fw)), (aLc, .inl (cI, 18, .inl (nF fc))), (aLd, .inl (cI, 18, .inl (nF fd))), (aLs, .inl (cI, 27, .inl (nF fs)))] U.heap ∧ lK dC dI cI cZ U)) (vp_Si (fun r => (r = nI 1 ∧ (0 < fz 5 ∧ fz 5 < m_full fb fe fw fc fd fs fz q1 q2)) ∨ (r = nI 0 ∧ ¬ (0 < fz 5 ∧ fz 5 < m_full fb fe fw fc fd fs fz q1 q2)))) 0 0 (fun _ => False) := by
  refine Met.ofW (cc := cX3_isMissing) (maxL := 3) (ret := (some .boolean)) (by decide) rfl ?_
  intro p e s m args below meth c s₁ B hml hv
  obtain ⟨rfl, hP, hKK⟩ := hv
  have hK := hKK.1
  have hx := B.exec
  have hb := B.bytes
  have hr := B.returns
  have hts := atoms_spec (ws := wsX3_isMissing) B.pre
  have hown : s.vm.findClass RX3 = some m.cls := findClass_of_methodNamed B.named
  have hlocks := B.notSynchronized
  have hl := lv_entry ([.ref aC, .int (nI q1), .int (nI q2)]) (n := 3) (Nat.le_of_ble_eq_true rfl)
  rw [lg_entry_eq]
  generalize (lg_sl ([.ref aC, .int (nI q1), .int (nI q2)]) ++ List.replicate (3 - (lg_sl ([.ref aC, .int (nI q1), .int (nI q2)])).length) Slot.unset).toArray = ls at hl ⊢
  have hl : lv_has ls 3 [(0, .ref aC), (1, .int (nI q1)), (2, .int (nI q2))] := hl
  refine lv_aload_n hx hb dX3_isMissing_0 rfl (lv_at hl 0 rfl) ?_
  refine lv_aload_n hx hb dX3_isMissing_1 rfl (lv_at hl 0 rfl) ?_
  refine lv_iload_n hx hb dX3_isMissing_2 rfl (lv_at hl 1 rfl) ?_
  refine lv_iload_n hx hb dX3_isMissing_3 rfl (lv_at hl 2 rfl) ?_
  have hPc := hP.sub (ws' := [(aC, .inr (3, [.ref aL, .ref aCz])), (aCz, .inl (cI, 6, .inl (nF fz))), (aL, .inr (1, [.int (nI nL), .ref aLb, .ref aLe, .ref aLw, .ref aLc, .ref aLd, .ref aLs])), (aLb, .inl (cI, 18, .inl (nF fb))), (aLe, .inl (cI, 18, .inl (nF fe))), (aLw, .inl (cI, 18, .inl fw)), (aLc, .inl (cI, 18, .inl (nF fc))), (aLd, .inl (cI, 18, .inl (nF fd))), (aLs, .inl (cI, 27, .inl (nF fs)))]) [0, 1, 2, 3, 4, 5, 6, 7, 8] rfl
  refine vp_callSi (W.runV (As := [.int (nI q1), .int (nI q2)]) (rest := [.ref aC]) ⟨hx, hb, hml, hown, hts⟩ (k_X3_fullCost l dC dI cI cZ aC aL aCz aLb aLe aLw aLc aLd aLs fz nL fb fe fw fc fd fs q1 q2 bCz bLb bLe bLc bLd bLs (by omega) (by omega)) (cwV 2 hts gX3_isMissing_X3_fullCost rfl rfl rfl (by decide +kernel) ⟨Nat.le_of_ble_eq_true rfl, Nat.le_of_ble_eq_true rfl⟩) (ln_preV (q0 := 0) (ci := 3) hPc hKK rfl rfl) rfl rfl hl.1 rfl (lv_room (Nat.le_of_ble_eq_true rfl)) dX3_isMissing_4 ⟨Nat.le_of_ble_eq_true rfl, Nat.le_of_ble_eq_true rfl⟩) (fun r_1 w_2 => ?_)
  subst w_2
  have hPc := hP.sub (ws' := [(aC, .inr (3, [.ref aL, .ref aCz])), (aCz, .inl (cI, 6, .inl (nF fz)))]) [0, 1] rfl
  refine vp_callSi (W.runV (As := [.int (nI (m_full fb fe fw fc fd fs fz q1 q2))]) (rest := []) ⟨hx, hb, hml, hown, hts⟩ (k_X3_isOverGap l dC dI cI cZ aC aL aCz fz (m_full fb fe fw fc fd fs fz q1 q2) bCz (Nat.lt_of_le_of_lt (m_full_le fb fe fw fc fd fs fz q1 q2 bLb bLe bLs bCz) (by decide))) (cwV 1 hts gX3_isMissing_X3_isOverGap rfl rfl rfl (by decide +kernel) ⟨Nat.le_of_ble_eq_true rfl, Nat.le_of_ble_eq_true rfl⟩) (ln_preV (q0 := 0) (ci := 3) hPc hKK rfl rfl) rfl rfl hl.1 rfl (lv_room (Nat.le_of_ble_eq_true rfl)) dX3_isMissing_7 ⟨Nat.le_of_ble_eq_true rfl, Nat.le_of_ble_eq_true rfl⟩) (fun r_3 w_4 => ?_)
  rcases w_4 with ⟨rfl, c_5⟩ | ⟨rfl, c_5⟩
  · exact W.zret (v := (nI 1)) hx hb hr (by decide) (fun t ht hW => ⟨(nI 1), rfl, Or.inl ⟨rfl, (by assumption)⟩, ht⟩) (fun _ h => by cases h) dX3_isMissing_10
  · exact W.zret (v := (nI 0)) hx hb hr (by decide) (fun t ht hW => ⟨(nI 0), rfl, Or.inr ⟨rfl, (by assumption)⟩, ht⟩) (fun _ h => by cases h) dX3_isMissing_10
theorem mX4_prepare_0 : Cond.fieldLink RX4 28 "LeafOrder$Scale" "pile" "LLeafOrder$Leaves;" ∈ wsX4_prepare := by decide +kernel
theorem mX4_prepare_inX3 : ∀ w ∈ wsX30, w ∈ wsX4_prepare := by decide +kernel
theorem mX4_prepare_2 : Cond.fieldLink RX4 34 "LeafOrder$Leaves" "count" "I" ∈ wsX4_prepare := by decide +kernel
theorem mX4_prepare_inX1 : ∀ w ∈ wsX10, w ∈ wsX4_prepare := by decide +kernel
theorem mX4_prepare_4 : Cond.fieldLink RX4 40 "LeafOrder$Search" "count" "I" ∈ wsX4_prepare := by decide +kernel
theorem mX4_prepare_inX4 : ∀ w ∈ wsX40, w ∈ wsX4_prepare := by decide +kernel
theorem mX4_prepare_6 : Cond.constant RX4 44 (1000000) ∈ wsX4_prepare := by decide +kernel
theorem mX4_prepare_7 : Cond.fieldLink RX4 45 "LeafOrder$Search" "turnCost" "I" ∈ wsX4_prepare := by decide +kernel
theorem mX4_prepare_8 : Cond.fieldLink RX4 9 "LeafOrder$Search" "joins" "[I" ∈ wsX4_prepare := by decide +kernel
theorem mX4_prepare_9 : Cond.fieldLink RX4 41 "LeafOrder$Scale" "sizes" "[I" ∈ wsX4_prepare := by decide +kernel
set_option maxHeartbeats 4000000 in
set_option maxRecDepth 100000 in
theorem k_X4_prepare (l : Launch) (dC : Nat → ClassId) (dI : Nat → Nat → Nat) (cI cZ : ClassId) (aS aR aSj aSl aSs aSo aC aL aCz aLb aLe aLw aLc aLd aLs : Nat) (sn : Nat) (st : Nat) (sb : Nat) (sx : Nat) (sj : Nat → Nat) (fz : Nat → Nat) (nL : Nat) (fb : Nat → Nat) (fe : Nat → Nat) (fw : Nat → Int32) (fc : Nat → Nat) (fd : Nat → Nat) (fs : Nat → Nat) (mt : Nat) (sz : Nat) (bSj : ∀ k, sj k ≤ 10000) (bCz : ∀ k, fz k ≤ 999) (bLb : ∀ k, fb k ≤ 99) (bLe : ∀ k, fe k ≤ 99) (bLc : ∀ k, fc k ≤ 99) (bLd : ∀ k, fd k ≤ 99) (bLs : ∀ k, fs k ≤ 99) (hn : nL ≤ 9) (hz : fz 0 ≤ 9 ∧ fz 1 ≤ 9) (bmt : mt < 2) : Met l yX4_prepare wsX4_prepare { frames := 4, cells := 0, slots := 0, locals := 95 } (va_Pc [.ref aS, .ref aC, .int (nI mt)] (fun U => U.heap.size = sz ∧ va_P (dC, dI) vwCl [(aS, .inr (4, [.ref aR, .ref aSj, .ref aSl, .ref aSs, .ref aSo, .int (nI sn), .int (nI st), .int (nI sb), .int (nI sx)])), (aSj, .inl (cI, 324, .inl (nF sj))), (aC, .inr (3, [.ref aL, .ref aCz])), (aCz, .inl (cI, 6, .inl (nF fz))), (aL, .inr (1, [.int (nI nL), .ref aLb, .ref aLe, .ref aLw, .ref aLc, .ref aLd, .ref aLs])), (aLb, .inl (cI, 18, .inl (nF fb))), (aLe, .inl (cI, 18, .inl (nF fe))), (aLw, .inl (cI, 18, .inl fw)), (aLc, .inl (cI, 18, .inl (nF fc))), (aLd, .inl (cI, 18, .inl (nF fd))), (aLs, .inl (cI, 27, .inl (nF fs)))] U.heap ∧ lK dC dI cI cZ U ∧ va_D (fun _ => True) [(aS, .inr (4, [.ref aR, .ref aSj, .ref aSl, .ref aSs, .ref aSo, .int (nI sn), .int (nI st), .int (nI sb), .int (nI sx)])), (aSj, .inl (cI, 324, .inl (nF sj))), (aC, .inr (3, [.ref aL, .ref aCz])), (aCz, .inl (cI, 6, .inl (nF fz))), (aL, .inr (1, [.int (nI nL), .ref aLb, .ref aLe, .ref aLw, .ref aLc, .ref aLd, .ref aLs])), (aLb, .inl (cI, 18, .inl (nF fb))), (aLe, .inl (cI, 18, .inl (nF fe))), (aLw, .inl (cI, 18, .inl fw)), (aLc, .inl (cI, 18, .inl (nF fc))), (aLd, .inl (cI, 18, .inl (nF fd))), (aLs, .inl (cI, 27, .inl (nF fs)))])) (va_Qv (fun (u : (Nat) × (Nat) × (Nat → Nat)) => match u with | (snz, stz, sjz) => snz = nL ∧ stz = (if mt = 0 then 1000000 else fz 4) ∧ sjz = m_prep nL (m_join fb fe fw fc fd fs fz) sj (2 * nL) ∧ ∀ k, sjz k ≤ 10000) (fun (u : (Nat) × (Nat) × (Nat → Nat)) (t : State) => match u with | (snz, stz, sjz) => va_P (dC, dI) vwCl [(aS, .inr (4, [.ref aR, .ref aSj, .ref aSl, .ref aSs, .ref aSo, .int (nI snz), .int (nI stz), .int (nI sb), .int (nI sx)])), (aSj, .inl (cI, 324, .inl (nF sjz))), (aC, .inr (3, [.ref aL, .ref aCz])), (aCz, .inl (cI, 6, .inl (nF fz))), (aL, .inr (1, [.int (nI nL), .ref aLb, .ref aLe, .ref aLw, .ref aLc, .ref aLd, .ref aLs])), (aLb, .inl (cI, 18, .inl (nF fb))), (aLe, .inl (cI, 18, .inl (nF fe))), (aLw, .inl (cI, 18, .inl fw)), (aLc, .inl (cI, 18, .inl (nF fc))), (aLd, .inl (cI, 18, .inl (nF fd))), (aLs, .inl (cI, 27, .inl (nF fs)))] t.heap ∧ va_D (va_A [(aS, .inr (4, [.ref aR, .ref aSj, .ref aSl, .ref aSs, .ref aSo, .int (nI sn), .int (nI st), .int (nI sb), .int (nI sx)])), (aSj, .inl (cI, 324, .inl (nF sj))), (aC, .inr (3, [.ref aL, .ref aCz])), (aCz, .inl (cI, 6, .inl (nF fz))), (aL, .inr (1, [.int (nI nL), .ref aLb, .ref aLe, .ref aLw, .ref aLc, .ref aLd, .ref aLs])), (aLb, .inl (cI, 18, .inl (nF fb))), (aLe, .inl (cI, 18, .inl (nF fe))), (aLw, .inl (cI, 18, .inl fw)), (aLc, .inl (cI, 18, .inl (nF fc))), (aLd, .inl (cI, 18, .inl (nF fd))), (aLs, .inl (cI, 27, .inl (nF fs)))] sz) [(aS, .inr (4, [.ref aR, .ref aSj, .ref aSl, .ref aSs, .ref aSo, .int (nI snz), .int (nI stz), .int (nI sb), .int (nI sx)])), (aSj, .inl (cI, 324, .inl (nF sjz))), (aC, .inr (3, [.ref aL, .ref aCz])), (aCz, .inl (cI, 6, .inl (nF fz))), (aL, .inr (1, [.int (nI nL), .ref aLb, .ref aLe, .ref aLw, .ref aLc, .ref aLd, .ref aLs])), (aLb, .inl (cI, 18, .inl (nF fb))), (aLe, .inl (cI, 18, .inl (nF fe))), (aLw, .inl (cI, 18, .inl fw)), (aLc, .inl (cI, 18, .inl (nF fc))), (aLd, .inl (cI, 18, .inl (nF fd))), (aLs, .inl (cI, 27, .inl (nF fs)))]) (va_A [(aS, .inr (4, [.ref aR, .ref aSj, .ref aSl, .ref aSs, .ref aSo, .int (nI sn), .int (nI st), .int (nI sb), .int (nI sx)])), (aSj, .inl (cI, 324, .inl (nF sj))), (aC, .inr (3, [.ref aL, .ref aCz])), (aCz, .inl (cI, 6, .inl (nF fz))), (aL, .inr (1, [.int (nI nL), .ref aLb, .ref aLe, .ref aLw, .ref aLc, .ref aLd, .ref aLs])), (aLb, .inl (cI, 18, .inl (nF fb))), (aLe, .inl (cI, 18, .inl (nF fe))), (aLw, .inl (cI, 18, .inl fw)), (aLc, .inl (cI, 18, .inl (nF fc))), (aLd, .inl (cI, 18, .inl (nF fd))), (aLs, .inl (cI, 27, .inl (nF fs)))] sz)) 0 0 (va_A [(aS, .inr (4, [.ref aR, .ref aSj, .ref aSl, .ref aSs, .ref aSo, .int (nI sn), .int (nI st), .int (nI sb), .int (nI sx)])), (aSj, .inl (cI, 324, .inl (nF sj))), (aC, .inr (3, [.ref aL, .ref aCz])), (aCz, .inl (cI, 6, .inl (nF fz))), (aL, .inr (1, [.int (nI nL), .ref aLb, .ref aLe, .ref aLw, .ref aLc, .ref aLd, .ref aLs])), (aLb, .inl (cI, 18, .inl (nF fb))), (aLe, .inl (cI, 18, .inl (nF fe))), (aLw, .inl (cI, 18, .inl fw)), (aLc, .inl (cI, 18, .inl (nF fc))), (aLd, .inl (cI, 18, .inl (nF fd))), (aLs, .inl (cI, 27, .inl (nF fs)))] sz) := by
  refine Met.ofW (cc := cX4_prepare) (maxL := 5) (ret := none) (by decide) rfl ?_
  intro p e s m args below meth c s₁ B hml hv
  obtain ⟨rfl, hsz, hP, hKK, hD0⟩ := hv
  have hK := hKK.1
  have hx := B.exec
  have hb := B.bytes
  have hr := B.returns
  have hts := atoms_spec (ws := wsX4_prepare) B.pre
  have hown : s.vm.findClass RX4 = some m.cls := findClass_of_methodNamed B.named
  have hlocks := B.notSynchronized
  subst hsz
  have hD := hD0.self (sz := s.heap.size)
  generalize hAe : va_A [(aS, .inr (4, [.ref aR, .ref aSj, .ref aSl, .ref aSs, .ref aSo, .int (nI sn), .int (nI st), .int (nI sb), .int (nI sx)])), (aSj, .inl (cI, 324, .inl (nF sj))), (aC, .inr (3, [.ref aL, .ref aCz])), (aCz, .inl (cI, 6, .inl (nF fz))), (aL, .inr (1, [.int (nI nL), .ref aLb, .ref aLe, .ref aLw, .ref aLc, .ref aLd, .ref aLs])), (aLb, .inl (cI, 18, .inl (nF fb))), (aLe, .inl (cI, 18, .inl (nF fe))), (aLw, .inl (cI, 18, .inl fw)), (aLc, .inl (cI, 18, .inl (nF fc))), (aLd, .inl (cI, 18, .inl (nF fd))), (aLs, .inl (cI, 27, .inl (nF fs)))] s.heap.size = A at hD ⊢
  have hA : ∀ q : Nat, s.heap.size ≤ q → A q := fun q h => by rw [← hAe]; exact Or.inr h
  have hS : va_S A s.heap s.heap [] := va_S.rf
  have hl := lv_entry ([.ref aS, .ref aC, .int (nI mt)]) (n := 5) (Nat.le_of_ble_eq_true rfl)
  rw [lg_entry_eq]
  generalize (lg_sl ([.ref aS, .ref aC, .int (nI mt)]) ++ List.replicate (5 - (lg_sl ([.ref aS, .ref aC, .int (nI mt)])).length) Slot.unset).toArray = ls at hl ⊢
  have hl : lv_has ls 5 [(0, .ref aS), (1, .ref aC), (2, .int (nI mt))] := hl
  refine lv_aload_n hx hb dX4_prepare_0 rfl (lv_at hl 0 rfl) ?_
  refine lv_aload_n hx hb dX4_prepare_1 rfl (lv_at hl 1 rfl) ?_
  refine va_get (D := (dC, dI)) (ci := 3) (v := .ref aL) (C := RX3) (T := TX3) (N := 2) hx hb hts mX4_prepare_inX3 hown hK hP 2 rfl rfl 0 (by decide) (hts (.fieldLink RX4 28 "LeafOrder$Scale" "pile" "LLeafOrder$Leaves;") mX4_prepare_0) (fun _ h9 => h9) rfl dX4_prepare_2 ?_
  refine va_get (D := (dC, dI)) (ci := 1) (v := .int (nI nL)) (C := RX1) (T := TX1) (N := 7) hx hb hts mX4_prepare_inX1 hown hK hP 4 rfl rfl 0 (by decide) (hts (.fieldLink RX4 34 "LeafOrder$Leaves" "count" "I") mX4_prepare_2) (fun _ h9 => h9) rfl dX4_prepare_5 ?_
  refine va_put (D := (dC, dI)) (ci := 4) (v := .int (nI nL)) (ty := .int) (C := RX4) (T := TX4) (N := 9) hx hb hts mX4_prepare_inX4 tyX4 tyX4_ok nmX4 hown hK hP hD hS 0 rfl rfl 5 (by decide) (hts (.fieldLink RX4 40 "LeafOrder$Search" "count" "I") mX4_prepare_4) (fun _ h9 => h9) rfl (by decide +kernel) rfl rfl (Nat.le_of_ble_eq_true rfl) dX4_prepare_8 (fun H locs hP hD hS => ?_)
  have hP : va_P (dC, dI) vwCl [(aS, .inr (4, [.ref aR, .ref aSj, .ref aSl, .ref aSs, .ref aSo, .int (nI nL), .int (nI st), .int (nI sb), .int (nI sx)])), (aSj, .inl (cI, 324, .inl (nF sj))), (aC, .inr (3, [.ref aL, .ref aCz])), (aCz, .inl (cI, 6, .inl (nF fz))), (aL, .inr (1, [.int (nI nL), .ref aLb, .ref aLe, .ref aLw, .ref aLc, .ref aLd, .ref aLs])), (aLb, .inl (cI, 18, .inl (nF fb))), (aLe, .inl (cI, 18, .inl (nF fe))), (aLw, .inl (cI, 18, .inl fw)), (aLc, .inl (cI, 18, .inl (nF fc))), (aLd, .inl (cI, 18, .inl (nF fd))), (aLs, .inl (cI, 27, .inl (nF fs)))] H := hP
  have hD : va_D A [(aS, .inr (4, [.ref aR, .ref aSj, .ref aSl, .ref aSs, .ref aSo, .int (nI nL), .int (nI st), .int (nI sb), .int (nI sx)])), (aSj, .inl (cI, 324, .inl (nF sj))), (aC, .inr (3, [.ref aL, .ref aCz])), (aCz, .inl (cI, 6, .inl (nF fz))), (aL, .inr (1, [.int (nI nL), .ref aLb, .ref aLe, .ref aLw, .ref aLc, .ref aLd, .ref aLs])), (aLb, .inl (cI, 18, .inl (nF fb))), (aLe, .inl (cI, 18, .inl (nF fe))), (aLw, .inl (cI, 18, .inl fw)), (aLc, .inl (cI, 18, .inl (nF fc))), (aLd, .inl (cI, 18, .inl (nF fd))), (aLs, .inl (cI, 27, .inl (nF fs)))] := hD
  refine lv_aload_n hx hb dX4_prepare_11 rfl (lv_at hl 0 rfl) ?_
  refine lv_iload_n hx hb dX4_prepare_12 rfl (lv_at hl 2 rfl) ?_
  refine ln_if_eq (tgt := 25) hx hb dX4_prepare_13 (by decide) (by have := bmt; omega) (fun c_1 => ?_) (fun c_1 => ?_)
  · refine lv_ldc (v := nI 1000000) hx hb hown (hts (.constant RX4 44 (1000000)) mX4_prepare_6) dX4_prepare_25 ?_
    refine va_put (D := (dC, dI)) (ci := 4) (v := .int (nI 1000000)) (ty := .int) (C := RX4) (T := TX4) (N := 9) hx hb hts mX4_prepare_inX4 tyX4 tyX4_ok nmX4 hown hK hP hD hS 0 rfl rfl 6 (by decide) (hts (.fieldLink RX4 45 "LeafOrder$Search" "turnCost" "I") mX4_prepare_7) (fun _ h9 => h9) rfl (by decide +kernel) rfl rfl (Nat.le_of_ble_eq_true rfl) dX4_prepare_27 (fun H locs hP hD hS => ?_)
    have hP : va_P (dC, dI) vwCl [(aS, .inr (4, [.ref aR, .ref aSj, .ref aSl, .ref aSs, .ref aSo, .int (nI nL), .int (nI 1000000), .int (nI sb), .int (nI sx)])), (aSj, .inl (cI, 324, .inl (nF sj))), (aC, .inr (3, [.ref aL, .ref aCz])), (aCz, .inl (cI, 6, .inl (nF fz))), (aL, .inr (1, [.int (nI nL), .ref aLb, .ref aLe, .ref aLw, .ref aLc, .ref aLd, .ref aLs])), (aLb, .inl (cI, 18, .inl (nF fb))), (aLe, .inl (cI, 18, .inl (nF fe))), (aLw, .inl (cI, 18, .inl fw)), (aLc, .inl (cI, 18, .inl (nF fc))), (aLd, .inl (cI, 18, .inl (nF fd))), (aLs, .inl (cI, 27, .inl (nF fs)))] H := hP
    have hD : va_D A [(aS, .inr (4, [.ref aR, .ref aSj, .ref aSl, .ref aSs, .ref aSo, .int (nI nL), .int (nI 1000000), .int (nI sb), .int (nI sx)])), (aSj, .inl (cI, 324, .inl (nF sj))), (aC, .inr (3, [.ref aL, .ref aCz])), (aCz, .inl (cI, 6, .inl (nF fz))), (aL, .inr (1, [.int (nI nL), .ref aLb, .ref aLe, .ref aLw, .ref aLc, .ref aLd, .ref aLs])), (aLb, .inl (cI, 18, .inl (nF fb))), (aLe, .inl (cI, 18, .inl (nF fe))), (aLw, .inl (cI, 18, .inl fw)), (aLc, .inl (cI, 18, .inl (nF fc))), (aLd, .inl (cI, 18, .inl (nF fd))), (aLs, .inl (cI, 27, .inl (nF fs)))] := hD
    refine lv_iconst (v := nI 0) hx hb dX4_prepare_30 (by decide) ?_
    refine lv_istore_n (lv' := [(3, .int (nI 0)), (0, .ref aS), (1, .ref aC), (2, .int (nI mt))]) hx hb dX4_prepare_31 rfl hl (by decide) rfl (fun ls hl => ?_)
    have LP32 : ∀ (n32 : Nat) (a : Nat) (sja : Nat → Nat), 2 * nL - a < n32 → (∀ k, sja k ≤ 10000) → (a ≤ 2 * nL) → (sja = m_prep nL (m_join fb fe fw fc fd fs fz) sj a) → ∀ (H : Heap) (locs : List Loc), va_P (dC, dI) vwCl [(aS, .inr (4, [.ref aR, .ref aSj, .ref aSl, .ref aSs, .ref aSo, .int (nI nL), .int (nI 1000000), .int (nI sb), .int (nI sx)])), (aSj, .inl (cI, 324, .inl (nF sja))), (aC, .inr (3, [.ref aL, .ref aCz])), (aCz, .inl (cI, 6, .inl (nF fz))), (aL, .inr (1, [.int (nI nL), .ref aLb, .ref aLe, .ref aLw, .ref aLc, .ref aLd, .ref aLs])), (aLb, .inl (cI, 18, .inl (nF fb))), (aLe, .inl (cI, 18, .inl (nF fe))), (aLw, .inl (cI, 18, .inl fw)), (aLc, .inl (cI, 18, .inl (nF fc))), (aLd, .inl (cI, 18, .inl (nF fd))), (aLs, .inl (cI, 27, .inl (nF fs)))] H → va_D A [(aS, .inr (4, [.ref aR, .ref aSj, .ref aSl, .ref aSs, .ref aSo, .int (nI nL), .int (nI 1000000), .int (nI sb), .int (nI sx)])), (aSj, .inl (cI, 324, .inl (nF sja))), (aC, .inr (3, [.ref aL, .ref aCz])), (aCz, .inl (cI, 6, .inl (nF fz))), (aL, .inr (1, [.int (nI nL), .ref aLb, .ref aLe, .ref aLw, .ref aLc, .ref aLd, .ref aLs])), (aLb, .inl (cI, 18, .inl (nF fb))), (aLe, .inl (cI, 18, .inl (nF fe))), (aLw, .inl (cI, 18, .inl fw)), (aLc, .inl (cI, 18, .inl (nF fc))), (aLd, .inl (cI, 18, .inl (nF fd))), (aLs, .inl (cI, 27, .inl (nF fs)))] → va_S A s.heap H locs → ∀ (ls : Array Slot), lv_has ls 5 [(0, .ref aS), (1, .ref aC), (2, .int (nI mt)), (3, .int (nI a))] → W p l e { frames := 4, cells := 0, slots := 0, locals := 95 } s m [.ref aS, .ref aC, .int (nI mt)].toArray below meth c H locs 0 0 (MQ below (va_Qv (fun (u : (Nat) × (Nat) × (Nat → Nat)) => match u with | (snz, stz, sjz) => snz = nL ∧ stz = (if mt = 0 then 1000000 else fz 4) ∧ sjz = m_prep nL (m_join fb fe fw fc fd fs fz) sj (2 * nL) ∧ ∀ k, sjz k ≤ 10000) (fun (u : (Nat) × (Nat) × (Nat → Nat)) (t : State) => match u with | (snz, stz, sjz) => va_P (dC, dI) vwCl [(aS, .inr (4, [.ref aR, .ref aSj, .ref aSl, .ref aSs, .ref aSo, .int (nI snz), .int (nI stz), .int (nI sb), .int (nI sx)])), (aSj, .inl (cI, 324, .inl (nF sjz))), (aC, .inr (3, [.ref aL, .ref aCz])), (aCz, .inl (cI, 6, .inl (nF fz))), (aL, .inr (1, [.int (nI nL), .ref aLb, .ref aLe, .ref aLw, .ref aLc, .ref aLd, .ref aLs])), (aLb, .inl (cI, 18, .inl (nF fb))), (aLe, .inl (cI, 18, .inl (nF fe))), (aLw, .inl (cI, 18, .inl fw)), (aLc, .inl (cI, 18, .inl (nF fc))), (aLd, .inl (cI, 18, .inl (nF fd))), (aLs, .inl (cI, 27, .inl (nF fs)))] t.heap ∧ va_D A [(aS, .inr (4, [.ref aR, .ref aSj, .ref aSl, .ref aSs, .ref aSo, .int (nI snz), .int (nI stz), .int (nI sb), .int (nI sx)])), (aSj, .inl (cI, 324, .inl (nF sjz))), (aC, .inr (3, [.ref aL, .ref aCz])), (aCz, .inl (cI, 6, .inl (nF fz))), (aL, .inr (1, [.int (nI nL), .ref aLb, .ref aLe, .ref aLw, .ref aLc, .ref aLd, .ref aLs])), (aLb, .inl (cI, 18, .inl (nF fb))), (aLe, .inl (cI, 18, .inl (nF fe))), (aLw, .inl (cI, 18, .inl fw)), (aLc, .inl (cI, 18, .inl (nF fc))), (aLd, .inl (cI, 18, .inl (nF fd))), (aLs, .inl (cI, 27, .inl (nF fs)))]) A) [.ref aS, .ref aC, .int (nI mt)].toArray s 0 0 A) (F0 m 32 ls []) := by
      intro n32
      induction n32 with
      | zero =>
        intro a sja hm
        exact absurd hm (Nat.not_lt_zero _)
      | succ n32 ih32 =>
        intro a sja hm32 bSja ha hja H locs hP hD hS ls hl
        refine lv_iload_n hx hb dX4_prepare_32 rfl (lv_at hl 3 rfl) ?_
        refine lv_iconst (v := nI 2) hx hb dX4_prepare_33 (by decide) ?_
        refine lv_aload_n hx hb dX4_prepare_34 rfl (lv_at hl 0 rfl) ?_
        refine va_get (D := (dC, dI)) (ci := 4) (v := .int (nI nL)) (C := RX4) (T := TX4) (N := 9) hx hb hts mX4_prepare_inX4 hown hK hP 0 rfl rfl 5 (by decide) (hts (.fieldLink RX4 40 "LeafOrder$Search" "count" "I") mX4_prepare_4) (fun _ h9 => h9) rfl dX4_prepare_35 ?_
        refine ln_imul hx hb dX4_prepare_38 ?_
        refine ln_icmp_ge (tgt := 87) hx hb dX4_prepare_39 (by decide) (by omega) (by omega) (fun c_2 => ?_) (fun c_2 => ?_)
        · exact W.vret hx hb hr (fun t ht hW => ⟨⟨(nL, 1000000, sja), rfl, ⟨rfl, (by rw [if_pos c_1]), (by rw [hja, show a = 2 * nL by omega]), bSja⟩, by rw [ht]; exact hP, hD⟩, hS.F ht⟩) hS.2.2 dX4_prepare_87
        · refine lv_iconst (v := nI 0) hx hb dX4_prepare_42 (by decide) ?_
          refine lv_istore (lv' := [(4, .int (nI 0)), (0, .ref aS), (1, .ref aC), (2, .int (nI mt)), (3, .int (nI a))]) hx hb dX4_prepare_43 hl (by decide) rfl (fun ls hl => ?_)
          have LP45 : ∀ (n45 : Nat) (b : Nat) (sjb : Nat → Nat), 2 * nL - b < n45 → (∀ k, sjb k ≤ 10000) → (b ≤ 2 * nL) → (sjb = m_joins nL (m_join fb fe fw fc fd fs fz) sja a b) → ∀ (H : Heap) (locs : List Loc), va_P (dC, dI) vwCl [(aS, .inr (4, [.ref aR, .ref aSj, .ref aSl, .ref aSs, .ref aSo, .int (nI nL), .int (nI 1000000), .int (nI sb), .int (nI sx)])), (aSj, .inl (cI, 324, .inl (nF sjb))), (aC, .inr (3, [.ref aL, .ref aCz])), (aCz, .inl (cI, 6, .inl (nF fz))), (aL, .inr (1, [.int (nI nL), .ref aLb, .ref aLe, .ref aLw, .ref aLc, .ref aLd, .ref aLs])), (aLb, .inl (cI, 18, .inl (nF fb))), (aLe, .inl (cI, 18, .inl (nF fe))), (aLw, .inl (cI, 18, .inl fw)), (aLc, .inl (cI, 18, .inl (nF fc))), (aLd, .inl (cI, 18, .inl (nF fd))), (aLs, .inl (cI, 27, .inl (nF fs)))] H → va_D A [(aS, .inr (4, [.ref aR, .ref aSj, .ref aSl, .ref aSs, .ref aSo, .int (nI nL), .int (nI 1000000), .int (nI sb), .int (nI sx)])), (aSj, .inl (cI, 324, .inl (nF sjb))), (aC, .inr (3, [.ref aL, .ref aCz])), (aCz, .inl (cI, 6, .inl (nF fz))), (aL, .inr (1, [.int (nI nL), .ref aLb, .ref aLe, .ref aLw, .ref aLc, .ref aLd, .ref aLs])), (aLb, .inl (cI, 18, .inl (nF fb))), (aLe, .inl (cI, 18, .inl (nF fe))), (aLw, .inl (cI, 18, .inl fw)), (aLc, .inl (cI, 18, .inl (nF fc))), (aLd, .inl (cI, 18, .inl (nF fd))), (aLs, .inl (cI, 27, .inl (nF fs)))] → va_S A s.heap H locs → ∀ (ls : Array Slot), lv_has ls 5 [(0, .ref aS), (1, .ref aC), (2, .int (nI mt)), (3, .int (nI a)), (4, .int (nI b))] → W p l e { frames := 4, cells := 0, slots := 0, locals := 95 } s m [.ref aS, .ref aC, .int (nI mt)].toArray below meth c H locs 0 0 (MQ below (va_Qv (fun (u : (Nat) × (Nat) × (Nat → Nat)) => match u with | (snz, stz, sjz) => snz = nL ∧ stz = (if mt = 0 then 1000000 else fz 4) ∧ sjz = m_prep nL (m_join fb fe fw fc fd fs fz) sj (2 * nL) ∧ ∀ k, sjz k ≤ 10000) (fun (u : (Nat) × (Nat) × (Nat → Nat)) (t : State) => match u with | (snz, stz, sjz) => va_P (dC, dI) vwCl [(aS, .inr (4, [.ref aR, .ref aSj, .ref aSl, .ref aSs, .ref aSo, .int (nI snz), .int (nI stz), .int (nI sb), .int (nI sx)])), (aSj, .inl (cI, 324, .inl (nF sjz))), (aC, .inr (3, [.ref aL, .ref aCz])), (aCz, .inl (cI, 6, .inl (nF fz))), (aL, .inr (1, [.int (nI nL), .ref aLb, .ref aLe, .ref aLw, .ref aLc, .ref aLd, .ref aLs])), (aLb, .inl (cI, 18, .inl (nF fb))), (aLe, .inl (cI, 18, .inl (nF fe))), (aLw, .inl (cI, 18, .inl fw)), (aLc, .inl (cI, 18, .inl (nF fc))), (aLd, .inl (cI, 18, .inl (nF fd))), (aLs, .inl (cI, 27, .inl (nF fs)))] t.heap ∧ va_D A [(aS, .inr (4, [.ref aR, .ref aSj, .ref aSl, .ref aSs, .ref aSo, .int (nI snz), .int (nI stz), .int (nI sb), .int (nI sx)])), (aSj, .inl (cI, 324, .inl (nF sjz))), (aC, .inr (3, [.ref aL, .ref aCz])), (aCz, .inl (cI, 6, .inl (nF fz))), (aL, .inr (1, [.int (nI nL), .ref aLb, .ref aLe, .ref aLw, .ref aLc, .ref aLd, .ref aLs])), (aLb, .inl (cI, 18, .inl (nF fb))), (aLe, .inl (cI, 18, .inl (nF fe))), (aLw, .inl (cI, 18, .inl fw)), (aLc, .inl (cI, 18, .inl (nF fc))), (aLd, .inl (cI, 18, .inl (nF fd))), (aLs, .inl (cI, 27, .inl (nF fs)))]) A) [.ref aS, .ref aC, .int (nI mt)].toArray s 0 0 A) (F0 m 45 ls []) := by
            intro n45
            induction n45 with
            | zero =>
              intro b sjb hm
              exact absurd hm (Nat.not_lt_zero _)
            | succ n45 ih45 =>
              intro b sjb hm45 bSjb hbb hjb H locs hP hD hS ls hl
              refine lv_iload hx hb dX4_prepare_45 (lv_at hl 4 rfl) ?_
              refine lv_iconst (v := nI 2) hx hb dX4_prepare_47 (by decide) ?_
              refine lv_aload_n hx hb dX4_prepare_48 rfl (lv_at hl 0 rfl) ?_
              refine va_get (D := (dC, dI)) (ci := 4) (v := .int (nI nL)) (C := RX4) (T := TX4) (N := 9) hx hb hts mX4_prepare_inX4 hown hK hP 0 rfl rfl 5 (by decide) (hts (.fieldLink RX4 40 "LeafOrder$Search" "count" "I") mX4_prepare_4) (fun _ h9 => h9) rfl dX4_prepare_49 ?_
              refine ln_imul hx hb dX4_prepare_52 ?_
              refine ln_icmp_ge (tgt := 81) hx hb dX4_prepare_53 (by decide) (by omega) (by omega) (fun c_3 => ?_) (fun c_3 => ?_)
              · refine lv_iinc (v := (nI (a + 1))) (lv' := [(3, .int (nI (a + 1))), (0, .ref aS), (1, .ref aC), (2, .int (nI mt)), (4, .int (nI b))]) hx hb dX4_prepare_81 hl (k := 3) rfl (by first | exact nI_1 _ | rfl) (by decide) rfl (fun ls hl => ?_)
                refine lv_goto (tgt := 32) hx hb dX4_prepare_84 (by decide) ?_
                exact ih32 (a + 1) sjb (by omega) bSjb (by omega) (by rw [hjb, show b = 2 * nL by omega, m_prep, ← hja]) _ _ hP hD hS ls (lv_sub hl [1, 2, 3, 0] rfl)
              · refine lv_aload_n hx hb dX4_prepare_56 rfl (lv_at hl 0 rfl) ?_
                refine va_get (D := (dC, dI)) (ci := 4) (v := .ref aSj) (C := RX4) (T := TX4) (N := 9) hx hb hts mX4_prepare_inX4 hown hK hP 0 rfl rfl 1 (by decide) (hts (.fieldLink RX4 9 "LeafOrder$Search" "joins" "[I") mX4_prepare_8) (fun _ h9 => h9) rfl dX4_prepare_57 ?_
                refine lv_iload_n hx hb dX4_prepare_60 rfl (lv_at hl 3 rfl) ?_
                refine lv_bipush (v := nI 18) hx hb dX4_prepare_61 (by decide) ?_
                refine ln_imul hx hb dX4_prepare_63 ?_
                refine lv_iload hx hb dX4_prepare_64 (lv_at hl 4 rfl) ?_
                refine ln_iadd hx hb dX4_prepare_66 ?_
                refine lv_aload_n hx hb dX4_prepare_67 rfl (lv_at hl 1 rfl) ?_
                refine lv_iload_n hx hb dX4_prepare_68 rfl (lv_at hl 3 rfl) ?_
                refine lv_iload hx hb dX4_prepare_69 (lv_at hl 4 rfl) ?_
                have hPc := hP.sub (ws' := [(aC, .inr (3, [.ref aL, .ref aCz])), (aCz, .inl (cI, 6, .inl (nF fz))), (aL, .inr (1, [.int (nI nL), .ref aLb, .ref aLe, .ref aLw, .ref aLc, .ref aLd, .ref aLs])), (aLb, .inl (cI, 18, .inl (nF fb))), (aLe, .inl (cI, 18, .inl (nF fe))), (aLw, .inl (cI, 18, .inl fw)), (aLc, .inl (cI, 18, .inl (nF fc))), (aLd, .inl (cI, 18, .inl (nF fd))), (aLs, .inl (cI, 27, .inl (nF fs)))]) [2, 3, 4, 5, 6, 7, 8, 9, 10] rfl
                refine vp_callSi (W.runV (As := [.int (nI a), .int (nI b)]) (rest := [.int (nI ((a * 18) + b)), .ref aSj]) ⟨hx, hb, hml, hown, hts⟩ (k_X3_joinCost l dC dI cI cZ aC aL aCz aLb aLe aLw aLc aLd aLs fz nL fb fe fw fc fd fs a b bCz bLb bLe bLc bLd bLs (by omega) (by omega)) (cwV 2 hts gX4_prepare_X3_joinCost rfl rfl rfl (by decide +kernel) ⟨Nat.le_of_ble_eq_true rfl, Nat.le_of_ble_eq_true rfl⟩) (ln_preV (q0 := 0) (ci := 3) hPc hKK rfl rfl) rfl rfl hl.1 rfl (lv_room (Nat.le_of_ble_eq_true rfl)) dX4_prepare_71 ⟨Nat.le_of_ble_eq_true rfl, Nat.le_of_ble_eq_true rfl⟩) (fun r_4 w_5 => ?_)
                subst w_5
                have hjl := m_join_le fb fe fw fc fd fs fz a b bLb bLe bLs bCz hz
                refine ln_iast (i := (a * 18) + b) hx hb hK hP hD hS 1 0 rfl rfl (by omega) (by decide) dX4_prepare_74 (fun H locs hP hD hS => ?_)
                have b_6 : ∀ k, (upN sjb ((a * 18) + b) (m_join fb fe fw fc fd fs fz a b)) k ≤ 10000 := upN_le bSjb (by omega)
                have hP : va_P (dC, dI) vwCl [(aS, .inr (4, [.ref aR, .ref aSj, .ref aSl, .ref aSs, .ref aSo, .int (nI nL), .int (nI 1000000), .int (nI sb), .int (nI sx)])), (aSj, .inl (cI, 324, .inl (nF (upN sjb ((a * 18) + b) (m_join fb fe fw fc fd fs fz a b))))), (aC, .inr (3, [.ref aL, .ref aCz])), (aCz, .inl (cI, 6, .inl (nF fz))), (aL, .inr (1, [.int (nI nL), .ref aLb, .ref aLe, .ref aLw, .ref aLc, .ref aLd, .ref aLs])), (aLb, .inl (cI, 18, .inl (nF fb))), (aLe, .inl (cI, 18, .inl (nF fe))), (aLw, .inl (cI, 18, .inl fw)), (aLc, .inl (cI, 18, .inl (nF fc))), (aLd, .inl (cI, 18, .inl (nF fd))), (aLs, .inl (cI, 27, .inl (nF fs)))] H := hP
                have hD : va_D A [(aS, .inr (4, [.ref aR, .ref aSj, .ref aSl, .ref aSs, .ref aSo, .int (nI nL), .int (nI 1000000), .int (nI sb), .int (nI sx)])), (aSj, .inl (cI, 324, .inl (nF (upN sjb ((a * 18) + b) (m_join fb fe fw fc fd fs fz a b))))), (aC, .inr (3, [.ref aL, .ref aCz])), (aCz, .inl (cI, 6, .inl (nF fz))), (aL, .inr (1, [.int (nI nL), .ref aLb, .ref aLe, .ref aLw, .ref aLc, .ref aLd, .ref aLs])), (aLb, .inl (cI, 18, .inl (nF fb))), (aLe, .inl (cI, 18, .inl (nF fe))), (aLw, .inl (cI, 18, .inl fw)), (aLc, .inl (cI, 18, .inl (nF fc))), (aLd, .inl (cI, 18, .inl (nF fd))), (aLs, .inl (cI, 27, .inl (nF fs)))] := hD
                refine lv_iinc (v := (nI (b + 1))) (lv' := [(4, .int (nI (b + 1))), (0, .ref aS), (1, .ref aC), (2, .int (nI mt)), (3, .int (nI a))]) hx hb dX4_prepare_75 hl (k := 4) rfl (by first | exact nI_1 _ | rfl) (by decide) rfl (fun ls hl => ?_)
                refine lv_goto (tgt := 45) hx hb dX4_prepare_78 (by decide) ?_
                exact ih45 (b + 1) (upN sjb ((a * 18) + b) (m_join fb fe fw fc fd fs fz a b)) (by omega) b_6 (by omega) (by rw [m_joins, ← hjb]) _ _ hP hD hS ls (lv_sub hl [1, 2, 3, 4, 0] rfl)
          exact LP45 _ 0 sja (Nat.lt_succ_self _) bSja (Nat.zero_le _) rfl _ _ hP hD hS ls (lv_sub hl [1, 2, 3, 4, 0] rfl)
    exact LP32 _ 0 sj (Nat.lt_succ_self _) bSj (Nat.zero_le _) rfl _ _ hP hD hS ls (lv_sub hl [1, 2, 3, 0] rfl)
  · refine lv_aload_n hx hb dX4_prepare_16 rfl (lv_at hl 1 rfl) ?_
    refine va_get (D := (dC, dI)) (ci := 3) (v := .ref aCz) (C := RX3) (T := TX3) (N := 2) hx hb hts mX4_prepare_inX3 hown hK hP 2 rfl rfl 1 (by decide) (hts (.fieldLink RX4 41 "LeafOrder$Scale" "sizes" "[I") mX4_prepare_9) (fun _ h9 => h9) rfl dX4_prepare_17 ?_
    refine lv_iconst (v := nI 4) hx hb dX4_prepare_20 (by decide) ?_
    refine ln_iald (i := 4) hx hb hK hP 3 0 rfl rfl (by omega) (by decide) dX4_prepare_21 ?_
    have b_7 := bCz 4
    refine lv_goto (tgt := 27) hx hb dX4_prepare_22 (by decide) ?_
    refine va_put (D := (dC, dI)) (ci := 4) (v := .int (nI (fz 4))) (ty := .int) (C := RX4) (T := TX4) (N := 9) hx hb hts mX4_prepare_inX4 tyX4 tyX4_ok nmX4 hown hK hP hD hS 0 rfl rfl 6 (by decide) (hts (.fieldLink RX4 45 "LeafOrder$Search" "turnCost" "I") mX4_prepare_7) (fun _ h9 => h9) rfl (by decide +kernel) rfl rfl (Nat.le_of_ble_eq_true rfl) dX4_prepare_27 (fun H locs hP hD hS => ?_)
    have hP : va_P (dC, dI) vwCl [(aS, .inr (4, [.ref aR, .ref aSj, .ref aSl, .ref aSs, .ref aSo, .int (nI nL), .int (nI (fz 4)), .int (nI sb), .int (nI sx)])), (aSj, .inl (cI, 324, .inl (nF sj))), (aC, .inr (3, [.ref aL, .ref aCz])), (aCz, .inl (cI, 6, .inl (nF fz))), (aL, .inr (1, [.int (nI nL), .ref aLb, .ref aLe, .ref aLw, .ref aLc, .ref aLd, .ref aLs])), (aLb, .inl (cI, 18, .inl (nF fb))), (aLe, .inl (cI, 18, .inl (nF fe))), (aLw, .inl (cI, 18, .inl fw)), (aLc, .inl (cI, 18, .inl (nF fc))), (aLd, .inl (cI, 18, .inl (nF fd))), (aLs, .inl (cI, 27, .inl (nF fs)))] H := hP
    have hD : va_D A [(aS, .inr (4, [.ref aR, .ref aSj, .ref aSl, .ref aSs, .ref aSo, .int (nI nL), .int (nI (fz 4)), .int (nI sb), .int (nI sx)])), (aSj, .inl (cI, 324, .inl (nF sj))), (aC, .inr (3, [.ref aL, .ref aCz])), (aCz, .inl (cI, 6, .inl (nF fz))), (aL, .inr (1, [.int (nI nL), .ref aLb, .ref aLe, .ref aLw, .ref aLc, .ref aLd, .ref aLs])), (aLb, .inl (cI, 18, .inl (nF fb))), (aLe, .inl (cI, 18, .inl (nF fe))), (aLw, .inl (cI, 18, .inl fw)), (aLc, .inl (cI, 18, .inl (nF fc))), (aLd, .inl (cI, 18, .inl (nF fd))), (aLs, .inl (cI, 27, .inl (nF fs)))] := hD
    refine lv_iconst (v := nI 0) hx hb dX4_prepare_30 (by decide) ?_
    refine lv_istore_n (lv' := [(3, .int (nI 0)), (0, .ref aS), (1, .ref aC), (2, .int (nI mt))]) hx hb dX4_prepare_31 rfl hl (by decide) rfl (fun ls hl => ?_)
    have LP32 : ∀ (n32 : Nat) (a : Nat) (sja : Nat → Nat), 2 * nL - a < n32 → (∀ k, sja k ≤ 10000) → (a ≤ 2 * nL) → (sja = m_prep nL (m_join fb fe fw fc fd fs fz) sj a) → ∀ (H : Heap) (locs : List Loc), va_P (dC, dI) vwCl [(aS, .inr (4, [.ref aR, .ref aSj, .ref aSl, .ref aSs, .ref aSo, .int (nI nL), .int (nI (fz 4)), .int (nI sb), .int (nI sx)])), (aSj, .inl (cI, 324, .inl (nF sja))), (aC, .inr (3, [.ref aL, .ref aCz])), (aCz, .inl (cI, 6, .inl (nF fz))), (aL, .inr (1, [.int (nI nL), .ref aLb, .ref aLe, .ref aLw, .ref aLc, .ref aLd, .ref aLs])), (aLb, .inl (cI, 18, .inl (nF fb))), (aLe, .inl (cI, 18, .inl (nF fe))), (aLw, .inl (cI, 18, .inl fw)), (aLc, .inl (cI, 18, .inl (nF fc))), (aLd, .inl (cI, 18, .inl (nF fd))), (aLs, .inl (cI, 27, .inl (nF fs)))] H → va_D A [(aS, .inr (4, [.ref aR, .ref aSj, .ref aSl, .ref aSs, .ref aSo, .int (nI nL), .int (nI (fz 4)), .int (nI sb), .int (nI sx)])), (aSj, .inl (cI, 324, .inl (nF sja))), (aC, .inr (3, [.ref aL, .ref aCz])), (aCz, .inl (cI, 6, .inl (nF fz))), (aL, .inr (1, [.int (nI nL), .ref aLb, .ref aLe, .ref aLw, .ref aLc, .ref aLd, .ref aLs])), (aLb, .inl (cI, 18, .inl (nF fb))), (aLe, .inl (cI, 18, .inl (nF fe))), (aLw, .inl (cI, 18, .inl fw)), (aLc, .inl (cI, 18, .inl (nF fc))), (aLd, .inl (cI, 18, .inl (nF fd))), (aLs, .inl (cI, 27, .inl (nF fs)))] → va_S A s.heap H locs → ∀ (ls : Array Slot), lv_has ls 5 [(0, .ref aS), (1, .ref aC), (2, .int (nI mt)), (3, .int (nI a))] → W p l e { frames := 4, cells := 0, slots := 0, locals := 95 } s m [.ref aS, .ref aC, .int (nI mt)].toArray below meth c H locs 0 0 (MQ below (va_Qv (fun (u : (Nat) × (Nat) × (Nat → Nat)) => match u with | (snz, stz, sjz) => snz = nL ∧ stz = (if mt = 0 then 1000000 else fz 4) ∧ sjz = m_prep nL (m_join fb fe fw fc fd fs fz) sj (2 * nL) ∧ ∀ k, sjz k ≤ 10000) (fun (u : (Nat) × (Nat) × (Nat → Nat)) (t : State) => match u with | (snz, stz, sjz) => va_P (dC, dI) vwCl [(aS, .inr (4, [.ref aR, .ref aSj, .ref aSl, .ref aSs, .ref aSo, .int (nI snz), .int (nI stz), .int (nI sb), .int (nI sx)])), (aSj, .inl (cI, 324, .inl (nF sjz))), (aC, .inr (3, [.ref aL, .ref aCz])), (aCz, .inl (cI, 6, .inl (nF fz))), (aL, .inr (1, [.int (nI nL), .ref aLb, .ref aLe, .ref aLw, .ref aLc, .ref aLd, .ref aLs])), (aLb, .inl (cI, 18, .inl (nF fb))), (aLe, .inl (cI, 18, .inl (nF fe))), (aLw, .inl (cI, 18, .inl fw)), (aLc, .inl (cI, 18, .inl (nF fc))), (aLd, .inl (cI, 18, .inl (nF fd))), (aLs, .inl (cI, 27, .inl (nF fs)))] t.heap ∧ va_D A [(aS, .inr (4, [.ref aR, .ref aSj, .ref aSl, .ref aSs, .ref aSo, .int (nI snz), .int (nI stz), .int (nI sb), .int (nI sx)])), (aSj, .inl (cI, 324, .inl (nF sjz))), (aC, .inr (3, [.ref aL, .ref aCz])), (aCz, .inl (cI, 6, .inl (nF fz))), (aL, .inr (1, [.int (nI nL), .ref aLb, .ref aLe, .ref aLw, .ref aLc, .ref aLd, .ref aLs])), (aLb, .inl (cI, 18, .inl (nF fb))), (aLe, .inl (cI, 18, .inl (nF fe))), (aLw, .inl (cI, 18, .inl fw)), (aLc, .inl (cI, 18, .inl (nF fc))), (aLd, .inl (cI, 18, .inl (nF fd))), (aLs, .inl (cI, 27, .inl (nF fs)))]) A) [.ref aS, .ref aC, .int (nI mt)].toArray s 0 0 A) (F0 m 32 ls []) := by
      intro n32
      induction n32 with
      | zero =>
        intro a sja hm
        exact absurd hm (Nat.not_lt_zero _)
      | succ n32 ih32 =>
        intro a sja hm32 bSja ha hja H locs hP hD hS ls hl
        refine lv_iload_n hx hb dX4_prepare_32 rfl (lv_at hl 3 rfl) ?_
        refine lv_iconst (v := nI 2) hx hb dX4_prepare_33 (by decide) ?_
        refine lv_aload_n hx hb dX4_prepare_34 rfl (lv_at hl 0 rfl) ?_
        refine va_get (D := (dC, dI)) (ci := 4) (v := .int (nI nL)) (C := RX4) (T := TX4) (N := 9) hx hb hts mX4_prepare_inX4 hown hK hP 0 rfl rfl 5 (by decide) (hts (.fieldLink RX4 40 "LeafOrder$Search" "count" "I") mX4_prepare_4) (fun _ h9 => h9) rfl dX4_prepare_35 ?_
        refine ln_imul hx hb dX4_prepare_38 ?_
        refine ln_icmp_ge (tgt := 87) hx hb dX4_prepare_39 (by decide) (by omega) (by omega) (fun c_8 => ?_) (fun c_8 => ?_)
        · exact W.vret hx hb hr (fun t ht hW => ⟨⟨(nL, fz 4, sja), rfl, ⟨rfl, (by rw [if_neg c_1]), (by rw [hja, show a = 2 * nL by omega]), bSja⟩, by rw [ht]; exact hP, hD⟩, hS.F ht⟩) hS.2.2 dX4_prepare_87
        · refine lv_iconst (v := nI 0) hx hb dX4_prepare_42 (by decide) ?_
          refine lv_istore (lv' := [(4, .int (nI 0)), (0, .ref aS), (1, .ref aC), (2, .int (nI mt)), (3, .int (nI a))]) hx hb dX4_prepare_43 hl (by decide) rfl (fun ls hl => ?_)
          have LP45 : ∀ (n45 : Nat) (b : Nat) (sjb : Nat → Nat), 2 * nL - b < n45 → (∀ k, sjb k ≤ 10000) → (b ≤ 2 * nL) → (sjb = m_joins nL (m_join fb fe fw fc fd fs fz) sja a b) → ∀ (H : Heap) (locs : List Loc), va_P (dC, dI) vwCl [(aS, .inr (4, [.ref aR, .ref aSj, .ref aSl, .ref aSs, .ref aSo, .int (nI nL), .int (nI (fz 4)), .int (nI sb), .int (nI sx)])), (aSj, .inl (cI, 324, .inl (nF sjb))), (aC, .inr (3, [.ref aL, .ref aCz])), (aCz, .inl (cI, 6, .inl (nF fz))), (aL, .inr (1, [.int (nI nL), .ref aLb, .ref aLe, .ref aLw, .ref aLc, .ref aLd, .ref aLs])), (aLb, .inl (cI, 18, .inl (nF fb))), (aLe, .inl (cI, 18, .inl (nF fe))), (aLw, .inl (cI, 18, .inl fw)), (aLc, .inl (cI, 18, .inl (nF fc))), (aLd, .inl (cI, 18, .inl (nF fd))), (aLs, .inl (cI, 27, .inl (nF fs)))] H → va_D A [(aS, .inr (4, [.ref aR, .ref aSj, .ref aSl, .ref aSs, .ref aSo, .int (nI nL), .int (nI (fz 4)), .int (nI sb), .int (nI sx)])), (aSj, .inl (cI, 324, .inl (nF sjb))), (aC, .inr (3, [.ref aL, .ref aCz])), (aCz, .inl (cI, 6, .inl (nF fz))), (aL, .inr (1, [.int (nI nL), .ref aLb, .ref aLe, .ref aLw, .ref aLc, .ref aLd, .ref aLs])), (aLb, .inl (cI, 18, .inl (nF fb))), (aLe, .inl (cI, 18, .inl (nF fe))), (aLw, .inl (cI, 18, .inl fw)), (aLc, .inl (cI, 18, .inl (nF fc))), (aLd, .inl (cI, 18, .inl (nF fd))), (aLs, .inl (cI, 27, .inl (nF fs)))] → va_S A s.heap H locs → ∀ (ls : Array Slot), lv_has ls 5 [(0, .ref aS), (1, .ref aC), (2, .int (nI mt)), (3, .int (nI a)), (4, .int (nI b))] → W p l e { frames := 4, cells := 0, slots := 0, locals := 95 } s m [.ref aS, .ref aC, .int (nI mt)].toArray below meth c H locs 0 0 (MQ below (va_Qv (fun (u : (Nat) × (Nat) × (Nat → Nat)) => match u with | (snz, stz, sjz) => snz = nL ∧ stz = (if mt = 0 then 1000000 else fz 4) ∧ sjz = m_prep nL (m_join fb fe fw fc fd fs fz) sj (2 * nL) ∧ ∀ k, sjz k ≤ 10000) (fun (u : (Nat) × (Nat) × (Nat → Nat)) (t : State) => match u with | (snz, stz, sjz) => va_P (dC, dI) vwCl [(aS, .inr (4, [.ref aR, .ref aSj, .ref aSl, .ref aSs, .ref aSo, .int (nI snz), .int (nI stz), .int (nI sb), .int (nI sx)])), (aSj, .inl (cI, 324, .inl (nF sjz))), (aC, .inr (3, [.ref aL, .ref aCz])), (aCz, .inl (cI, 6, .inl (nF fz))), (aL, .inr (1, [.int (nI nL), .ref aLb, .ref aLe, .ref aLw, .ref aLc, .ref aLd, .ref aLs])), (aLb, .inl (cI, 18, .inl (nF fb))), (aLe, .inl (cI, 18, .inl (nF fe))), (aLw, .inl (cI, 18, .inl fw)), (aLc, .inl (cI, 18, .inl (nF fc))), (aLd, .inl (cI, 18, .inl (nF fd))), (aLs, .inl (cI, 27, .inl (nF fs)))] t.heap ∧ va_D A [(aS, .inr (4, [.ref aR, .ref aSj, .ref aSl, .ref aSs, .ref aSo, .int (nI snz), .int (nI stz), .int (nI sb), .int (nI sx)])), (aSj, .inl (cI, 324, .inl (nF sjz))), (aC, .inr (3, [.ref aL, .ref aCz])), (aCz, .inl (cI, 6, .inl (nF fz))), (aL, .inr (1, [.int (nI nL), .ref aLb, .ref aLe, .ref aLw, .ref aLc, .ref aLd, .ref aLs])), (aLb, .inl (cI, 18, .inl (nF fb))), (aLe, .inl (cI, 18, .inl (nF fe))), (aLw, .inl (cI, 18, .inl fw)), (aLc, .inl (cI, 18, .inl (nF fc))), (aLd, .inl (cI, 18, .inl (nF fd))), (aLs, .inl (cI, 27, .inl (nF fs)))]) A) [.ref aS, .ref aC, .int (nI mt)].toArray s 0 0 A) (F0 m 45 ls []) := by
            intro n45
            induction n45 with
            | zero =>
              intro b sjb hm
              exact absurd hm (Nat.not_lt_zero _)
            | succ n45 ih45 =>
              intro b sjb hm45 bSjb hbb hjb H locs hP hD hS ls hl
              refine lv_iload hx hb dX4_prepare_45 (lv_at hl 4 rfl) ?_
              refine lv_iconst (v := nI 2) hx hb dX4_prepare_47 (by decide) ?_
              refine lv_aload_n hx hb dX4_prepare_48 rfl (lv_at hl 0 rfl) ?_
              refine va_get (D := (dC, dI)) (ci := 4) (v := .int (nI nL)) (C := RX4) (T := TX4) (N := 9) hx hb hts mX4_prepare_inX4 hown hK hP 0 rfl rfl 5 (by decide) (hts (.fieldLink RX4 40 "LeafOrder$Search" "count" "I") mX4_prepare_4) (fun _ h9 => h9) rfl dX4_prepare_49 ?_
              refine ln_imul hx hb dX4_prepare_52 ?_
              refine ln_icmp_ge (tgt := 81) hx hb dX4_prepare_53 (by decide) (by omega) (by omega) (fun c_9 => ?_) (fun c_9 => ?_)
              · refine lv_iinc (v := (nI (a + 1))) (lv' := [(3, .int (nI (a + 1))), (0, .ref aS), (1, .ref aC), (2, .int (nI mt)), (4, .int (nI b))]) hx hb dX4_prepare_81 hl (k := 3) rfl (by first | exact nI_1 _ | rfl) (by decide) rfl (fun ls hl => ?_)
                refine lv_goto (tgt := 32) hx hb dX4_prepare_84 (by decide) ?_
                exact ih32 (a + 1) sjb (by omega) bSjb (by omega) (by rw [hjb, show b = 2 * nL by omega, m_prep, ← hja]) _ _ hP hD hS ls (lv_sub hl [1, 2, 3, 0] rfl)
              · refine lv_aload_n hx hb dX4_prepare_56 rfl (lv_at hl 0 rfl) ?_
                refine va_get (D := (dC, dI)) (ci := 4) (v := .ref aSj) (C := RX4) (T := TX4) (N := 9) hx hb hts mX4_prepare_inX4 hown hK hP 0 rfl rfl 1 (by decide) (hts (.fieldLink RX4 9 "LeafOrder$Search" "joins" "[I") mX4_prepare_8) (fun _ h9 => h9) rfl dX4_prepare_57 ?_
                refine lv_iload_n hx hb dX4_prepare_60 rfl (lv_at hl 3 rfl) ?_
                refine lv_bipush (v := nI 18) hx hb dX4_prepare_61 (by decide) ?_
                refine ln_imul hx hb dX4_prepare_63 ?_
                refine lv_iload hx hb dX4_prepare_64 (lv_at hl 4 rfl) ?_
                refine ln_iadd hx hb dX4_prepare_66 ?_
                refine lv_aload_n hx hb dX4_prepare_67 rfl (lv_at hl 1 rfl) ?_
                refine lv_iload_n hx hb dX4_prepare_68 rfl (lv_at hl 3 rfl) ?_
                refine lv_iload hx hb dX4_prepare_69 (lv_at hl 4 rfl) ?_
                have hPc := hP.sub (ws' := [(aC, .inr (3, [.ref aL, .ref aCz])), (aCz, .inl (cI, 6, .inl (nF fz))), (aL, .inr (1, [.int (nI nL), .ref aLb, .ref aLe, .ref aLw, .ref aLc, .ref aLd, .ref aLs])), (aLb, .inl (cI, 18, .inl (nF fb))), (aLe, .inl (cI, 18, .inl (nF fe))), (aLw, .inl (cI, 18, .inl fw)), (aLc, .inl (cI, 18, .inl (nF fc))), (aLd, .inl (cI, 18, .inl (nF fd))), (aLs, .inl (cI, 27, .inl (nF fs)))]) [2, 3, 4, 5, 6, 7, 8, 9, 10] rfl
                refine vp_callSi (W.runV (As := [.int (nI a), .int (nI b)]) (rest := [.int (nI ((a * 18) + b)), .ref aSj]) ⟨hx, hb, hml, hown, hts⟩ (k_X3_joinCost l dC dI cI cZ aC aL aCz aLb aLe aLw aLc aLd aLs fz nL fb fe fw fc fd fs a b bCz bLb bLe bLc bLd bLs (by omega) (by omega)) (cwV 2 hts gX4_prepare_X3_joinCost rfl rfl rfl (by decide +kernel) ⟨Nat.le_of_ble_eq_true rfl, Nat.le_of_ble_eq_true rfl⟩) (ln_preV (q0 := 0) (ci := 3) hPc hKK rfl rfl) rfl rfl hl.1 rfl (lv_room (Nat.le_of_ble_eq_true rfl)) dX4_prepare_71 ⟨Nat.le_of_ble_eq_true rfl, Nat.le_of_ble_eq_true rfl⟩) (fun r_10 w_11 => ?_)
                subst w_11
                have hjl := m_join_le fb fe fw fc fd fs fz a b bLb bLe bLs bCz hz
                refine ln_iast (i := (a * 18) + b) hx hb hK hP hD hS 1 0 rfl rfl (by omega) (by decide) dX4_prepare_74 (fun H locs hP hD hS => ?_)
                have b_12 : ∀ k, (upN sjb ((a * 18) + b) (m_join fb fe fw fc fd fs fz a b)) k ≤ 10000 := upN_le bSjb (by omega)
                have hP : va_P (dC, dI) vwCl [(aS, .inr (4, [.ref aR, .ref aSj, .ref aSl, .ref aSs, .ref aSo, .int (nI nL), .int (nI (fz 4)), .int (nI sb), .int (nI sx)])), (aSj, .inl (cI, 324, .inl (nF (upN sjb ((a * 18) + b) (m_join fb fe fw fc fd fs fz a b))))), (aC, .inr (3, [.ref aL, .ref aCz])), (aCz, .inl (cI, 6, .inl (nF fz))), (aL, .inr (1, [.int (nI nL), .ref aLb, .ref aLe, .ref aLw, .ref aLc, .ref aLd, .ref aLs])), (aLb, .inl (cI, 18, .inl (nF fb))), (aLe, .inl (cI, 18, .inl (nF fe))), (aLw, .inl (cI, 18, .inl fw)), (aLc, .inl (cI, 18, .inl (nF fc))), (aLd, .inl (cI, 18, .inl (nF fd))), (aLs, .inl (cI, 27, .inl (nF fs)))] H := hP
                have hD : va_D A [(aS, .inr (4, [.ref aR, .ref aSj, .ref aSl, .ref aSs, .ref aSo, .int (nI nL), .int (nI (fz 4)), .int (nI sb), .int (nI sx)])), (aSj, .inl (cI, 324, .inl (nF (upN sjb ((a * 18) + b) (m_join fb fe fw fc fd fs fz a b))))), (aC, .inr (3, [.ref aL, .ref aCz])), (aCz, .inl (cI, 6, .inl (nF fz))), (aL, .inr (1, [.int (nI nL), .ref aLb, .ref aLe, .ref aLw, .ref aLc, .ref aLd, .ref aLs])), (aLb, .inl (cI, 18, .inl (nF fb))), (aLe, .inl (cI, 18, .inl (nF fe))), (aLw, .inl (cI, 18, .inl fw)), (aLc, .inl (cI, 18, .inl (nF fc))), (aLd, .inl (cI, 18, .inl (nF fd))), (aLs, .inl (cI, 27, .inl (nF fs)))] := hD
                refine lv_iinc (v := (nI (b + 1))) (lv' := [(4, .int (nI (b + 1))), (0, .ref aS), (1, .ref aC), (2, .int (nI mt)), (3, .int (nI a))]) hx hb dX4_prepare_75 hl (k := 4) rfl (by first | exact nI_1 _ | rfl) (by decide) rfl (fun ls hl => ?_)
                refine lv_goto (tgt := 45) hx hb dX4_prepare_78 (by decide) ?_
                exact ih45 (b + 1) (upN sjb ((a * 18) + b) (m_join fb fe fw fc fd fs fz a b)) (by omega) b_12 (by omega) (by rw [m_joins, ← hjb]) _ _ hP hD hS ls (lv_sub hl [1, 2, 3, 4, 0] rfl)
          exact LP45 _ 0 sja (Nat.lt_succ_self _) bSja (Nat.zero_le _) rfl _ _ hP hD hS ls (lv_sub hl [1, 2, 3, 4, 0] rfl)
    exact LP32 _ 0 sj (Nat.lt_succ_self _) bSj (Nat.zero_le _) rfl _ _ hP hD hS ls (lv_sub hl [1, 2, 3, 0] rfl)
theorem mX4_solve_0 : Cond.fieldLink RX4 18 "LeafOrder$Search" "setCosts" "[I" ∈ wsX4_solve := by decide +kernel
theorem mX4_solve_inX4 : ∀ w ∈ wsX40, w ∈ wsX4_solve := by decide +kernel
theorem mX4_solve_2 : Cond.fieldLink RX4 64 "LeafOrder$Search" "bestCost" "I" ∈ wsX4_solve := by decide +kernel
theorem mX4_solve_3 : Cond.constant RX4 44 (1000000) ∈ wsX4_solve := by decide +kernel
theorem mX4_solve_4 : Cond.fieldLink RX4 67 "LeafOrder$Search" "nextCost" "I" ∈ wsX4_solve := by decide +kernel
set_option maxHeartbeats 4000000 in
set_option maxRecDepth 100000 in
theorem k_X4_solve (l : Launch) (dC : Nat → ClassId) (dI : Nat → Nat → Nat) (cI cZ : ClassId) (aS aR aSj aSl aSs aSo aRb aRr aRa : Nat) (sn : Nat) (st : Nat) (sb : Nat) (sx : Nat) (sl : Nat → Nat) (sj : Nat → Nat) (ss : Nat → Nat) (so : Nat → Nat) (rb : Nat → Nat) (rr : Nat → Nat) (ra : Nat → Nat) (sz : Nat) (bSl : ∀ k, sl k ≤ 1000000) (bSj : ∀ k, sj k ≤ 10000) (bSs : ∀ k, ss k ≤ 1000000) (bSo : ∀ k, so k ≤ 17) (bRb : ∀ k, rb k ≤ 511) (bRr : ∀ k, rr k ≤ 511) (bRa : ∀ k, ra k ≤ 511) (hn : sn ≤ 9) (ht : st ≤ 1000000) : Met l yX4_solve wsX4_solve { frames := 4, cells := 0, slots := 0, locals := 102 } (va_Pc [.ref aS] (fun U => U.heap.size = sz ∧ va_P (dC, dI) vwCl [(aS, .inr (4, [.ref aR, .ref aSj, .ref aSl, .ref aSs, .ref aSo, .int (nI sn), .int (nI st), .int (nI sb), .int (nI sx)])), (aSl, .inl (cI, 9216, .inl (nF sl))), (aSj, .inl (cI, 324, .inl (nF sj))), (aSs, .inl (cI, 512, .inl (nF ss))), (aSo, .inl (cI, 9, .inl (nF so))), (aR, .inr (2, [.ref aRb, .ref aRr, .ref aRa])), (aRb, .inl (cI, 9, .inl (nF rb))), (aRr, .inl (cI, 9, .inl (nF rr))), (aRa, .inl (cI, 9, .inl (nF ra)))] U.heap ∧ lK dC dI cI cZ U ∧ va_D (fun _ => True) [(aS, .inr (4, [.ref aR, .ref aSj, .ref aSl, .ref aSs, .ref aSo, .int (nI sn), .int (nI st), .int (nI sb), .int (nI sx)])), (aSl, .inl (cI, 9216, .inl (nF sl))), (aSj, .inl (cI, 324, .inl (nF sj))), (aSs, .inl (cI, 512, .inl (nF ss))), (aSo, .inl (cI, 9, .inl (nF so))), (aR, .inr (2, [.ref aRb, .ref aRr, .ref aRa])), (aRb, .inl (cI, 9, .inl (nF rb))), (aRr, .inl (cI, 9, .inl (nF rr))), (aRa, .inl (cI, 9, .inl (nF ra)))])) (va_Qv (fun (u : (Nat → Nat) × (Nat → Nat) × (Nat → Nat) × (Nat) × (Nat)) => match u with | (slz, ssz, soz, sbz, sxz) => slz = m_fill rb rr ra sj sn st 18 18 sl (2 ^ sn - 1) ∧ (∀ k, slz k ≤ 1000000) ∧ ssz = m_costs slz sn ss (2 ^ sn - 1) ∧ (∀ k, ssz k ≤ 1000000) ∧ sbz = ssz (2 ^ sn - 1) ∧ (∀ k, soz k ≤ 17) ∧ sxz ≤ 1000000 ∧ (sbz < 1000000 → ∃ a1 a2 a3, (a1, a2, a3, soz, sxz) = m_trace slz sj ra so sn st 1000000 sn) ∧ (1000000 ≤ sbz → soz = so ∧ sxz = 1000000)) (fun (u : (Nat → Nat) × (Nat → Nat) × (Nat → Nat) × (Nat) × (Nat)) (t : State) => match u with | (slz, ssz, soz, sbz, sxz) => va_P (dC, dI) vwCl [(aS, .inr (4, [.ref aR, .ref aSj, .ref aSl, .ref aSs, .ref aSo, .int (nI sn), .int (nI st), .int (nI sbz), .int (nI sxz)])), (aSl, .inl (cI, 9216, .inl (nF slz))), (aSj, .inl (cI, 324, .inl (nF sj))), (aSs, .inl (cI, 512, .inl (nF ssz))), (aSo, .inl (cI, 9, .inl (nF soz))), (aR, .inr (2, [.ref aRb, .ref aRr, .ref aRa])), (aRb, .inl (cI, 9, .inl (nF rb))), (aRr, .inl (cI, 9, .inl (nF rr))), (aRa, .inl (cI, 9, .inl (nF ra)))] t.heap ∧ va_D (va_A [(aS, .inr (4, [.ref aR, .ref aSj, .ref aSl, .ref aSs, .ref aSo, .int (nI sn), .int (nI st), .int (nI sb), .int (nI sx)])), (aSl, .inl (cI, 9216, .inl (nF sl))), (aSj, .inl (cI, 324, .inl (nF sj))), (aSs, .inl (cI, 512, .inl (nF ss))), (aSo, .inl (cI, 9, .inl (nF so))), (aR, .inr (2, [.ref aRb, .ref aRr, .ref aRa])), (aRb, .inl (cI, 9, .inl (nF rb))), (aRr, .inl (cI, 9, .inl (nF rr))), (aRa, .inl (cI, 9, .inl (nF ra)))] sz) [(aS, .inr (4, [.ref aR, .ref aSj, .ref aSl, .ref aSs, .ref aSo, .int (nI sn), .int (nI st), .int (nI sbz), .int (nI sxz)])), (aSl, .inl (cI, 9216, .inl (nF slz))), (aSj, .inl (cI, 324, .inl (nF sj))), (aSs, .inl (cI, 512, .inl (nF ssz))), (aSo, .inl (cI, 9, .inl (nF soz))), (aR, .inr (2, [.ref aRb, .ref aRr, .ref aRa])), (aRb, .inl (cI, 9, .inl (nF rb))), (aRr, .inl (cI, 9, .inl (nF rr))), (aRa, .inl (cI, 9, .inl (nF ra)))]) (va_A [(aS, .inr (4, [.ref aR, .ref aSj, .ref aSl, .ref aSs, .ref aSo, .int (nI sn), .int (nI st), .int (nI sb), .int (nI sx)])), (aSl, .inl (cI, 9216, .inl (nF sl))), (aSj, .inl (cI, 324, .inl (nF sj))), (aSs, .inl (cI, 512, .inl (nF ss))), (aSo, .inl (cI, 9, .inl (nF so))), (aR, .inr (2, [.ref aRb, .ref aRr, .ref aRa])), (aRb, .inl (cI, 9, .inl (nF rb))), (aRr, .inl (cI, 9, .inl (nF rr))), (aRa, .inl (cI, 9, .inl (nF ra)))] sz)) 0 0 (va_A [(aS, .inr (4, [.ref aR, .ref aSj, .ref aSl, .ref aSs, .ref aSo, .int (nI sn), .int (nI st), .int (nI sb), .int (nI sx)])), (aSl, .inl (cI, 9216, .inl (nF sl))), (aSj, .inl (cI, 324, .inl (nF sj))), (aSs, .inl (cI, 512, .inl (nF ss))), (aSo, .inl (cI, 9, .inl (nF so))), (aR, .inr (2, [.ref aRb, .ref aRr, .ref aRa])), (aRb, .inl (cI, 9, .inl (nF rb))), (aRr, .inl (cI, 9, .inl (nF rr))), (aRa, .inl (cI, 9, .inl (nF ra)))] sz) := by
  refine Met.ofW (cc := cX4_solve) (maxL := 2) (ret := none) (by decide) rfl ?_
  intro p e s m args below meth c s₁ B hml hv
  obtain ⟨rfl, hsz, hP, hKK, hD0⟩ := hv
  have hK := hKK.1
  have hx := B.exec
  have hb := B.bytes
  have hr := B.returns
  have hts := atoms_spec (ws := wsX4_solve) B.pre
  have hown : s.vm.findClass RX4 = some m.cls := findClass_of_methodNamed B.named
  have hlocks := B.notSynchronized
  subst hsz
  have hD := hD0.self (sz := s.heap.size)
  generalize hAe : va_A [(aS, .inr (4, [.ref aR, .ref aSj, .ref aSl, .ref aSs, .ref aSo, .int (nI sn), .int (nI st), .int (nI sb), .int (nI sx)])), (aSl, .inl (cI, 9216, .inl (nF sl))), (aSj, .inl (cI, 324, .inl (nF sj))), (aSs, .inl (cI, 512, .inl (nF ss))), (aSo, .inl (cI, 9, .inl (nF so))), (aR, .inr (2, [.ref aRb, .ref aRr, .ref aRa])), (aRb, .inl (cI, 9, .inl (nF rb))), (aRr, .inl (cI, 9, .inl (nF rr))), (aRa, .inl (cI, 9, .inl (nF ra)))] s.heap.size = A at hD ⊢
  have hA : ∀ q : Nat, s.heap.size ≤ q → A q := fun q h => by rw [← hAe]; exact Or.inr h
  have hS : va_S A s.heap s.heap [] := va_S.rf
  have hl := lv_entry ([.ref aS]) (n := 2) (Nat.le_of_ble_eq_true rfl)
  rw [lg_entry_eq]
  generalize (lg_sl ([.ref aS]) ++ List.replicate (2 - (lg_sl ([.ref aS])).length) Slot.unset).toArray = ls at hl ⊢
  have hl : lv_has ls 2 [(0, .ref aS)] := hl
  refine lv_aload_n hx hb dX4_solve_0 rfl (lv_at hl 0 rfl) ?_
  refine lv_iconst (v := (-1)) hx hb dX4_solve_1 (by decide) ?_
  refine lv_iconst (v := (-1)) hx hb dX4_solve_2 (by decide) ?_
  refine W.eq (g2 := F0 m 3 ls [.int (bhN 18), .int (bhN 18), .ref aS]) rfl ?_
  have hPc := hP.sub (ws' := [(aS, .inr (4, [.ref aR, .ref aSj, .ref aSl, .ref aSs, .ref aSo, .int (nI sn), .int (nI st), .int (nI sb), .int (nI sx)])), (aSl, .inl (cI, 9216, .inl (nF sl))), (aSj, .inl (cI, 324, .inl (nF sj))), (aR, .inr (2, [.ref aRb, .ref aRr, .ref aRa])), (aRb, .inl (cI, 9, .inl (nF rb))), (aRr, .inl (cI, 9, .inl (nF rr))), (aRa, .inl (cI, 9, .inl (nF ra)))]) [0, 1, 2, 5, 6, 7, 8] rfl
  have hDc := hD.sub (ws' := [(aS, .inr (4, [.ref aR, .ref aSj, .ref aSl, .ref aSs, .ref aSo, .int (nI sn), .int (nI st), .int (nI sb), .int (nI sx)])), (aSl, .inl (cI, 9216, .inl (nF sl))), (aSj, .inl (cI, 324, .inl (nF sj))), (aR, .inr (2, [.ref aRb, .ref aRr, .ref aRa])), (aRb, .inl (cI, 9, .inl (nF rb))), (aRr, .inl (cI, 9, .inl (nF rr))), (aRa, .inl (cI, 9, .inl (nF ra)))]) [0, 1, 2, 5, 6, 7, 8] (by decide) rfl
  have hFc := va_free (wc := [(aS, .inr (4, [.ref aR, .ref aSj, .ref aSl, .ref aSs, .ref aSo, .int (nI sn), .int (nI st), .int (nI sb), .int (nI sx)])), (aSl, .inl (cI, 9216, .inl (nF sl))), (aSj, .inl (cI, 324, .inl (nF sj))), (aR, .inr (2, [.ref aRb, .ref aRr, .ref aRa])), (aRb, .inl (cI, 9, .inl (nF rb))), (aRr, .inl (cI, 9, .inl (nF rr))), (aRa, .inl (cI, 9, .inl (nF ra)))]) hD hS hA [0, 1, 2, 5, 6, 7, 8] rfl
  refine va_callv (va_runV (As := [.int (bhN 18), .int (bhN 18)]) (rest := []) ⟨hx, hb, hml, hown, hts⟩ (k_X4_fill l dC dI cI cZ aS aR aSj aSl aSs aSo aRb aRr aRa sn st sb sx sl sj rb rr ra 18 18 s.heap.size bSl bSj bRb bRr bRa (by omega) (by omega) (by omega)) (cwV 2 hts gX4_solve_X4_fill rfl rfl rfl (by decide +kernel) ⟨Nat.le_of_ble_eq_true rfl, Nat.le_of_ble_eq_true rfl⟩) (ln_preVM (q0 := 0) (ci := 4) hPc hKK hDc rfl rfl) rfl rfl hl.1 rfl (lv_room (Nat.le_of_ble_eq_true rfl)) dX4_solve_3 ⟨Nat.le_of_ble_eq_true rfl, Nat.le_of_ble_eq_true rfl⟩) hS (fun q _ h => hFc q h) hFc (fun u t H1 locs ht hvm w_2 hB hz1 hk1 hS => ?_)
  obtain ⟨slz_3, rfl⟩ : ∃ z, z = u := ⟨_, rfl⟩
  obtain ⟨hP1, hD1⟩ := hB
  rw [ht] at hP1
  try dsimp only at w_2
  obtain ⟨hP, hD⟩ := va_join (wr := [(aSs, .inl (cI, 512, .inl (nF ss))), (aSo, .inl (cI, 9, .inl (nF so)))]) (w1 := [(aS, .inr (4, [.ref aR, .ref aSj, .ref aSl, .ref aSs, .ref aSo, .int (nI sn), .int (nI st), .int (nI sb), .int (nI sx)])), (aSl, .inl (cI, 9216, .inl (nF slz_3))), (aSj, .inl (cI, 324, .inl (nF sj))), (aR, .inr (2, [.ref aRb, .ref aRr, .ref aRa])), (aRb, .inl (cI, 9, .inl (nF rb))), (aRr, .inl (cI, 9, .inl (nF rr))), (aRa, .inl (cI, 9, .inl (nF ra)))]) hP hD [0, 1, 2, 5, 6, 7, 8] [3, 4] rfl rfl (by decide) (by decide) hk1 hFc hP1 hD1
  generalize H1 = H at hP hS ⊢
  have hP := hP.sub (ws' := [(aS, .inr (4, [.ref aR, .ref aSj, .ref aSl, .ref aSs, .ref aSo, .int (nI sn), .int (nI st), .int (nI sb), .int (nI sx)])), (aSl, .inl (cI, 9216, .inl (nF slz_3))), (aSj, .inl (cI, 324, .inl (nF sj))), (aSs, .inl (cI, 512, .inl (nF ss))), (aSo, .inl (cI, 9, .inl (nF so))), (aR, .inr (2, [.ref aRb, .ref aRr, .ref aRa])), (aRb, .inl (cI, 9, .inl (nF rb))), (aRr, .inl (cI, 9, .inl (nF rr))), (aRa, .inl (cI, 9, .inl (nF ra)))]) [2, 3, 4, 0, 1, 5, 6, 7, 8] rfl
  have hD := hD.sub (ws' := [(aS, .inr (4, [.ref aR, .ref aSj, .ref aSl, .ref aSs, .ref aSo, .int (nI sn), .int (nI st), .int (nI sb), .int (nI sx)])), (aSl, .inl (cI, 9216, .inl (nF slz_3))), (aSj, .inl (cI, 324, .inl (nF sj))), (aSs, .inl (cI, 512, .inl (nF ss))), (aSo, .inl (cI, 9, .inl (nF so))), (aR, .inr (2, [.ref aRb, .ref aRr, .ref aRa])), (aRb, .inl (cI, 9, .inl (nF rb))), (aRr, .inl (cI, 9, .inl (nF rr))), (aRa, .inl (cI, 9, .inl (nF ra)))]) [2, 3, 4, 0, 1, 5, 6, 7, 8] (by decide) rfl
  obtain ⟨hfl, b_4⟩ := w_2
  have hp9 := ln_p9 hn
  have hp1 := ln_one_two_pow sn
  refine lv_aload_n hx hb dX4_solve_6 rfl (lv_at hl 0 rfl) ?_
  refine va_get (D := (dC, dI)) (ci := 4) (v := .ref aSs) (C := RX4) (T := TX4) (N := 9) hx hb hts mX4_solve_inX4 hown hK hP 0 rfl rfl 3 (by decide) (hts (.fieldLink RX4 18 "LeafOrder$Search" "setCosts" "[I") mX4_solve_0) (fun _ h9 => h9) rfl dX4_solve_7 ?_
  refine lv_iconst (v := nI 0) hx hb dX4_solve_10 (by decide) ?_
  refine lv_iconst (v := nI 0) hx hb dX4_solve_11 (by decide) ?_
  refine ln_iast (i := 0) hx hb hK hP hD hS 3 0 rfl rfl (by omega) (by decide) dX4_solve_12 (fun H locs hP hD hS => ?_)
  have b_5 : ∀ k, (upN ss 0 0) k ≤ 1000000 := upN_le bSs (by omega)
  have hP : va_P (dC, dI) vwCl [(aS, .inr (4, [.ref aR, .ref aSj, .ref aSl, .ref aSs, .ref aSo, .int (nI sn), .int (nI st), .int (nI sb), .int (nI sx)])), (aSl, .inl (cI, 9216, .inl (nF slz_3))), (aSj, .inl (cI, 324, .inl (nF sj))), (aSs, .inl (cI, 512, .inl (nF (upN ss 0 0)))), (aSo, .inl (cI, 9, .inl (nF so))), (aR, .inr (2, [.ref aRb, .ref aRr, .ref aRa])), (aRb, .inl (cI, 9, .inl (nF rb))), (aRr, .inl (cI, 9, .inl (nF rr))), (aRa, .inl (cI, 9, .inl (nF ra)))] H := hP
  have hD : va_D A [(aS, .inr (4, [.ref aR, .ref aSj, .ref aSl, .ref aSs, .ref aSo, .int (nI sn), .int (nI st), .int (nI sb), .int (nI sx)])), (aSl, .inl (cI, 9216, .inl (nF slz_3))), (aSj, .inl (cI, 324, .inl (nF sj))), (aSs, .inl (cI, 512, .inl (nF (upN ss 0 0)))), (aSo, .inl (cI, 9, .inl (nF so))), (aR, .inr (2, [.ref aRb, .ref aRr, .ref aRa])), (aRb, .inl (cI, 9, .inl (nF rb))), (aRr, .inl (cI, 9, .inl (nF rr))), (aRa, .inl (cI, 9, .inl (nF ra)))] := hD
  refine lv_iconst (v := nI 1) hx hb dX4_solve_13 (by decide) ?_
  refine lv_istore_n (lv' := [(1, .int (nI 1)), (0, .ref aS)]) hx hb dX4_solve_14 rfl hl (by decide) rfl (fun ls hl => ?_)
  have LP15 : ∀ (n15 : Nat) (set : Nat) (ssv : Nat → Nat), 2 ^ sn - set < n15 → (∀ k, ssv k ≤ 1000000) → (1 ≤ set ∧ set ≤ 2 ^ sn) → (ssv = m_costs slz_3 sn ss (set - 1)) → ∀ (H : Heap) (locs : List Loc), va_P (dC, dI) vwCl [(aS, .inr (4, [.ref aR, .ref aSj, .ref aSl, .ref aSs, .ref aSo, .int (nI sn), .int (nI st), .int (nI sb), .int (nI sx)])), (aSl, .inl (cI, 9216, .inl (nF slz_3))), (aSj, .inl (cI, 324, .inl (nF sj))), (aSs, .inl (cI, 512, .inl (nF ssv))), (aSo, .inl (cI, 9, .inl (nF so))), (aR, .inr (2, [.ref aRb, .ref aRr, .ref aRa])), (aRb, .inl (cI, 9, .inl (nF rb))), (aRr, .inl (cI, 9, .inl (nF rr))), (aRa, .inl (cI, 9, .inl (nF ra)))] H → va_D A [(aS, .inr (4, [.ref aR, .ref aSj, .ref aSl, .ref aSs, .ref aSo, .int (nI sn), .int (nI st), .int (nI sb), .int (nI sx)])), (aSl, .inl (cI, 9216, .inl (nF slz_3))), (aSj, .inl (cI, 324, .inl (nF sj))), (aSs, .inl (cI, 512, .inl (nF ssv))), (aSo, .inl (cI, 9, .inl (nF so))), (aR, .inr (2, [.ref aRb, .ref aRr, .ref aRa])), (aRb, .inl (cI, 9, .inl (nF rb))), (aRr, .inl (cI, 9, .inl (nF rr))), (aRa, .inl (cI, 9, .inl (nF ra)))] → va_S A s.heap H locs → ∀ (ls : Array Slot), lv_has ls 2 [(0, .ref aS), (1, .int (nI set))] → W p l e { frames := 4, cells := 0, slots := 0, locals := 102 } s m [.ref aS].toArray below meth c H locs 0 0 (MQ below (va_Qv (fun (u : (Nat → Nat) × (Nat → Nat) × (Nat → Nat) × (Nat) × (Nat)) => match u with | (slz, ssz, soz, sbz, sxz) => slz = m_fill rb rr ra sj sn st 18 18 sl (2 ^ sn - 1) ∧ (∀ k, slz k ≤ 1000000) ∧ ssz = m_costs slz sn ss (2 ^ sn - 1) ∧ (∀ k, ssz k ≤ 1000000) ∧ sbz = ssz (2 ^ sn - 1) ∧ (∀ k, soz k ≤ 17) ∧ sxz ≤ 1000000 ∧ (sbz < 1000000 → ∃ a1 a2 a3, (a1, a2, a3, soz, sxz) = m_trace slz sj ra so sn st 1000000 sn) ∧ (1000000 ≤ sbz → soz = so ∧ sxz = 1000000)) (fun (u : (Nat → Nat) × (Nat → Nat) × (Nat → Nat) × (Nat) × (Nat)) (t : State) => match u with | (slz, ssz, soz, sbz, sxz) => va_P (dC, dI) vwCl [(aS, .inr (4, [.ref aR, .ref aSj, .ref aSl, .ref aSs, .ref aSo, .int (nI sn), .int (nI st), .int (nI sbz), .int (nI sxz)])), (aSl, .inl (cI, 9216, .inl (nF slz))), (aSj, .inl (cI, 324, .inl (nF sj))), (aSs, .inl (cI, 512, .inl (nF ssz))), (aSo, .inl (cI, 9, .inl (nF soz))), (aR, .inr (2, [.ref aRb, .ref aRr, .ref aRa])), (aRb, .inl (cI, 9, .inl (nF rb))), (aRr, .inl (cI, 9, .inl (nF rr))), (aRa, .inl (cI, 9, .inl (nF ra)))] t.heap ∧ va_D A [(aS, .inr (4, [.ref aR, .ref aSj, .ref aSl, .ref aSs, .ref aSo, .int (nI sn), .int (nI st), .int (nI sbz), .int (nI sxz)])), (aSl, .inl (cI, 9216, .inl (nF slz))), (aSj, .inl (cI, 324, .inl (nF sj))), (aSs, .inl (cI, 512, .inl (nF ssz))), (aSo, .inl (cI, 9, .inl (nF soz))), (aR, .inr (2, [.ref aRb, .ref aRr, .ref aRa])), (aRb, .inl (cI, 9, .inl (nF rb))), (aRr, .inl (cI, 9, .inl (nF rr))), (aRa, .inl (cI, 9, .inl (nF ra)))]) A) [.ref aS].toArray s 0 0 A) (F0 m 15 ls []) := by
    intro n15
    induction n15 with
    | zero =>
      intro set ssv hm
      exact absurd hm (Nat.not_lt_zero _)
    | succ n15 ih15 =>
      intro set ssv hm15 bSsv hs hss H locs hP hD hS ls hl
      refine lv_iload_n hx hb dX4_solve_15 rfl (lv_at hl 1 rfl) ?_
      refine lv_aload_n hx hb dX4_solve_16 rfl (lv_at hl 0 rfl) ?_
      have hPc := hP.sub (ws' := [(aS, .inr (4, [.ref aR, .ref aSj, .ref aSl, .ref aSs, .ref aSo, .int (nI sn), .int (nI st), .int (nI sb), .int (nI sx)]))]) [0] rfl
      refine vp_callSi (W.runV (As := []) (rest := [.int (nI set)]) ⟨hx, hb, hml, hown, hts⟩ (k_X4_all l dC dI cI cZ aS aR aSj aSl aSs aSo sn st sb sx (by omega)) (cwV 0 hts gX4_solve_X4_all rfl rfl rfl (by decide +kernel) ⟨Nat.le_of_ble_eq_true rfl, Nat.le_of_ble_eq_true rfl⟩) (ln_preV (q0 := 0) (ci := 4) hPc hKK rfl rfl) rfl rfl hl.1 rfl (lv_room (Nat.le_of_ble_eq_true rfl)) dX4_solve_17 ⟨Nat.le_of_ble_eq_true rfl, Nat.le_of_ble_eq_true rfl⟩) (fun r_6 w_7 => ?_)
      subst w_7
      refine ln_icmp_gt (tgt := 40) hx hb dX4_solve_20 (by decide) (by omega) (by omega) (fun c_8 => ?_) (fun c_8 => ?_)
      · refine lv_aload_n hx hb dX4_solve_40 rfl (lv_at hl 0 rfl) ?_
        refine lv_aload_n hx hb dX4_solve_41 rfl (lv_at hl 0 rfl) ?_
        refine va_get (D := (dC, dI)) (ci := 4) (v := .ref aSs) (C := RX4) (T := TX4) (N := 9) hx hb hts mX4_solve_inX4 hown hK hP 0 rfl rfl 3 (by decide) (hts (.fieldLink RX4 18 "LeafOrder$Search" "setCosts" "[I") mX4_solve_0) (fun _ h9 => h9) rfl dX4_solve_42 ?_
        refine lv_aload_n hx hb dX4_solve_45 rfl (lv_at hl 0 rfl) ?_
        have hPc := hP.sub (ws' := [(aS, .inr (4, [.ref aR, .ref aSj, .ref aSl, .ref aSs, .ref aSo, .int (nI sn), .int (nI st), .int (nI sb), .int (nI sx)]))]) [0] rfl
        refine vp_callSi (W.runV (As := []) (rest := [.ref aSs, .ref aS]) ⟨hx, hb, hml, hown, hts⟩ (k_X4_all l dC dI cI cZ aS aR aSj aSl aSs aSo sn st sb sx (by omega)) (cwV 0 hts gX4_solve_X4_all rfl rfl rfl (by decide +kernel) ⟨Nat.le_of_ble_eq_true rfl, Nat.le_of_ble_eq_true rfl⟩) (ln_preV (q0 := 0) (ci := 4) hPc hKK rfl rfl) rfl rfl hl.1 rfl (lv_room (Nat.le_of_ble_eq_true rfl)) dX4_solve_46 ⟨Nat.le_of_ble_eq_true rfl, Nat.le_of_ble_eq_true rfl⟩) (fun r_9 w_10 => ?_)
        subst w_10
        refine ln_iald (i := 2 ^ sn - 1) hx hb hK hP 3 0 rfl rfl (by omega) (by decide) dX4_solve_49 ?_
        have b_11 := bSsv (2 ^ sn - 1)
        refine va_put (D := (dC, dI)) (ci := 4) (v := .int (nI (ssv (2 ^ sn - 1)))) (ty := .int) (C := RX4) (T := TX4) (N := 9) hx hb hts mX4_solve_inX4 tyX4 tyX4_ok nmX4 hown hK hP hD hS 0 rfl rfl 7 (by decide) (hts (.fieldLink RX4 64 "LeafOrder$Search" "bestCost" "I") mX4_solve_2) (fun _ h9 => h9) rfl (by decide +kernel) rfl rfl (Nat.le_of_ble_eq_true rfl) dX4_solve_50 (fun H locs hP hD hS => ?_)
        have hP : va_P (dC, dI) vwCl [(aS, .inr (4, [.ref aR, .ref aSj, .ref aSl, .ref aSs, .ref aSo, .int (nI sn), .int (nI st), .int (nI (ssv (2 ^ sn - 1))), .int (nI sx)])), (aSl, .inl (cI, 9216, .inl (nF slz_3))), (aSj, .inl (cI, 324, .inl (nF sj))), (aSs, .inl (cI, 512, .inl (nF ssv))), (aSo, .inl (cI, 9, .inl (nF so))), (aR, .inr (2, [.ref aRb, .ref aRr, .ref aRa])), (aRb, .inl (cI, 9, .inl (nF rb))), (aRr, .inl (cI, 9, .inl (nF rr))), (aRa, .inl (cI, 9, .inl (nF ra)))] H := hP
        have hD : va_D A [(aS, .inr (4, [.ref aR, .ref aSj, .ref aSl, .ref aSs, .ref aSo, .int (nI sn), .int (nI st), .int (nI (ssv (2 ^ sn - 1))), .int (nI sx)])), (aSl, .inl (cI, 9216, .inl (nF slz_3))), (aSj, .inl (cI, 324, .inl (nF sj))), (aSs, .inl (cI, 512, .inl (nF ssv))), (aSo, .inl (cI, 9, .inl (nF so))), (aR, .inr (2, [.ref aRb, .ref aRr, .ref aRa])), (aRb, .inl (cI, 9, .inl (nF rb))), (aRr, .inl (cI, 9, .inl (nF rr))), (aRa, .inl (cI, 9, .inl (nF ra)))] := hD
        refine lv_aload_n hx hb dX4_solve_53 rfl (lv_at hl 0 rfl) ?_
        refine lv_ldc (v := nI 1000000) hx hb hown (hts (.constant RX4 44 (1000000)) mX4_solve_3) dX4_solve_54 ?_
        refine va_put (D := (dC, dI)) (ci := 4) (v := .int (nI 1000000)) (ty := .int) (C := RX4) (T := TX4) (N := 9) hx hb hts mX4_solve_inX4 tyX4 tyX4_ok nmX4 hown hK hP hD hS 0 rfl rfl 8 (by decide) (hts (.fieldLink RX4 67 "LeafOrder$Search" "nextCost" "I") mX4_solve_4) (fun _ h9 => h9) rfl (by decide +kernel) rfl rfl (Nat.le_of_ble_eq_true rfl) dX4_solve_56 (fun H locs hP hD hS => ?_)
        have hP : va_P (dC, dI) vwCl [(aS, .inr (4, [.ref aR, .ref aSj, .ref aSl, .ref aSs, .ref aSo, .int (nI sn), .int (nI st), .int (nI (ssv (2 ^ sn - 1))), .int (nI 1000000)])), (aSl, .inl (cI, 9216, .inl (nF slz_3))), (aSj, .inl (cI, 324, .inl (nF sj))), (aSs, .inl (cI, 512, .inl (nF ssv))), (aSo, .inl (cI, 9, .inl (nF so))), (aR, .inr (2, [.ref aRb, .ref aRr, .ref aRa])), (aRb, .inl (cI, 9, .inl (nF rb))), (aRr, .inl (cI, 9, .inl (nF rr))), (aRa, .inl (cI, 9, .inl (nF ra)))] H := hP
        have hD : va_D A [(aS, .inr (4, [.ref aR, .ref aSj, .ref aSl, .ref aSs, .ref aSo, .int (nI sn), .int (nI st), .int (nI (ssv (2 ^ sn - 1))), .int (nI 1000000)])), (aSl, .inl (cI, 9216, .inl (nF slz_3))), (aSj, .inl (cI, 324, .inl (nF sj))), (aSs, .inl (cI, 512, .inl (nF ssv))), (aSo, .inl (cI, 9, .inl (nF so))), (aR, .inr (2, [.ref aRb, .ref aRr, .ref aRa])), (aRb, .inl (cI, 9, .inl (nF rb))), (aRr, .inl (cI, 9, .inl (nF rr))), (aRa, .inl (cI, 9, .inl (nF ra)))] := hD
        refine lv_aload_n hx hb dX4_solve_59 rfl (lv_at hl 0 rfl) ?_
        refine va_get (D := (dC, dI)) (ci := 4) (v := .int (nI (ssv (2 ^ sn - 1)))) (C := RX4) (T := TX4) (N := 9) hx hb hts mX4_solve_inX4 hown hK hP 0 rfl rfl 7 (by decide) (hts (.fieldLink RX4 64 "LeafOrder$Search" "bestCost" "I") mX4_solve_2) (fun _ h9 => h9) rfl dX4_solve_60 ?_
        refine lv_ldc (v := nI 1000000) hx hb hown (hts (.constant RX4 44 (1000000)) mX4_solve_3) dX4_solve_63 ?_
        refine ln_icmp_ge (tgt := 72) hx hb dX4_solve_65 (by decide) (by omega) (by decide) (fun c_12 => ?_) (fun c_12 => ?_)
        · exact W.vret hx hb hr (fun t ht hW => ⟨⟨(slz_3, ssv, so, ssv (2 ^ sn - 1), 1000000), rfl, ⟨hfl, b_4, (by rw [hss, show set - 1 = 2 ^ sn - 1 by omega]), bSsv, rfl, bSo, (Nat.le_refl _), (fun q => absurd q (Nat.not_lt.mpr c_12)), (fun _ => ⟨rfl, rfl⟩)⟩, by rw [ht]; exact hP, hD⟩, hS.F ht⟩) hS.2.2 dX4_solve_72
        · refine lv_aload_n hx hb dX4_solve_68 rfl (lv_at hl 0 rfl) ?_
          have hPc := hP.sub (ws' := [(aS, .inr (4, [.ref aR, .ref aSj, .ref aSl, .ref aSs, .ref aSo, .int (nI sn), .int (nI st), .int (nI (ssv (2 ^ sn - 1))), .int (nI 1000000)])), (aSl, .inl (cI, 9216, .inl (nF slz_3))), (aSj, .inl (cI, 324, .inl (nF sj))), (aSo, .inl (cI, 9, .inl (nF so))), (aR, .inr (2, [.ref aRb, .ref aRr, .ref aRa])), (aRa, .inl (cI, 9, .inl (nF ra)))]) [0, 1, 2, 4, 5, 8] rfl
          have hDc := hD.sub (ws' := [(aS, .inr (4, [.ref aR, .ref aSj, .ref aSl, .ref aSs, .ref aSo, .int (nI sn), .int (nI st), .int (nI (ssv (2 ^ sn - 1))), .int (nI 1000000)])), (aSl, .inl (cI, 9216, .inl (nF slz_3))), (aSj, .inl (cI, 324, .inl (nF sj))), (aSo, .inl (cI, 9, .inl (nF so))), (aR, .inr (2, [.ref aRb, .ref aRr, .ref aRa])), (aRa, .inl (cI, 9, .inl (nF ra)))]) [0, 1, 2, 4, 5, 8] (by decide) rfl
          have hFc := va_free (wc := [(aS, .inr (4, [.ref aR, .ref aSj, .ref aSl, .ref aSs, .ref aSo, .int (nI sn), .int (nI st), .int (nI (ssv (2 ^ sn - 1))), .int (nI 1000000)])), (aSl, .inl (cI, 9216, .inl (nF slz_3))), (aSj, .inl (cI, 324, .inl (nF sj))), (aSo, .inl (cI, 9, .inl (nF so))), (aR, .inr (2, [.ref aRb, .ref aRr, .ref aRa])), (aRa, .inl (cI, 9, .inl (nF ra)))]) hD hS hA [0, 1, 2, 4, 5, 8] rfl
          refine va_callv (va_runV (As := []) (rest := []) ⟨hx, hb, hml, hown, hts⟩ (k_X4_trace l dC dI cI cZ aS aR aSj aSl aSs aSo aRb aRr aRa sn st (ssv (2 ^ sn - 1)) 1000000 slz_3 sj so ra H.size b_4 bSj bSo bRa (by omega) (by omega) (Nat.le_refl _)) (cwV 0 hts gX4_solve_X4_trace rfl rfl rfl (by decide +kernel) ⟨Nat.le_of_ble_eq_true rfl, Nat.le_of_ble_eq_true rfl⟩) (ln_preVM (q0 := 0) (ci := 4) hPc hKK hDc rfl rfl) rfl rfl hl.1 rfl (lv_room (Nat.le_of_ble_eq_true rfl)) dX4_solve_69 ⟨Nat.le_of_ble_eq_true rfl, Nat.le_of_ble_eq_true rfl⟩) hS (fun q _ h => hFc q h) hFc (fun u t H1 locs ht hvm w_14 hB hz1 hk1 hS => ?_)
          obtain ⟨soz_15, sxz_16⟩ := u
          obtain ⟨hP1, hD1⟩ := hB
          rw [ht] at hP1
          try dsimp only at w_14
          obtain ⟨hP, hD⟩ := va_join (wr := [(aSs, .inl (cI, 512, .inl (nF ssv))), (aRb, .inl (cI, 9, .inl (nF rb))), (aRr, .inl (cI, 9, .inl (nF rr)))]) (w1 := [(aS, .inr (4, [.ref aR, .ref aSj, .ref aSl, .ref aSs, .ref aSo, .int (nI sn), .int (nI st), .int (nI (ssv (2 ^ sn - 1))), .int (nI sxz_16)])), (aSl, .inl (cI, 9216, .inl (nF slz_3))), (aSj, .inl (cI, 324, .inl (nF sj))), (aSo, .inl (cI, 9, .inl (nF soz_15))), (aR, .inr (2, [.ref aRb, .ref aRr, .ref aRa])), (aRa, .inl (cI, 9, .inl (nF ra)))]) hP hD [0, 1, 2, 4, 5, 8] [3, 6, 7] rfl rfl (by decide) (by decide) hk1 hFc hP1 hD1
          generalize H1 = H at hP hS ⊢
          have hP := hP.sub (ws' := [(aS, .inr (4, [.ref aR, .ref aSj, .ref aSl, .ref aSs, .ref aSo, .int (nI sn), .int (nI st), .int (nI (ssv (2 ^ sn - 1))), .int (nI sxz_16)])), (aSl, .inl (cI, 9216, .inl (nF slz_3))), (aSj, .inl (cI, 324, .inl (nF sj))), (aSs, .inl (cI, 512, .inl (nF ssv))), (aSo, .inl (cI, 9, .inl (nF soz_15))), (aR, .inr (2, [.ref aRb, .ref aRr, .ref aRa])), (aRb, .inl (cI, 9, .inl (nF rb))), (aRr, .inl (cI, 9, .inl (nF rr))), (aRa, .inl (cI, 9, .inl (nF ra)))]) [3, 4, 5, 0, 6, 7, 1, 2, 8] rfl
          have hD := hD.sub (ws' := [(aS, .inr (4, [.ref aR, .ref aSj, .ref aSl, .ref aSs, .ref aSo, .int (nI sn), .int (nI st), .int (nI (ssv (2 ^ sn - 1))), .int (nI sxz_16)])), (aSl, .inl (cI, 9216, .inl (nF slz_3))), (aSj, .inl (cI, 324, .inl (nF sj))), (aSs, .inl (cI, 512, .inl (nF ssv))), (aSo, .inl (cI, 9, .inl (nF soz_15))), (aR, .inr (2, [.ref aRb, .ref aRr, .ref aRa])), (aRb, .inl (cI, 9, .inl (nF rb))), (aRr, .inl (cI, 9, .inl (nF rr))), (aRa, .inl (cI, 9, .inl (nF ra)))]) [3, 4, 5, 0, 6, 7, 1, 2, 8] (by decide) rfl
          obtain ⟨b_17, htx, htr⟩ := w_14
          exact W.vret hx hb hr (fun t ht hW => ⟨⟨(slz_3, ssv, soz_15, ssv (2 ^ sn - 1), sxz_16), rfl, ⟨hfl, b_4, (by rw [hss, show set - 1 = 2 ^ sn - 1 by omega]), bSsv, rfl, b_17, htx, (fun _ => htr), (fun q => absurd c_12 (Nat.not_lt.mpr q))⟩, by rw [ht]; exact hP, hD⟩, hS.F ht⟩) hS.2.2 dX4_solve_72
      · refine lv_aload_n hx hb dX4_solve_23 rfl (lv_at hl 0 rfl) ?_
        refine va_get (D := (dC, dI)) (ci := 4) (v := .ref aSs) (C := RX4) (T := TX4) (N := 9) hx hb hts mX4_solve_inX4 hown hK hP 0 rfl rfl 3 (by decide) (hts (.fieldLink RX4 18 "LeafOrder$Search" "setCosts" "[I") mX4_solve_0) (fun _ h9 => h9) rfl dX4_solve_24 ?_
        refine lv_iload_n hx hb dX4_solve_27 rfl (lv_at hl 1 rfl) ?_
        refine lv_aload_n hx hb dX4_solve_28 rfl (lv_at hl 0 rfl) ?_
        refine lv_iload_n hx hb dX4_solve_29 rfl (lv_at hl 1 rfl) ?_
        have hPc := hP.sub (ws' := [(aS, .inr (4, [.ref aR, .ref aSj, .ref aSl, .ref aSs, .ref aSo, .int (nI sn), .int (nI st), .int (nI sb), .int (nI sx)])), (aSl, .inl (cI, 9216, .inl (nF slz_3)))]) [0, 1] rfl
        refine vp_callSi (W.runV (As := [.int (nI set)]) (rest := [.int (nI set), .ref aSs]) ⟨hx, hb, hml, hown, hts⟩ (k_X4_leastOf l dC dI cI cZ aS aR aSj aSl aSs aSo sn st sb sx slz_3 set b_4 (by omega) (by omega)) (cwV 1 hts gX4_solve_X4_leastOf rfl rfl rfl (by decide +kernel) ⟨Nat.le_of_ble_eq_true rfl, Nat.le_of_ble_eq_true rfl⟩) (ln_preV (q0 := 0) (ci := 4) hPc hKK rfl rfl) rfl rfl hl.1 rfl (lv_room (Nat.le_of_ble_eq_true rfl)) dX4_solve_30 ⟨Nat.le_of_ble_eq_true rfl, Nat.le_of_ble_eq_true rfl⟩) (fun r_18 w_19 => ?_)
        subst w_19
        refine ln_iast (i := set) hx hb hK hP hD hS 3 0 rfl rfl (by omega) (by decide) dX4_solve_33 (fun H locs hP hD hS => ?_)
        have b_20 : ∀ k, (upN ssv set (m_of slz_3 set (2 * sn))) k ≤ 1000000 := upN_le bSsv (m_of_le _ _ _)
        have hP : va_P (dC, dI) vwCl [(aS, .inr (4, [.ref aR, .ref aSj, .ref aSl, .ref aSs, .ref aSo, .int (nI sn), .int (nI st), .int (nI sb), .int (nI sx)])), (aSl, .inl (cI, 9216, .inl (nF slz_3))), (aSj, .inl (cI, 324, .inl (nF sj))), (aSs, .inl (cI, 512, .inl (nF (upN ssv set (m_of slz_3 set (2 * sn)))))), (aSo, .inl (cI, 9, .inl (nF so))), (aR, .inr (2, [.ref aRb, .ref aRr, .ref aRa])), (aRb, .inl (cI, 9, .inl (nF rb))), (aRr, .inl (cI, 9, .inl (nF rr))), (aRa, .inl (cI, 9, .inl (nF ra)))] H := hP
        have hD : va_D A [(aS, .inr (4, [.ref aR, .ref aSj, .ref aSl, .ref aSs, .ref aSo, .int (nI sn), .int (nI st), .int (nI sb), .int (nI sx)])), (aSl, .inl (cI, 9216, .inl (nF slz_3))), (aSj, .inl (cI, 324, .inl (nF sj))), (aSs, .inl (cI, 512, .inl (nF (upN ssv set (m_of slz_3 set (2 * sn)))))), (aSo, .inl (cI, 9, .inl (nF so))), (aR, .inr (2, [.ref aRb, .ref aRr, .ref aRa])), (aRb, .inl (cI, 9, .inl (nF rb))), (aRr, .inl (cI, 9, .inl (nF rr))), (aRa, .inl (cI, 9, .inl (nF ra)))] := hD
        refine lv_iinc (v := (nI (set + 1))) (lv' := [(1, .int (nI (set + 1))), (0, .ref aS)]) hx hb dX4_solve_34 hl (k := 1) rfl (by first | exact nI_1 _ | rfl) (by decide) rfl (fun ls hl => ?_)
        refine lv_goto (tgt := 15) hx hb dX4_solve_37 (by decide) ?_
        exact ih15 (set + 1) (upN ssv set (m_of slz_3 set (2 * sn))) (by omega) b_20 (by omega) (by rw [Nat.add_sub_cancel]; conv => rhs; rw [show set = (set - 1) + 1 by omega, m_costs]; rw [show set - 1 + 1 = set by omega, ← hss]) _ _ hP hD hS ls (lv_sub hl [1, 0] rfl)
  exact LP15 _ 1 (upN ss 0 0) (Nat.lt_succ_self _) b_5 ⟨Nat.le_refl _, hp1⟩ rfl _ _ hP hD hS ls (lv_sub hl [1, 0] rfl)
theorem mX4_isInBest_0 : Cond.fieldLink RX4 40 "LeafOrder$Search" "count" "I" ∈ wsX4_isInBest := by decide +kernel
theorem mX4_isInBest_inX4 : ∀ w ∈ wsX40, w ∈ wsX4_isInBest := by decide +kernel
theorem mX4_isInBest_2 : Cond.fieldLink RX4 21 "LeafOrder$Search" "order" "[I" ∈ wsX4_isInBest := by decide +kernel
set_option maxHeartbeats 4000000 in
set_option maxRecDepth 100000 in
theorem k_X4_isInBest (l : Launch) (dC : Nat → ClassId) (dI : Nat → Nat → Nat) (cI cZ : ClassId) (aS aR aSj aSl aSs aSo : Nat) (sn : Nat) (st : Nat) (sb : Nat) (sx : Nat) (so : Nat → Nat) (q1 : Nat) (q2 : Nat) (bSo : ∀ k, so k ≤ 17) (hn : sn ≤ 9) (h1 : q1 < 9) (h2 : q2 < 9) : Met l yX4_isInBest wsX4_isInBest { frames := 0, cells := 0, slots := 0, locals := 0 } (va_Pc [.ref aS, .int (nI q1), .int (nI q2)] (fun U => va_P (dC, dI) vwCl [(aS, .inr (4, [.ref aR, .ref aSj, .ref aSl, .ref aSs, .ref aSo, .int (nI sn), .int (nI st), .int (nI sb), .int (nI sx)])), (aSo, .inl (cI, 9, .inl (nF so)))] U.heap ∧ lK dC dI cI cZ U)) (vp_Si (fun r => (r = nI 1 ∧ (m_in so sn q1 q2)) ∨ (r = nI 0 ∧ ¬ (m_in so sn q1 q2)))) 0 0 (fun _ => False) := by
  refine Met.ofW (cc := cX4_isInBest) (maxL := 4) (ret := (some .boolean)) (by decide) rfl ?_
  intro p e s m args below meth c s₁ B hml hv
  obtain ⟨rfl, hP, hKK⟩ := hv
  have hK := hKK.1
  have hx := B.exec
  have hb := B.bytes
  have hr := B.returns
  have hts := atoms_spec (ws := wsX4_isInBest) B.pre
  have hown : s.vm.findClass RX4 = some m.cls := findClass_of_methodNamed B.named
  have hlocks := B.notSynchronized
  have hl := lv_entry ([.ref aS, .int (nI q1), .int (nI q2)]) (n := 4) (Nat.le_of_ble_eq_true rfl)
  rw [lg_entry_eq]
  generalize (lg_sl ([.ref aS, .int (nI q1), .int (nI q2)]) ++ List.replicate (4 - (lg_sl ([.ref aS, .int (nI q1), .int (nI q2)])).length) Slot.unset).toArray = ls at hl ⊢
  have hl : lv_has ls 4 [(0, .ref aS), (1, .int (nI q1)), (2, .int (nI q2))] := hl
  refine lv_iconst (v := nI 1) hx hb dX4_isInBest_0 (by decide) ?_
  refine lv_istore_n (lv' := [(3, .int (nI 1)), (0, .ref aS), (1, .int (nI q1)), (2, .int (nI q2))]) hx hb dX4_isInBest_1 rfl hl (by decide) rfl (fun ls hl => ?_)
  have LP2 : ∀ (n2 : Nat) (i : Nat), sn - i < n2 → (1 ≤ i ∧ (i ≤ sn ∨ i = 1)) → (∀ k, k + 1 < i → ¬ (so k >>> 1 = q1 ∧ so (k + 1) >>> 1 = q2)) → ∀ (ls : Array Slot), lv_has ls 4 [(0, .ref aS), (1, .int (nI q1)), (2, .int (nI q2)), (3, .int (nI i))] → W p l e { frames := 0, cells := 0, slots := 0, locals := 0 } s m [.ref aS, .int (nI q1), .int (nI q2)].toArray below meth c s.heap [] 0 0 (MQ below (vp_Si (fun r => (r = nI 1 ∧ (m_in so sn q1 q2)) ∨ (r = nI 0 ∧ ¬ (m_in so sn q1 q2)))) [.ref aS, .int (nI q1), .int (nI q2)].toArray s 0 0 (fun _ => False)) (F0 m 2 ls []) := by
    intro n2
    induction n2 with
    | zero =>
      intro i hm
      exact absurd hm (Nat.not_lt_zero _)
    | succ n2 ih2 =>
      intro i hm2  hi hno ls hl
      refine lv_iload_n hx hb dX4_isInBest_2 rfl (lv_at hl 3 rfl) ?_
      refine lv_aload_n hx hb dX4_isInBest_3 rfl (lv_at hl 0 rfl) ?_
      refine va_get (D := (dC, dI)) (ci := 4) (v := .int (nI sn)) (C := RX4) (T := TX4) (N := 9) hx hb hts mX4_isInBest_inX4 hown hK hP 0 rfl rfl 5 (by decide) (hts (.fieldLink RX4 40 "LeafOrder$Search" "count" "I") mX4_isInBest_0) (fun _ h9 => h9) rfl dX4_isInBest_4 ?_
      refine ln_icmp_ge (tgt := 44) hx hb dX4_isInBest_7 (by decide) (by omega) (by omega) (fun c_1 => ?_) (fun c_1 => ?_)
      · refine lv_iconst (v := nI 0) hx hb dX4_isInBest_44 (by decide) ?_
        exact W.zret (v := (nI 0)) hx hb hr (by decide) (fun t ht hW => ⟨(nI 0), rfl, Or.inr ⟨rfl, (fun ⟨k, hk, e1, e2⟩ => hno k (by omega) ⟨e1, e2⟩)⟩, ht⟩) (fun _ h => by cases h) dX4_isInBest_45
      · refine lv_aload_n hx hb dX4_isInBest_10 rfl (lv_at hl 0 rfl) ?_
        refine va_get (D := (dC, dI)) (ci := 4) (v := .ref aSo) (C := RX4) (T := TX4) (N := 9) hx hb hts mX4_isInBest_inX4 hown hK hP 0 rfl rfl 4 (by decide) (hts (.fieldLink RX4 21 "LeafOrder$Search" "order" "[I") mX4_isInBest_2) (fun _ h9 => h9) rfl dX4_isInBest_11 ?_
        refine lv_iload_n hx hb dX4_isInBest_14 rfl (lv_at hl 3 rfl) ?_
        refine lv_iconst (v := nI 1) hx hb dX4_isInBest_15 (by decide) ?_
        refine ln_isub hx hb dX4_isInBest_16 (by omega) ?_
        refine ln_iald (i := i - 1) hx hb hK hP 1 0 rfl rfl (by omega) (by decide) dX4_isInBest_17 ?_
        have b_2 := bSo (i - 1)
        refine lv_iconst (v := nI 1) hx hb dX4_isInBest_18 (by decide) ?_
        refine ln_ishr hx hb dX4_isInBest_19 (by omega) (by omega) ?_
        refine lv_iload_n hx hb dX4_isInBest_20 rfl (lv_at hl 1 rfl) ?_
        refine ln_icmp_ne (tgt := 38) hx hb dX4_isInBest_21 (by decide) (by omega) (by omega) (fun c_3 => ?_) (fun c_3 => ?_)
        · refine lv_iinc (v := (nI (i + 1))) (lv' := [(3, .int (nI (i + 1))), (0, .ref aS), (1, .int (nI q1)), (2, .int (nI q2))]) hx hb dX4_isInBest_38 hl (k := 3) rfl (by first | exact nI_1 _ | rfl) (by decide) rfl (fun ls hl => ?_)
          refine lv_goto (tgt := 2) hx hb dX4_isInBest_41 (by decide) ?_
          exact ih2 (i + 1) (by omega)  (by omega) (fun kk hk ⟨e1, e2⟩ => by rcases Nat.lt_or_ge (kk + 1) i with q | q; exact hno kk q ⟨e1, e2⟩; exact c_3 (by rw [show i - 1 = kk by omega]; exact e1)) ls (lv_sub hl [1, 2, 3, 0] rfl)
        · refine lv_aload_n hx hb dX4_isInBest_24 rfl (lv_at hl 0 rfl) ?_
          refine va_get (D := (dC, dI)) (ci := 4) (v := .ref aSo) (C := RX4) (T := TX4) (N := 9) hx hb hts mX4_isInBest_inX4 hown hK hP 0 rfl rfl 4 (by decide) (hts (.fieldLink RX4 21 "LeafOrder$Search" "order" "[I") mX4_isInBest_2) (fun _ h9 => h9) rfl dX4_isInBest_25 ?_
          refine lv_iload_n hx hb dX4_isInBest_28 rfl (lv_at hl 3 rfl) ?_
          refine ln_iald (i := i) hx hb hK hP 1 0 rfl rfl (by omega) (by decide) dX4_isInBest_29 ?_
          have b_4 := bSo i
          refine lv_iconst (v := nI 1) hx hb dX4_isInBest_30 (by decide) ?_
          refine ln_ishr hx hb dX4_isInBest_31 (by omega) (by omega) ?_
          refine lv_iload_n hx hb dX4_isInBest_32 rfl (lv_at hl 2 rfl) ?_
          refine ln_icmp_ne (tgt := 38) hx hb dX4_isInBest_33 (by decide) (by omega) (by omega) (fun c_5 => ?_) (fun c_5 => ?_)
          · refine lv_iinc (v := (nI (i + 1))) (lv' := [(3, .int (nI (i + 1))), (0, .ref aS), (1, .int (nI q1)), (2, .int (nI q2))]) hx hb dX4_isInBest_38 hl (k := 3) rfl (by first | exact nI_1 _ | rfl) (by decide) rfl (fun ls hl => ?_)
            refine lv_goto (tgt := 2) hx hb dX4_isInBest_41 (by decide) ?_
            exact ih2 (i + 1) (by omega)  (by omega) (fun kk hk ⟨e1, e2⟩ => by rcases Nat.lt_or_ge (kk + 1) i with q | q; exact hno kk q ⟨e1, e2⟩; exact c_5 (by rw [show i = kk + 1 by omega]; exact e2)) ls (lv_sub hl [1, 2, 3, 0] rfl)
          · refine lv_iconst (v := nI 1) hx hb dX4_isInBest_36 (by decide) ?_
            exact W.zret (v := (nI 1)) hx hb hr (by decide) (fun t ht hW => ⟨(nI 1), rfl, Or.inl ⟨rfl, ⟨i - 1, (by omega), c_3, (by rw [show i - 1 + 1 = i by omega]; exact c_5)⟩⟩, ht⟩) (fun _ h => by cases h) dX4_isInBest_37
  exact LP2 _ 1 (Nat.lt_succ_self _)  (by omega) (fun k hk => absurd hk (by omega)) ls (lv_sub hl [1, 2, 3, 0] rfl)
theorem mX4_isSure_0 : Cond.fieldLink RX4 67 "LeafOrder$Search" "nextCost" "I" ∈ wsX4_isSure := by decide +kernel
theorem mX4_isSure_inX4 : ∀ w ∈ wsX40, w ∈ wsX4_isSure := by decide +kernel
theorem mX4_isSure_2 : Cond.fieldLink RX4 64 "LeafOrder$Search" "bestCost" "I" ∈ wsX4_isSure := by decide +kernel
set_option maxHeartbeats 4000000 in
set_option maxRecDepth 100000 in
theorem k_X4_isSure (l : Launch) (dC : Nat → ClassId) (dI : Nat → Nat → Nat) (cI cZ : ClassId) (aS aR aSj aSl aSs aSo aRb aRr aRa : Nat) (sn : Nat) (st : Nat) (sb : Nat) (sx : Nat) (sl : Nat → Nat) (sj : Nat → Nat) (so : Nat → Nat) (rb : Nat → Nat) (rr : Nat → Nat) (ra : Nat → Nat) (q1 : Nat) (q2 : Nat) (q3 : Nat) (sz : Nat) (bSl : ∀ k, sl k ≤ 1000000) (bSj : ∀ k, sj k ≤ 10000) (bSo : ∀ k, so k ≤ 17) (bRb : ∀ k, rb k ≤ 511) (bRr : ∀ k, rr k ≤ 511) (bRa : ∀ k, ra k ≤ 511) (hn : sn ≤ 9) (ht : st ≤ 1000000) (h1 : q1 < 9) (h2 : q2 < 9) (h3 : q3 ≤ 1000) (hsb : sb ≤ 1000000) (hsx : sx ≤ 1000000) : Met l yX4_isSure wsX4_isSure { frames := 4, cells := 0, slots := 0, locals := 102 } (va_Pc [.ref aS, .int (nI q1), .int (nI q2), .int (nI q3)] (fun U => U.heap.size = sz ∧ va_P (dC, dI) vwCl [(aS, .inr (4, [.ref aR, .ref aSj, .ref aSl, .ref aSs, .ref aSo, .int (nI sn), .int (nI st), .int (nI sb), .int (nI sx)])), (aSl, .inl (cI, 9216, .inl (nF sl))), (aSj, .inl (cI, 324, .inl (nF sj))), (aSo, .inl (cI, 9, .inl (nF so))), (aR, .inr (2, [.ref aRb, .ref aRr, .ref aRa])), (aRb, .inl (cI, 9, .inl (nF rb))), (aRr, .inl (cI, 9, .inl (nF rr))), (aRa, .inl (cI, 9, .inl (nF ra)))] U.heap ∧ lK dC dI cI cZ U ∧ va_D (fun _ => True) [(aS, .inr (4, [.ref aR, .ref aSj, .ref aSl, .ref aSs, .ref aSo, .int (nI sn), .int (nI st), .int (nI sb), .int (nI sx)])), (aSl, .inl (cI, 9216, .inl (nF sl))), (aSj, .inl (cI, 324, .inl (nF sj))), (aSo, .inl (cI, 9, .inl (nF so))), (aR, .inr (2, [.ref aRb, .ref aRr, .ref aRa])), (aRb, .inl (cI, 9, .inl (nF rb))), (aRr, .inl (cI, 9, .inl (nF rr))), (aRa, .inl (cI, 9, .inl (nF ra)))])) (va_Qi (fun (r : Int32) (slz : (Nat → Nat)) => ((r = nI 1 ∧ (m_in so sn q1 q2 ∧ (sb + q3 < sx ∨ sb + q3 < m_of (m_fill rb rr ra sj sn st q1 q2 sl (2 ^ sn - 1)) (2 ^ sn - 1) (2 * sn)))) ∨ (r = nI 0 ∧ ¬ (m_in so sn q1 q2 ∧ (sb + q3 < sx ∨ sb + q3 < m_of (m_fill rb rr ra sj sn st q1 q2 sl (2 ^ sn - 1)) (2 ^ sn - 1) (2 * sn))))) ∧ ∀ k, slz k ≤ 1000000) (fun (slz : (Nat → Nat)) (t : State) => va_P (dC, dI) vwCl [(aS, .inr (4, [.ref aR, .ref aSj, .ref aSl, .ref aSs, .ref aSo, .int (nI sn), .int (nI st), .int (nI sb), .int (nI sx)])), (aSl, .inl (cI, 9216, .inl (nF slz))), (aSj, .inl (cI, 324, .inl (nF sj))), (aSo, .inl (cI, 9, .inl (nF so))), (aR, .inr (2, [.ref aRb, .ref aRr, .ref aRa])), (aRb, .inl (cI, 9, .inl (nF rb))), (aRr, .inl (cI, 9, .inl (nF rr))), (aRa, .inl (cI, 9, .inl (nF ra)))] t.heap ∧ va_D (va_A [(aS, .inr (4, [.ref aR, .ref aSj, .ref aSl, .ref aSs, .ref aSo, .int (nI sn), .int (nI st), .int (nI sb), .int (nI sx)])), (aSl, .inl (cI, 9216, .inl (nF sl))), (aSj, .inl (cI, 324, .inl (nF sj))), (aSo, .inl (cI, 9, .inl (nF so))), (aR, .inr (2, [.ref aRb, .ref aRr, .ref aRa])), (aRb, .inl (cI, 9, .inl (nF rb))), (aRr, .inl (cI, 9, .inl (nF rr))), (aRa, .inl (cI, 9, .inl (nF ra)))] sz) [(aS, .inr (4, [.ref aR, .ref aSj, .ref aSl, .ref aSs, .ref aSo, .int (nI sn), .int (nI st), .int (nI sb), .int (nI sx)])), (aSl, .inl (cI, 9216, .inl (nF slz))), (aSj, .inl (cI, 324, .inl (nF sj))), (aSo, .inl (cI, 9, .inl (nF so))), (aR, .inr (2, [.ref aRb, .ref aRr, .ref aRa])), (aRb, .inl (cI, 9, .inl (nF rb))), (aRr, .inl (cI, 9, .inl (nF rr))), (aRa, .inl (cI, 9, .inl (nF ra)))]) (va_A [(aS, .inr (4, [.ref aR, .ref aSj, .ref aSl, .ref aSs, .ref aSo, .int (nI sn), .int (nI st), .int (nI sb), .int (nI sx)])), (aSl, .inl (cI, 9216, .inl (nF sl))), (aSj, .inl (cI, 324, .inl (nF sj))), (aSo, .inl (cI, 9, .inl (nF so))), (aR, .inr (2, [.ref aRb, .ref aRr, .ref aRa])), (aRb, .inl (cI, 9, .inl (nF rb))), (aRr, .inl (cI, 9, .inl (nF rr))), (aRa, .inl (cI, 9, .inl (nF ra)))] sz)) 0 0 (va_A [(aS, .inr (4, [.ref aR, .ref aSj, .ref aSl, .ref aSs, .ref aSo, .int (nI sn), .int (nI st), .int (nI sb), .int (nI sx)])), (aSl, .inl (cI, 9216, .inl (nF sl))), (aSj, .inl (cI, 324, .inl (nF sj))), (aSo, .inl (cI, 9, .inl (nF so))), (aR, .inr (2, [.ref aRb, .ref aRr, .ref aRa])), (aRb, .inl (cI, 9, .inl (nF rb))), (aRr, .inl (cI, 9, .inl (nF rr))), (aRa, .inl (cI, 9, .inl (nF ra)))] sz) := by
  refine Met.ofW (cc := cX4_isSure) (maxL := 4) (ret := (some .boolean)) (by decide) rfl ?_
  intro p e s m args below meth c s₁ B hml hv
  obtain ⟨rfl, hsz, hP, hKK, hD0⟩ := hv
  have hK := hKK.1
  have hx := B.exec
  have hb := B.bytes
  have hr := B.returns
  have hts := atoms_spec (ws := wsX4_isSure) B.pre
  have hown : s.vm.findClass RX4 = some m.cls := findClass_of_methodNamed B.named
  have hlocks := B.notSynchronized
  subst hsz
  have hD := hD0.self (sz := s.heap.size)
  generalize hAe : va_A [(aS, .inr (4, [.ref aR, .ref aSj, .ref aSl, .ref aSs, .ref aSo, .int (nI sn), .int (nI st), .int (nI sb), .int (nI sx)])), (aSl, .inl (cI, 9216, .inl (nF sl))), (aSj, .inl (cI, 324, .inl (nF sj))), (aSo, .inl (cI, 9, .inl (nF so))), (aR, .inr (2, [.ref aRb, .ref aRr, .ref aRa])), (aRb, .inl (cI, 9, .inl (nF rb))), (aRr, .inl (cI, 9, .inl (nF rr))), (aRa, .inl (cI, 9, .inl (nF ra)))] s.heap.size = A at hD ⊢
  have hA : ∀ q : Nat, s.heap.size ≤ q → A q := fun q h => by rw [← hAe]; exact Or.inr h
  have hS : va_S A s.heap s.heap [] := va_S.rf
  have hl := lv_entry ([.ref aS, .int (nI q1), .int (nI q2), .int (nI q3)]) (n := 4) (Nat.le_of_ble_eq_true rfl)
  rw [lg_entry_eq]
  generalize (lg_sl ([.ref aS, .int (nI q1), .int (nI q2), .int (nI q3)]) ++ List.replicate (4 - (lg_sl ([.ref aS, .int (nI q1), .int (nI q2), .int (nI q3)])).length) Slot.unset).toArray = ls at hl ⊢
  have hl : lv_has ls 4 [(0, .ref aS), (1, .int (nI q1)), (2, .int (nI q2)), (3, .int (nI q3))] := hl
  refine lv_aload_n hx hb dX4_isSure_0 rfl (lv_at hl 0 rfl) ?_
  refine lv_iload_n hx hb dX4_isSure_1 rfl (lv_at hl 1 rfl) ?_
  refine lv_iload_n hx hb dX4_isSure_2 rfl (lv_at hl 2 rfl) ?_
  have hPc := hP.sub (ws' := [(aS, .inr (4, [.ref aR, .ref aSj, .ref aSl, .ref aSs, .ref aSo, .int (nI sn), .int (nI st), .int (nI sb), .int (nI sx)])), (aSo, .inl (cI, 9, .inl (nF so)))]) [0, 3] rfl
  refine vp_callSi (W.runV (As := [.int (nI q1), .int (nI q2)]) (rest := []) ⟨hx, hb, hml, hown, hts⟩ (k_X4_isInBest l dC dI cI cZ aS aR aSj aSl aSs aSo sn st sb sx so q1 q2 bSo (by omega) (by omega) (by omega)) (cwV 2 hts gX4_isSure_X4_isInBest rfl rfl rfl (by decide +kernel) ⟨Nat.le_of_ble_eq_true rfl, Nat.le_of_ble_eq_true rfl⟩) (ln_preV (q0 := 0) (ci := 4) hPc hKK rfl rfl) rfl rfl hl.1 rfl (lv_room (Nat.le_of_ble_eq_true rfl)) dX4_isSure_3 ⟨Nat.le_of_ble_eq_true rfl, Nat.le_of_ble_eq_true rfl⟩) (fun r_1 w_2 => ?_)
  rcases w_2 with ⟨rfl, c_3⟩ | ⟨rfl, c_3⟩
  · refine ln_if_neT (tgt := 11) hx hb dX4_isSure_6 (by decide) (by decide) ?_
    refine lv_aload_n hx hb dX4_isSure_11 rfl (lv_at hl 0 rfl) ?_
    refine va_get (D := (dC, dI)) (ci := 4) (v := .int (nI sx)) (C := RX4) (T := TX4) (N := 9) hx hb hts mX4_isSure_inX4 hown hK hP 0 rfl rfl 8 (by decide) (hts (.fieldLink RX4 67 "LeafOrder$Search" "nextCost" "I") mX4_isSure_0) (fun _ h9 => h9) rfl dX4_isSure_12 ?_
    refine lv_aload_n hx hb dX4_isSure_15 rfl (lv_at hl 0 rfl) ?_
    refine va_get (D := (dC, dI)) (ci := 4) (v := .int (nI sb)) (C := RX4) (T := TX4) (N := 9) hx hb hts mX4_isSure_inX4 hown hK hP 0 rfl rfl 7 (by decide) (hts (.fieldLink RX4 64 "LeafOrder$Search" "bestCost" "I") mX4_isSure_2) (fun _ h9 => h9) rfl dX4_isSure_16 ?_
    refine lv_iload_n hx hb dX4_isSure_19 rfl (lv_at hl 3 rfl) ?_
    refine ln_iadd hx hb dX4_isSure_20 ?_
    refine ln_icmp_le (tgt := 26) hx hb dX4_isSure_21 (by decide) (by omega) (by omega) (fun c_4 => ?_) (fun c_4 => ?_)
    · refine lv_aload_n hx hb dX4_isSure_26 rfl (lv_at hl 0 rfl) ?_
      refine lv_iload_n hx hb dX4_isSure_27 rfl (lv_at hl 1 rfl) ?_
      refine lv_iload_n hx hb dX4_isSure_28 rfl (lv_at hl 2 rfl) ?_
      refine W.eq (g2 := F0 m 29 ls [.int (bhN q2), .int (bhN q1), .ref aS]) (by rw [bhN_lt (show q1 < 18 by omega), bhN_lt (show q2 < 18 by omega)]) ?_
      have hPc := hP.sub (ws' := [(aS, .inr (4, [.ref aR, .ref aSj, .ref aSl, .ref aSs, .ref aSo, .int (nI sn), .int (nI st), .int (nI sb), .int (nI sx)])), (aSl, .inl (cI, 9216, .inl (nF sl))), (aSj, .inl (cI, 324, .inl (nF sj))), (aR, .inr (2, [.ref aRb, .ref aRr, .ref aRa])), (aRb, .inl (cI, 9, .inl (nF rb))), (aRr, .inl (cI, 9, .inl (nF rr))), (aRa, .inl (cI, 9, .inl (nF ra)))]) [0, 1, 2, 4, 5, 6, 7] rfl
      have hDc := hD.sub (ws' := [(aS, .inr (4, [.ref aR, .ref aSj, .ref aSl, .ref aSs, .ref aSo, .int (nI sn), .int (nI st), .int (nI sb), .int (nI sx)])), (aSl, .inl (cI, 9216, .inl (nF sl))), (aSj, .inl (cI, 324, .inl (nF sj))), (aR, .inr (2, [.ref aRb, .ref aRr, .ref aRa])), (aRb, .inl (cI, 9, .inl (nF rb))), (aRr, .inl (cI, 9, .inl (nF rr))), (aRa, .inl (cI, 9, .inl (nF ra)))]) [0, 1, 2, 4, 5, 6, 7] (by decide) rfl
      have hFc := va_free (wc := [(aS, .inr (4, [.ref aR, .ref aSj, .ref aSl, .ref aSs, .ref aSo, .int (nI sn), .int (nI st), .int (nI sb), .int (nI sx)])), (aSl, .inl (cI, 9216, .inl (nF sl))), (aSj, .inl (cI, 324, .inl (nF sj))), (aR, .inr (2, [.ref aRb, .ref aRr, .ref aRa])), (aRb, .inl (cI, 9, .inl (nF rb))), (aRr, .inl (cI, 9, .inl (nF rr))), (aRa, .inl (cI, 9, .inl (nF ra)))]) hD hS hA [0, 1, 2, 4, 5, 6, 7] rfl
      refine va_callv (va_runV (As := [.int (bhN q1), .int (bhN q2)]) (rest := []) ⟨hx, hb, hml, hown, hts⟩ (k_X4_fill l dC dI cI cZ aS aR aSj aSl aSs aSo aRb aRr aRa sn st sb sx sl sj rb rr ra q1 q2 s.heap.size bSl bSj bRb bRr bRa (by omega) (by omega) (by omega)) (cwV 2 hts gX4_isSure_X4_fill rfl rfl rfl (by decide +kernel) ⟨Nat.le_of_ble_eq_true rfl, Nat.le_of_ble_eq_true rfl⟩) (ln_preVM (q0 := 0) (ci := 4) hPc hKK hDc rfl rfl) rfl rfl hl.1 rfl (lv_room (Nat.le_of_ble_eq_true rfl)) dX4_isSure_29 ⟨Nat.le_of_ble_eq_true rfl, Nat.le_of_ble_eq_true rfl⟩) hS (fun q _ h => hFc q h) hFc (fun u t H1 locs ht hvm w_6 hB hz1 hk1 hS => ?_)
      obtain ⟨slz_7, rfl⟩ : ∃ z, z = u := ⟨_, rfl⟩
      obtain ⟨hP1, hD1⟩ := hB
      rw [ht] at hP1
      try dsimp only at w_6
      obtain ⟨hP, hD⟩ := va_join (wr := [(aSo, .inl (cI, 9, .inl (nF so)))]) (w1 := [(aS, .inr (4, [.ref aR, .ref aSj, .ref aSl, .ref aSs, .ref aSo, .int (nI sn), .int (nI st), .int (nI sb), .int (nI sx)])), (aSl, .inl (cI, 9216, .inl (nF slz_7))), (aSj, .inl (cI, 324, .inl (nF sj))), (aR, .inr (2, [.ref aRb, .ref aRr, .ref aRa])), (aRb, .inl (cI, 9, .inl (nF rb))), (aRr, .inl (cI, 9, .inl (nF rr))), (aRa, .inl (cI, 9, .inl (nF ra)))]) hP hD [0, 1, 2, 4, 5, 6, 7] [3] rfl rfl (by decide) (by decide) hk1 hFc hP1 hD1
      generalize H1 = H at hP hS ⊢
      have hP := hP.sub (ws' := [(aS, .inr (4, [.ref aR, .ref aSj, .ref aSl, .ref aSs, .ref aSo, .int (nI sn), .int (nI st), .int (nI sb), .int (nI sx)])), (aSl, .inl (cI, 9216, .inl (nF slz_7))), (aSj, .inl (cI, 324, .inl (nF sj))), (aSo, .inl (cI, 9, .inl (nF so))), (aR, .inr (2, [.ref aRb, .ref aRr, .ref aRa])), (aRb, .inl (cI, 9, .inl (nF rb))), (aRr, .inl (cI, 9, .inl (nF rr))), (aRa, .inl (cI, 9, .inl (nF ra)))]) [1, 2, 3, 0, 4, 5, 6, 7] rfl
      have hD := hD.sub (ws' := [(aS, .inr (4, [.ref aR, .ref aSj, .ref aSl, .ref aSs, .ref aSo, .int (nI sn), .int (nI st), .int (nI sb), .int (nI sx)])), (aSl, .inl (cI, 9216, .inl (nF slz_7))), (aSj, .inl (cI, 324, .inl (nF sj))), (aSo, .inl (cI, 9, .inl (nF so))), (aR, .inr (2, [.ref aRb, .ref aRr, .ref aRa])), (aRb, .inl (cI, 9, .inl (nF rb))), (aRr, .inl (cI, 9, .inl (nF rr))), (aRa, .inl (cI, 9, .inl (nF ra)))]) [1, 2, 3, 0, 4, 5, 6, 7] (by decide) rfl
      obtain ⟨hfl, b_8⟩ := w_6
      have hp9 := ln_p9 hn
      have hp1 := ln_one_two_pow sn
      refine lv_aload_n hx hb dX4_isSure_32 rfl (lv_at hl 0 rfl) ?_
      refine lv_aload_n hx hb dX4_isSure_33 rfl (lv_at hl 0 rfl) ?_
      have hPc := hP.sub (ws' := [(aS, .inr (4, [.ref aR, .ref aSj, .ref aSl, .ref aSs, .ref aSo, .int (nI sn), .int (nI st), .int (nI sb), .int (nI sx)]))]) [0] rfl
      refine vp_callSi (W.runV (As := []) (rest := [.ref aS]) ⟨hx, hb, hml, hown, hts⟩ (k_X4_all l dC dI cI cZ aS aR aSj aSl aSs aSo sn st sb sx (by omega)) (cwV 0 hts gX4_isSure_X4_all rfl rfl rfl (by decide +kernel) ⟨Nat.le_of_ble_eq_true rfl, Nat.le_of_ble_eq_true rfl⟩) (ln_preV (q0 := 0) (ci := 4) hPc hKK rfl rfl) rfl rfl hl.1 rfl (lv_room (Nat.le_of_ble_eq_true rfl)) dX4_isSure_34 ⟨Nat.le_of_ble_eq_true rfl, Nat.le_of_ble_eq_true rfl⟩) (fun r_9 w_10 => ?_)
      subst w_10
      have hPc := hP.sub (ws' := [(aS, .inr (4, [.ref aR, .ref aSj, .ref aSl, .ref aSs, .ref aSo, .int (nI sn), .int (nI st), .int (nI sb), .int (nI sx)])), (aSl, .inl (cI, 9216, .inl (nF slz_7)))]) [0, 1] rfl
      refine vp_callSi (W.runV (As := [.int (nI (2 ^ sn - 1))]) (rest := []) ⟨hx, hb, hml, hown, hts⟩ (k_X4_leastOf l dC dI cI cZ aS aR aSj aSl aSs aSo sn st sb sx slz_7 (2 ^ sn - 1) b_8 (by omega) (by omega)) (cwV 1 hts gX4_isSure_X4_leastOf rfl rfl rfl (by decide +kernel) ⟨Nat.le_of_ble_eq_true rfl, Nat.le_of_ble_eq_true rfl⟩) (ln_preV (q0 := 0) (ci := 4) hPc hKK rfl rfl) rfl rfl hl.1 rfl (lv_room (Nat.le_of_ble_eq_true rfl)) dX4_isSure_37 ⟨Nat.le_of_ble_eq_true rfl, Nat.le_of_ble_eq_true rfl⟩) (fun r_11 w_12 => ?_)
      subst w_12
      refine lv_aload_n hx hb dX4_isSure_40 rfl (lv_at hl 0 rfl) ?_
      refine va_get (D := (dC, dI)) (ci := 4) (v := .int (nI sb)) (C := RX4) (T := TX4) (N := 9) hx hb hts mX4_isSure_inX4 hown hK hP 0 rfl rfl 7 (by decide) (hts (.fieldLink RX4 64 "LeafOrder$Search" "bestCost" "I") mX4_isSure_2) (fun _ h9 => h9) rfl dX4_isSure_41 ?_
      refine lv_iload_n hx hb dX4_isSure_44 rfl (lv_at hl 3 rfl) ?_
      refine ln_iadd hx hb dX4_isSure_45 ?_
      refine ln_icmp_le (tgt := 53) hx hb dX4_isSure_46 (by decide) (Nat.lt_of_le_of_lt (m_of_le _ _ _) (by decide)) (by omega) (fun c_13 => ?_) (fun c_13 => ?_)
      · refine lv_iconst (v := nI 0) hx hb dX4_isSure_53 (by decide) ?_
        exact W.zret (v := (nI 0)) hx hb hr (by decide) (fun t ht hW => ⟨⟨(nI 0), slz_7, rfl, ⟨Or.inr ⟨rfl, (fun q => q.2.elim (fun z => absurd z (Nat.not_lt.mpr c_4)) (fun z => by rw [← hfl] at z; exact absurd z (Nat.not_lt.mpr c_13)))⟩, b_8⟩, by rw [ht]; exact hP, hD⟩, hS.F ht⟩) hS.2.2 dX4_isSure_54
      · refine lv_iconst (v := nI 1) hx hb dX4_isSure_49 (by decide) ?_
        refine lv_goto (tgt := 54) hx hb dX4_isSure_50 (by decide) ?_
        exact W.zret (v := (nI 1)) hx hb hr (by decide) (fun t ht hW => ⟨⟨(nI 1), slz_7, rfl, ⟨Or.inl ⟨rfl, c_3, Or.inr (by rw [← hfl]; exact c_13)⟩, b_8⟩, by rw [ht]; exact hP, hD⟩, hS.F ht⟩) hS.2.2 dX4_isSure_54
    · refine lv_iconst (v := nI 1) hx hb dX4_isSure_24 (by decide) ?_
      exact W.zret (v := (nI 1)) hx hb hr (by decide) (fun t ht hW => ⟨⟨(nI 1), sl, rfl, ⟨Or.inl ⟨rfl, c_3, Or.inl c_4⟩, bSl⟩, by rw [ht]; exact hP, hD⟩, hS.F ht⟩) hS.2.2 dX4_isSure_25
  · refine ln_if_neF (tgt := 11) hx hb dX4_isSure_6 (by decide) (by decide) ?_
    refine lv_iconst (v := nI 0) hx hb dX4_isSure_9 (by decide) ?_
    exact W.zret (v := (nI 0)) hx hb hr (by decide) (fun t ht hW => ⟨⟨(nI 0), sl, rfl, ⟨Or.inr ⟨rfl, (fun q => c_3 q.1)⟩, bSl⟩, by rw [ht]; exact hP, hD⟩, hS.F ht⟩) hS.2.2 dX4_isSure_10
theorem mX0_costOf_0 : Cond.fieldLink RX0 9 "LeafOrder$Books" "search" "LLeafOrder$Search;" ∈ wsX0_costOf := by decide +kernel
theorem mX0_costOf_inX0 : ∀ w ∈ wsX00, w ∈ wsX0_costOf := by decide +kernel
theorem mX0_costOf_2 : Cond.fieldLink RX0 39 "LeafOrder$Search" "setCosts" "[I" ∈ wsX0_costOf := by decide +kernel
theorem mX0_costOf_inX4 : ∀ w ∈ wsX40, w ∈ wsX0_costOf := by decide +kernel
set_option maxHeartbeats 4000000 in
set_option maxRecDepth 100000 in
theorem k_X0_costOf (l : Launch) (dC : Nat → ClassId) (dI : Nat → Nat → Nat) (cI cZ : ClassId) (aB aS aR aSj aSl aSs aSo : Nat) (bc : Nat) (bo : Nat) (sn : Nat) (st : Nat) (sb : Nat) (sx : Nat) (ss : Nat → Nat) (q1 : Nat) (bSs : ∀ k, ss k ≤ 1000000) (hn : sn ≤ 9) (h1 : q1 < 512) : Met l yX0_costOf wsX0_costOf { frames := 1, cells := 0, slots := 0, locals := 20 } (va_Pc [.ref aB, .int (nI q1)] (fun U => va_P (dC, dI) vwCl [(aB, .inr (0, [.ref aS, .int (nI bc), .int (nI bo)])), (aS, .inr (4, [.ref aR, .ref aSj, .ref aSl, .ref aSs, .ref aSo, .int (nI sn), .int (nI st), .int (nI sb), .int (nI sx)])), (aSs, .inl (cI, 512, .inl (nF ss)))] U.heap ∧ lK dC dI cI cZ U)) (vp_Si (fun r => r = (nI (m_two ss sn q1)))) 0 0 (fun _ => False) := by
  refine Met.ofW (cc := cX0_costOf) (maxL := 2) (ret := (some .int)) (by decide) rfl ?_
  intro p e s m args below meth c s₁ B hml hv
  obtain ⟨rfl, hP, hKK⟩ := hv
  have hK := hKK.1
  have hx := B.exec
  have hb := B.bytes
  have hr := B.returns
  have hts := atoms_spec (ws := wsX0_costOf) B.pre
  have hown : s.vm.findClass RX0 = some m.cls := findClass_of_methodNamed B.named
  have hlocks := B.notSynchronized
  have hl := lv_entry ([.ref aB, .int (nI q1)]) (n := 2) (Nat.le_of_ble_eq_true rfl)
  rw [lg_entry_eq]
  generalize (lg_sl ([.ref aB, .int (nI q1)]) ++ List.replicate (2 - (lg_sl ([.ref aB, .int (nI q1)])).length) Slot.unset).toArray = ls at hl ⊢
  have hl : lv_has ls 2 [(0, .ref aB), (1, .int (nI q1))] := hl
  refine lv_aload_n hx hb dX0_costOf_0 rfl (lv_at hl 0 rfl) ?_
  refine va_get (D := (dC, dI)) (ci := 0) (v := .ref aS) (C := RX0) (T := TX0) (N := 3) hx hb hts mX0_costOf_inX0 hown hK hP 0 rfl rfl 0 (by decide) (hts (.fieldLink RX0 9 "LeafOrder$Books" "search" "LLeafOrder$Search;") mX0_costOf_0) (fun _ h9 => h9) rfl dX0_costOf_1 ?_
  refine va_get (D := (dC, dI)) (ci := 4) (v := .ref aSs) (C := RX4) (T := TX4) (N := 9) hx hb hts mX0_costOf_inX4 hown hK hP 1 rfl rfl 3 (by decide) (hts (.fieldLink RX0 39 "LeafOrder$Search" "setCosts" "[I") mX0_costOf_2) (fun _ h9 => h9) rfl dX0_costOf_4 ?_
  refine lv_iload_n hx hb dX0_costOf_7 rfl (lv_at hl 1 rfl) ?_
  refine ln_iald (i := q1) hx hb hK hP 2 0 rfl rfl (by omega) (by decide) dX0_costOf_8 ?_
  have b_1 := bSs q1
  refine lv_aload_n hx hb dX0_costOf_9 rfl (lv_at hl 0 rfl) ?_
  refine va_get (D := (dC, dI)) (ci := 0) (v := .ref aS) (C := RX0) (T := TX0) (N := 3) hx hb hts mX0_costOf_inX0 hown hK hP 0 rfl rfl 0 (by decide) (hts (.fieldLink RX0 9 "LeafOrder$Books" "search" "LLeafOrder$Search;") mX0_costOf_0) (fun _ h9 => h9) rfl dX0_costOf_10 ?_
  refine va_get (D := (dC, dI)) (ci := 4) (v := .ref aSs) (C := RX4) (T := TX4) (N := 9) hx hb hts mX0_costOf_inX4 hown hK hP 1 rfl rfl 3 (by decide) (hts (.fieldLink RX0 39 "LeafOrder$Search" "setCosts" "[I") mX0_costOf_2) (fun _ h9 => h9) rfl dX0_costOf_13 ?_
  refine lv_aload_n hx hb dX0_costOf_16 rfl (lv_at hl 0 rfl) ?_
  refine va_get (D := (dC, dI)) (ci := 0) (v := .ref aS) (C := RX0) (T := TX0) (N := 3) hx hb hts mX0_costOf_inX0 hown hK hP 0 rfl rfl 0 (by decide) (hts (.fieldLink RX0 9 "LeafOrder$Books" "search" "LLeafOrder$Search;") mX0_costOf_0) (fun _ h9 => h9) rfl dX0_costOf_17 ?_
  have hPc := hP.sub (ws' := [(aS, .inr (4, [.ref aR, .ref aSj, .ref aSl, .ref aSs, .ref aSo, .int (nI sn), .int (nI st), .int (nI sb), .int (nI sx)]))]) [1] rfl
  refine vp_callSi (W.runV (As := []) (rest := [.ref aSs, .int (nI (ss q1))]) ⟨hx, hb, hml, hown, hts⟩ (k_X4_all l dC dI cI cZ aS aR aSj aSl aSs aSo sn st sb sx (by omega)) (cwV 0 hts gX0_costOf_X4_all rfl rfl rfl (by decide +kernel) ⟨Nat.le_of_ble_eq_true rfl, Nat.le_of_ble_eq_true rfl⟩) (ln_preV (q0 := 0) (ci := 4) hPc hKK rfl rfl) rfl rfl hl.1 rfl (lv_room (Nat.le_of_ble_eq_true rfl)) dX0_costOf_20 ⟨Nat.le_of_ble_eq_true rfl, Nat.le_of_ble_eq_true rfl⟩) (fun r_2 w_3 => ?_)
  subst w_3
  refine lv_iload_n hx hb dX0_costOf_23 rfl (lv_at hl 1 rfl) ?_
  refine lv_iconst (v := (-1)) hx hb dX0_costOf_24 (by decide) ?_
  refine lv_ixor hx hb dX0_costOf_25 ?_
  refine ln_iclr hx hb dX0_costOf_26 ?_
  refine ln_iald (i := nclr (2 ^ sn - 1) q1) hx hb hK hP 2 0 rfl rfl (by have := nclr_le (2 ^ sn - 1) q1; have := ln_p9 hn; omega) (by decide) dX0_costOf_27 ?_
  have b_4 := bSs (nclr (2 ^ sn - 1) q1)
  refine ln_iadd hx hb dX0_costOf_28 ?_
  exact W.iret (v := (nI ((ss q1) + (ss (nclr (2 ^ sn - 1) q1))))) hx hb hr (fun t ht hW => ⟨(nI ((ss q1) + (ss (nclr (2 ^ sn - 1) q1)))), rfl, rfl, ht⟩) (fun _ h => by cases h) dX0_costOf_29
theorem mX0_part_0 : Cond.constant RX0 15 (1000000) ∈ wsX0_part := by decide +kernel
theorem mX0_part_1 : Cond.fieldLink RX0 16 "LeafOrder$Books" "cost" "I" ∈ wsX0_part := by decide +kernel
theorem mX0_part_inX0 : ∀ w ∈ wsX00, w ∈ wsX0_part := by decide +kernel
theorem mX0_part_3 : Cond.fieldLink RX0 20 "LeafOrder$Books" "other" "I" ∈ wsX0_part := by decide +kernel
theorem mX0_part_4 : Cond.fieldLink RX0 9 "LeafOrder$Books" "search" "LLeafOrder$Search;" ∈ wsX0_part := by decide +kernel
set_option maxHeartbeats 4000000 in
set_option maxRecDepth 100000 in
theorem k_X0_part (l : Launch) (dC : Nat → ClassId) (dI : Nat → Nat → Nat) (cI cZ : ClassId) (aB aS aR aSj aSl aSs aSo : Nat) (bc : Nat) (bo : Nat) (sn : Nat) (st : Nat) (sb : Nat) (sx : Nat) (ss : Nat → Nat) (sz : Nat) (bSs : ∀ k, ss k ≤ 1000000) (hn : sn ≤ 9) : Met l yX0_part wsX0_part { frames := 2, cells := 0, slots := 0, locals := 41 } (va_Pc [.ref aB] (fun U => U.heap.size = sz ∧ va_P (dC, dI) vwCl [(aB, .inr (0, [.ref aS, .int (nI bc), .int (nI bo)])), (aS, .inr (4, [.ref aR, .ref aSj, .ref aSl, .ref aSs, .ref aSo, .int (nI sn), .int (nI st), .int (nI sb), .int (nI sx)])), (aSs, .inl (cI, 512, .inl (nF ss)))] U.heap ∧ lK dC dI cI cZ U ∧ va_D (fun _ => True) [(aB, .inr (0, [.ref aS, .int (nI bc), .int (nI bo)])), (aS, .inr (4, [.ref aR, .ref aSj, .ref aSl, .ref aSs, .ref aSo, .int (nI sn), .int (nI st), .int (nI sb), .int (nI sx)])), (aSs, .inl (cI, 512, .inl (nF ss)))])) (va_Qv (fun (u : (Nat) × (Nat)) => match u with | (bcz, boz) => (bcz, boz) = m_part ss sn ((2 ^ sn - 1) / 2) ∧ bcz ≤ 1000000 ∧ boz < 512) (fun (u : (Nat) × (Nat)) (t : State) => match u with | (bcz, boz) => va_P (dC, dI) vwCl [(aB, .inr (0, [.ref aS, .int (nI bcz), .int (nI boz)])), (aS, .inr (4, [.ref aR, .ref aSj, .ref aSl, .ref aSs, .ref aSo, .int (nI sn), .int (nI st), .int (nI sb), .int (nI sx)])), (aSs, .inl (cI, 512, .inl (nF ss)))] t.heap ∧ va_D (va_A [(aB, .inr (0, [.ref aS, .int (nI bc), .int (nI bo)])), (aS, .inr (4, [.ref aR, .ref aSj, .ref aSl, .ref aSs, .ref aSo, .int (nI sn), .int (nI st), .int (nI sb), .int (nI sx)])), (aSs, .inl (cI, 512, .inl (nF ss)))] sz) [(aB, .inr (0, [.ref aS, .int (nI bcz), .int (nI boz)])), (aS, .inr (4, [.ref aR, .ref aSj, .ref aSl, .ref aSs, .ref aSo, .int (nI sn), .int (nI st), .int (nI sb), .int (nI sx)])), (aSs, .inl (cI, 512, .inl (nF ss)))]) (va_A [(aB, .inr (0, [.ref aS, .int (nI bc), .int (nI bo)])), (aS, .inr (4, [.ref aR, .ref aSj, .ref aSl, .ref aSs, .ref aSo, .int (nI sn), .int (nI st), .int (nI sb), .int (nI sx)])), (aSs, .inl (cI, 512, .inl (nF ss)))] sz)) 0 0 (va_A [(aB, .inr (0, [.ref aS, .int (nI bc), .int (nI bo)])), (aS, .inr (4, [.ref aR, .ref aSj, .ref aSl, .ref aSs, .ref aSo, .int (nI sn), .int (nI st), .int (nI sb), .int (nI sx)])), (aSs, .inl (cI, 512, .inl (nF ss)))] sz) := by
  refine Met.ofW (cc := cX0_part) (maxL := 3) (ret := none) (by decide) rfl ?_
  intro p e s m args below meth c s₁ B hml hv
  obtain ⟨rfl, hsz, hP, hKK, hD0⟩ := hv
  have hK := hKK.1
  have hx := B.exec
  have hb := B.bytes
  have hr := B.returns
  have hts := atoms_spec (ws := wsX0_part) B.pre
  have hown : s.vm.findClass RX0 = some m.cls := findClass_of_methodNamed B.named
  have hlocks := B.notSynchronized
  subst hsz
  have hD := hD0.self (sz := s.heap.size)
  generalize hAe : va_A [(aB, .inr (0, [.ref aS, .int (nI bc), .int (nI bo)])), (aS, .inr (4, [.ref aR, .ref aSj, .ref aSl, .ref aSs, .ref aSo, .int (nI sn), .int (nI st), .int (nI sb), .int (nI sx)])), (aSs, .inl (cI, 512, .inl (nF ss)))] s.heap.size = A at hD ⊢
  have hA : ∀ q : Nat, s.heap.size ≤ q → A q := fun q h => by rw [← hAe]; exact Or.inr h
  have hS : va_S A s.heap s.heap [] := va_S.rf
  have hl := lv_entry ([.ref aB]) (n := 3) (Nat.le_of_ble_eq_true rfl)
  rw [lg_entry_eq]
  generalize (lg_sl ([.ref aB]) ++ List.replicate (3 - (lg_sl ([.ref aB])).length) Slot.unset).toArray = ls at hl ⊢
  have hl : lv_has ls 3 [(0, .ref aB)] := hl
  have hp9 := ln_p9 hn
  have hp1 := ln_one_two_pow sn
  refine lv_aload_n hx hb dX0_part_0 rfl (lv_at hl 0 rfl) ?_
  refine lv_ldc (v := nI 1000000) hx hb hown (hts (.constant RX0 15 (1000000)) mX0_part_0) dX0_part_1 ?_
  refine va_put (D := (dC, dI)) (ci := 0) (v := .int (nI 1000000)) (ty := .int) (C := RX0) (T := TX0) (N := 3) hx hb hts mX0_part_inX0 tyX0 tyX0_ok nmX0 hown hK hP hD hS 0 rfl rfl 1 (by decide) (hts (.fieldLink RX0 16 "LeafOrder$Books" "cost" "I") mX0_part_1) (fun _ h9 => h9) rfl (by decide +kernel) rfl rfl (Nat.le_of_ble_eq_true rfl) dX0_part_3 (fun H locs hP hD hS => ?_)
  have hP : va_P (dC, dI) vwCl [(aB, .inr (0, [.ref aS, .int (nI 1000000), .int (nI bo)])), (aS, .inr (4, [.ref aR, .ref aSj, .ref aSl, .ref aSs, .ref aSo, .int (nI sn), .int (nI st), .int (nI sb), .int (nI sx)])), (aSs, .inl (cI, 512, .inl (nF ss)))] H := hP
  have hD : va_D A [(aB, .inr (0, [.ref aS, .int (nI 1000000), .int (nI bo)])), (aS, .inr (4, [.ref aR, .ref aSj, .ref aSl, .ref aSs, .ref aSo, .int (nI sn), .int (nI st), .int (nI sb), .int (nI sx)])), (aSs, .inl (cI, 512, .inl (nF ss)))] := hD
  refine lv_aload_n hx hb dX0_part_6 rfl (lv_at hl 0 rfl) ?_
  refine lv_iconst (v := nI 0) hx hb dX0_part_7 (by decide) ?_
  refine va_put (D := (dC, dI)) (ci := 0) (v := .int (nI 0)) (ty := .int) (C := RX0) (T := TX0) (N := 3) hx hb hts mX0_part_inX0 tyX0 tyX0_ok nmX0 hown hK hP hD hS 0 rfl rfl 2 (by decide) (hts (.fieldLink RX0 20 "LeafOrder$Books" "other" "I") mX0_part_3) (fun _ h9 => h9) rfl (by decide +kernel) rfl rfl (Nat.le_of_ble_eq_true rfl) dX0_part_8 (fun H locs hP hD hS => ?_)
  have hP : va_P (dC, dI) vwCl [(aB, .inr (0, [.ref aS, .int (nI 1000000), .int (nI 0)])), (aS, .inr (4, [.ref aR, .ref aSj, .ref aSl, .ref aSs, .ref aSo, .int (nI sn), .int (nI st), .int (nI sb), .int (nI sx)])), (aSs, .inl (cI, 512, .inl (nF ss)))] H := hP
  have hD : va_D A [(aB, .inr (0, [.ref aS, .int (nI 1000000), .int (nI 0)])), (aS, .inr (4, [.ref aR, .ref aSj, .ref aSl, .ref aSs, .ref aSo, .int (nI sn), .int (nI st), .int (nI sb), .int (nI sx)])), (aSs, .inl (cI, 512, .inl (nF ss)))] := hD
  refine lv_iconst (v := nI 2) hx hb dX0_part_11 (by decide) ?_
  refine lv_istore_n (lv' := [(1, .int (nI 2)), (0, .ref aB)]) hx hb dX0_part_12 rfl hl (by decide) rfl (fun ls hl => ?_)
  have LP13 : ∀ (n13 : Nat) (k : Nat) (cv : Nat) (ov : Nat), (2 ^ sn - 1) / 2 - k < n13 → (k ≤ (2 ^ sn - 1) / 2) → (cv ≤ 1000000) → (ov < 512) → ((cv, ov) = m_part ss sn k) → ∀ (H : Heap) (locs : List Loc), va_P (dC, dI) vwCl [(aB, .inr (0, [.ref aS, .int (nI cv), .int (nI ov)])), (aS, .inr (4, [.ref aR, .ref aSj, .ref aSl, .ref aSs, .ref aSo, .int (nI sn), .int (nI st), .int (nI sb), .int (nI sx)])), (aSs, .inl (cI, 512, .inl (nF ss)))] H → va_D A [(aB, .inr (0, [.ref aS, .int (nI cv), .int (nI ov)])), (aS, .inr (4, [.ref aR, .ref aSj, .ref aSl, .ref aSs, .ref aSo, .int (nI sn), .int (nI st), .int (nI sb), .int (nI sx)])), (aSs, .inl (cI, 512, .inl (nF ss)))] → va_S A s.heap H locs → ∀ (ls : Array Slot), lv_has ls 3 [(0, .ref aB), (1, .int (nI (2 * (k + 1))))] → W p l e { frames := 2, cells := 0, slots := 0, locals := 41 } s m [.ref aB].toArray below meth c H locs 0 0 (MQ below (va_Qv (fun (u : (Nat) × (Nat)) => match u with | (bcz, boz) => (bcz, boz) = m_part ss sn ((2 ^ sn - 1) / 2) ∧ bcz ≤ 1000000 ∧ boz < 512) (fun (u : (Nat) × (Nat)) (t : State) => match u with | (bcz, boz) => va_P (dC, dI) vwCl [(aB, .inr (0, [.ref aS, .int (nI bcz), .int (nI boz)])), (aS, .inr (4, [.ref aR, .ref aSj, .ref aSl, .ref aSs, .ref aSo, .int (nI sn), .int (nI st), .int (nI sb), .int (nI sx)])), (aSs, .inl (cI, 512, .inl (nF ss)))] t.heap ∧ va_D A [(aB, .inr (0, [.ref aS, .int (nI bcz), .int (nI boz)])), (aS, .inr (4, [.ref aR, .ref aSj, .ref aSl, .ref aSs, .ref aSo, .int (nI sn), .int (nI st), .int (nI sb), .int (nI sx)])), (aSs, .inl (cI, 512, .inl (nF ss)))]) A) [.ref aB].toArray s 0 0 A) (F0 m 13 ls []) := by
    intro n13
    induction n13 with
    | zero =>
      intro k cv ov hm
      exact absurd hm (Nat.not_lt_zero _)
    | succ n13 ih13 =>
      intro k cv ov hm13  hk hc1 ho1 hpq H locs hP hD hS ls hl
      refine lv_iload_n hx hb dX0_part_13 rfl (lv_at hl 1 rfl) ?_
      refine lv_aload_n hx hb dX0_part_14 rfl (lv_at hl 0 rfl) ?_
      refine va_get (D := (dC, dI)) (ci := 0) (v := .ref aS) (C := RX0) (T := TX0) (N := 3) hx hb hts mX0_part_inX0 hown hK hP 0 rfl rfl 0 (by decide) (hts (.fieldLink RX0 9 "LeafOrder$Books" "search" "LLeafOrder$Search;") mX0_part_4) (fun _ h9 => h9) rfl dX0_part_15 ?_
      have hPc := hP.sub (ws' := [(aS, .inr (4, [.ref aR, .ref aSj, .ref aSl, .ref aSs, .ref aSo, .int (nI sn), .int (nI st), .int (nI sb), .int (nI sx)]))]) [1] rfl
      refine vp_callSi (W.runV (As := []) (rest := [.int (nI (2 * (k + 1)))]) ⟨hx, hb, hml, hown, hts⟩ (k_X4_all l dC dI cI cZ aS aR aSj aSl aSs aSo sn st sb sx (by omega)) (cwV 0 hts gX0_part_X4_all rfl rfl rfl (by decide +kernel) ⟨Nat.le_of_ble_eq_true rfl, Nat.le_of_ble_eq_true rfl⟩) (ln_preV (q0 := 0) (ci := 4) hPc hKK rfl rfl) rfl rfl hl.1 rfl (lv_room (Nat.le_of_ble_eq_true rfl)) dX0_part_18 ⟨Nat.le_of_ble_eq_true rfl, Nat.le_of_ble_eq_true rfl⟩) (fun r_1 w_2 => ?_)
      subst w_2
      refine ln_icmp_gt (tgt := 54) hx hb dX0_part_21 (by decide) (by have := ln_p9 hn; omega) (by have := ln_p9 hn; omega) (fun c_3 => ?_) (fun c_3 => ?_)
      · exact W.vret hx hb hr (fun t ht hW => ⟨⟨(cv, ov), rfl, ⟨(by rw [hpq, show (2 ^ sn - 1) / 2 = k by omega]), hc1, ho1⟩, by rw [ht]; exact hP, hD⟩, hS.F ht⟩) hS.2.2 dX0_part_54
      · refine lv_aload_n hx hb dX0_part_24 rfl (lv_at hl 0 rfl) ?_
        refine lv_iload_n hx hb dX0_part_25 rfl (lv_at hl 1 rfl) ?_
        have hPc := hP.sub (ws' := [(aB, .inr (0, [.ref aS, .int (nI cv), .int (nI ov)])), (aS, .inr (4, [.ref aR, .ref aSj, .ref aSl, .ref aSs, .ref aSo, .int (nI sn), .int (nI st), .int (nI sb), .int (nI sx)])), (aSs, .inl (cI, 512, .inl (nF ss)))]) [0, 1, 2] rfl
        refine vp_callSi (W.runV (As := [.int (nI (2 * (k + 1)))]) (rest := []) ⟨hx, hb, hml, hown, hts⟩ (k_X0_costOf l dC dI cI cZ aB aS aR aSj aSl aSs aSo cv ov sn st sb sx ss (2 * (k + 1)) bSs (by omega) (by omega)) (cwV 1 hts gX0_part_X0_costOf rfl rfl rfl (by decide +kernel) ⟨Nat.le_of_ble_eq_true rfl, Nat.le_of_ble_eq_true rfl⟩) (ln_preV (q0 := 0) (ci := 0) hPc hKK rfl rfl) rfl rfl hl.1 rfl (lv_room (Nat.le_of_ble_eq_true rfl)) dX0_part_26 ⟨Nat.le_of_ble_eq_true rfl, Nat.le_of_ble_eq_true rfl⟩) (fun r_4 w_5 => ?_)
        subst w_5
        have hm2 := m_two_le bSs sn (2 * (k + 1))
        refine lv_istore_n (lv' := [(2, .int (nI (m_two ss sn (2 * (k + 1))))), (0, .ref aB), (1, .int (nI (2 * (k + 1))))]) hx hb dX0_part_29 rfl hl (by decide) rfl (fun ls hl => ?_)
        refine lv_iload_n hx hb dX0_part_30 rfl (lv_at hl 0 rfl) ?_
        refine lv_aload_n hx hb dX0_part_31 rfl (lv_at hl 1 rfl) ?_
        refine va_get (D := (dC, dI)) (ci := 0) (v := .int (nI cv)) (C := RX0) (T := TX0) (N := 3) hx hb hts mX0_part_inX0 hown hK hP 0 rfl rfl 1 (by decide) (hts (.fieldLink RX0 16 "LeafOrder$Books" "cost" "I") mX0_part_1) (fun _ h9 => h9) rfl dX0_part_32 ?_
        refine ln_icmp_ge (tgt := 48) hx hb dX0_part_35 (by decide) (by omega) (by omega) (fun c_6 => ?_) (fun c_6 => ?_)
        · refine lv_iinc (v := (nI (2 * (k + 1) + 2))) (lv' := [(1, .int (nI (2 * (k + 1) + 2))), (2, .int (nI (m_two ss sn (2 * (k + 1))))), (0, .ref aB)]) hx hb dX0_part_48 hl (k := 2) rfl (by show nI _ + nI 2 = _; rw [nI_add]) (by decide) rfl (fun ls hl => ?_)
          refine lv_goto (tgt := 13) hx hb dX0_part_51 (by decide) ?_
          have hl : lv_has ls 3 [(1, .int (nI (2 * (k + 1 + 1)))), (2, .int (nI (m_two ss sn (2 * (k + 1))))), (0, .ref aB)] := hl
          exact ih13 (k + 1) cv ov (by omega)  (by omega) (by omega) (by have := ln_p9 hn; omega) (by rw [m_part, if_neg (by rw [← hpq]; exact Nat.not_lt.mpr c_6)]; exact hpq) _ _ hP hD hS ls (lv_sub hl [2, 0] rfl)
        · refine lv_aload_n hx hb dX0_part_38 rfl (lv_at hl 1 rfl) ?_
          refine lv_iload_n hx hb dX0_part_39 rfl (lv_at hl 0 rfl) ?_
          refine va_put (D := (dC, dI)) (ci := 0) (v := .int (nI (m_two ss sn (2 * (k + 1))))) (ty := .int) (C := RX0) (T := TX0) (N := 3) hx hb hts mX0_part_inX0 tyX0 tyX0_ok nmX0 hown hK hP hD hS 0 rfl rfl 1 (by decide) (hts (.fieldLink RX0 16 "LeafOrder$Books" "cost" "I") mX0_part_1) (fun _ h9 => h9) rfl (by decide +kernel) rfl rfl (Nat.le_of_ble_eq_true rfl) dX0_part_40 (fun H locs hP hD hS => ?_)
          have hP : va_P (dC, dI) vwCl [(aB, .inr (0, [.ref aS, .int (nI (m_two ss sn (2 * (k + 1)))), .int (nI ov)])), (aS, .inr (4, [.ref aR, .ref aSj, .ref aSl, .ref aSs, .ref aSo, .int (nI sn), .int (nI st), .int (nI sb), .int (nI sx)])), (aSs, .inl (cI, 512, .inl (nF ss)))] H := hP
          have hD : va_D A [(aB, .inr (0, [.ref aS, .int (nI (m_two ss sn (2 * (k + 1)))), .int (nI ov)])), (aS, .inr (4, [.ref aR, .ref aSj, .ref aSl, .ref aSs, .ref aSo, .int (nI sn), .int (nI st), .int (nI sb), .int (nI sx)])), (aSs, .inl (cI, 512, .inl (nF ss)))] := hD
          refine lv_aload_n hx hb dX0_part_43 rfl (lv_at hl 1 rfl) ?_
          refine lv_iload_n hx hb dX0_part_44 rfl (lv_at hl 2 rfl) ?_
          refine va_put (D := (dC, dI)) (ci := 0) (v := .int (nI (2 * (k + 1)))) (ty := .int) (C := RX0) (T := TX0) (N := 3) hx hb hts mX0_part_inX0 tyX0 tyX0_ok nmX0 hown hK hP hD hS 0 rfl rfl 2 (by decide) (hts (.fieldLink RX0 20 "LeafOrder$Books" "other" "I") mX0_part_3) (fun _ h9 => h9) rfl (by decide +kernel) rfl rfl (Nat.le_of_ble_eq_true rfl) dX0_part_45 (fun H locs hP hD hS => ?_)
          have hP : va_P (dC, dI) vwCl [(aB, .inr (0, [.ref aS, .int (nI (m_two ss sn (2 * (k + 1)))), .int (nI (2 * (k + 1)))])), (aS, .inr (4, [.ref aR, .ref aSj, .ref aSl, .ref aSs, .ref aSo, .int (nI sn), .int (nI st), .int (nI sb), .int (nI sx)])), (aSs, .inl (cI, 512, .inl (nF ss)))] H := hP
          have hD : va_D A [(aB, .inr (0, [.ref aS, .int (nI (m_two ss sn (2 * (k + 1)))), .int (nI (2 * (k + 1)))])), (aS, .inr (4, [.ref aR, .ref aSj, .ref aSl, .ref aSs, .ref aSo, .int (nI sn), .int (nI st), .int (nI sb), .int (nI sx)])), (aSs, .inl (cI, 512, .inl (nF ss)))] := hD
          refine lv_iinc (v := (nI (2 * (k + 1) + 2))) (lv' := [(1, .int (nI (2 * (k + 1) + 2))), (2, .int (nI (m_two ss sn (2 * (k + 1))))), (0, .ref aB)]) hx hb dX0_part_48 hl (k := 2) rfl (by show nI _ + nI 2 = _; rw [nI_add]) (by decide) rfl (fun ls hl => ?_)
          refine lv_goto (tgt := 13) hx hb dX0_part_51 (by decide) ?_
          have hl : lv_has ls 3 [(1, .int (nI (2 * (k + 1 + 1)))), (2, .int (nI (m_two ss sn (2 * (k + 1))))), (0, .ref aB)] := hl
          exact ih13 (k + 1) (m_two ss sn (2 * (k + 1))) (2 * (k + 1)) (by omega)  (by omega) (by omega) (by have := ln_p9 hn; omega) (by rw [m_part, if_pos (by rw [← hpq]; exact c_6)]) _ _ hP hD hS ls (lv_sub hl [2, 0] rfl)
  exact LP13 _ 0 1000000 0 (Nat.lt_succ_self _)  (Nat.zero_le _) (by decide) (by decide) rfl _ _ hP hD hS ls (lv_sub hl [1, 0] rfl)
theorem mX0_leastWithMoved_0 : Cond.constant RX0 15 (1000000) ∈ wsX0_leastWithMoved := by decide +kernel
theorem mX0_leastWithMoved_1 : Cond.fieldLink RX0 9 "LeafOrder$Books" "search" "LLeafOrder$Search;" ∈ wsX0_leastWithMoved := by decide +kernel
theorem mX0_leastWithMoved_inX0 : ∀ w ∈ wsX00, w ∈ wsX0_leastWithMoved := by decide +kernel
theorem mX0_leastWithMoved_3 : Cond.fieldLink RX0 20 "LeafOrder$Books" "other" "I" ∈ wsX0_leastWithMoved := by decide +kernel
theorem mX0_leastWithMoved_4 : Cond.methodLink RX0 33 Lib.Math.min.name ∈ wsX0_leastWithMoved := by decide +kernel
theorem mX0_leastWithMoved_5 : Cond.static Lib.Math.min.name ∈ wsX0_leastWithMoved := by decide +kernel
theorem mX0_leastWithMoved_6 : Cond.initialized "java/lang/Math" ∈ wsX0_leastWithMoved := by decide +kernel
theorem mX0_leastWithMoved_7 : Cond.code Lib.Math.min.name Lib.Math.min.code 2 (some .int) ∈ wsX0_leastWithMoved := by decide +kernel
set_option maxHeartbeats 4000000 in
set_option maxRecDepth 100000 in
theorem k_X0_leastWithMoved (l : Launch) (dC : Nat → ClassId) (dI : Nat → Nat → Nat) (cI cZ : ClassId) (aB aS aR aSj aSl aSs aSo : Nat) (bc : Nat) (bo : Nat) (sn : Nat) (st : Nat) (sb : Nat) (sx : Nat) (ss : Nat → Nat) (q1 : Nat) (bSs : ∀ k, ss k ≤ 1000000) (hn : sn ≤ 9) (h1 : q1 < 9) (hbo : bo < 512) : Met l yX0_leastWithMoved wsX0_leastWithMoved { frames := 2, cells := 0, slots := 0, locals := 41 } (va_Pc [.ref aB, .int (nI q1)] (fun U => va_P (dC, dI) vwCl [(aB, .inr (0, [.ref aS, .int (nI bc), .int (nI bo)])), (aS, .inr (4, [.ref aR, .ref aSj, .ref aSl, .ref aSs, .ref aSo, .int (nI sn), .int (nI st), .int (nI sb), .int (nI sx)])), (aSs, .inl (cI, 512, .inl (nF ss)))] U.heap ∧ lK dC dI cI cZ U)) (vp_Si (fun r => r = (nI (m_moved ss sn bo q1 ((2 ^ sn - 1) / 2))))) 0 0 (fun _ => False) := by
  refine Met.ofW (cc := cX0_leastWithMoved) (maxL := 4) (ret := (some .int)) (by decide) rfl ?_
  intro p e s m args below meth c s₁ B hml hv
  obtain ⟨rfl, hP, hKK⟩ := hv
  have hK := hKK.1
  have hx := B.exec
  have hb := B.bytes
  have hr := B.returns
  have hts := atoms_spec (ws := wsX0_leastWithMoved) B.pre
  have hown : s.vm.findClass RX0 = some m.cls := findClass_of_methodNamed B.named
  have hlocks := B.notSynchronized
  have hl := lv_entry ([.ref aB, .int (nI q1)]) (n := 4) (Nat.le_of_ble_eq_true rfl)
  rw [lg_entry_eq]
  generalize (lg_sl ([.ref aB, .int (nI q1)]) ++ List.replicate (4 - (lg_sl ([.ref aB, .int (nI q1)])).length) Slot.unset).toArray = ls at hl ⊢
  have hl : lv_has ls 4 [(0, .ref aB), (1, .int (nI q1))] := hl
  refine lv_ldc (v := nI 1000000) hx hb hown (hts (.constant RX0 15 (1000000)) mX0_leastWithMoved_0) dX0_leastWithMoved_0 ?_
  refine lv_istore_n (lv' := [(2, .int (nI 1000000)), (0, .ref aB), (1, .int (nI q1))]) hx hb dX0_leastWithMoved_2 rfl hl (by decide) rfl (fun ls hl => ?_)
  refine lv_iconst (v := nI 2) hx hb dX0_leastWithMoved_3 (by decide) ?_
  refine lv_istore_n (lv' := [(3, .int (nI 2)), (2, .int (nI 1000000)), (0, .ref aB), (1, .int (nI q1))]) hx hb dX0_leastWithMoved_4 rfl hl (by decide) rfl (fun ls hl => ?_)
  have LP5 : ∀ (n5 : Nat) (k : Nat) (acc : Nat), (2 ^ sn - 1) / 2 - k < n5 → (k ≤ (2 ^ sn - 1) / 2) → (acc = m_moved ss sn bo q1 k) → (acc ≤ 1000000) → ∀ (ls : Array Slot), lv_has ls 4 [(0, .ref aB), (1, .int (nI q1)), (2, .int (nI acc)), (3, .int (nI (2 * (k + 1))))] → W p l e { frames := 2, cells := 0, slots := 0, locals := 41 } s m [.ref aB, .int (nI q1)].toArray below meth c s.heap [] 0 0 (MQ below (vp_Si (fun r => r = (nI (m_moved ss sn bo q1 ((2 ^ sn - 1) / 2))))) [.ref aB, .int (nI q1)].toArray s 0 0 (fun _ => False)) (F0 m 5 ls []) := by
    intro n5
    induction n5 with
    | zero =>
      intro k acc hm
      exact absurd hm (Nat.not_lt_zero _)
    | succ n5 ih5 =>
      intro k acc hm5  hk hacc ha ls hl
      refine lv_iload_n hx hb dX0_leastWithMoved_5 rfl (lv_at hl 3 rfl) ?_
      refine lv_aload_n hx hb dX0_leastWithMoved_6 rfl (lv_at hl 0 rfl) ?_
      refine va_get (D := (dC, dI)) (ci := 0) (v := .ref aS) (C := RX0) (T := TX0) (N := 3) hx hb hts mX0_leastWithMoved_inX0 hown hK hP 0 rfl rfl 0 (by decide) (hts (.fieldLink RX0 9 "LeafOrder$Books" "search" "LLeafOrder$Search;") mX0_leastWithMoved_1) (fun _ h9 => h9) rfl dX0_leastWithMoved_7 ?_
      have hPc := hP.sub (ws' := [(aS, .inr (4, [.ref aR, .ref aSj, .ref aSl, .ref aSs, .ref aSo, .int (nI sn), .int (nI st), .int (nI sb), .int (nI sx)]))]) [1] rfl
      refine vp_callSi (W.runV (As := []) (rest := [.int (nI (2 * (k + 1)))]) ⟨hx, hb, hml, hown, hts⟩ (k_X4_all l dC dI cI cZ aS aR aSj aSl aSs aSo sn st sb sx (by omega)) (cwV 0 hts gX0_leastWithMoved_X4_all rfl rfl rfl (by decide +kernel) ⟨Nat.le_of_ble_eq_true rfl, Nat.le_of_ble_eq_true rfl⟩) (ln_preV (q0 := 0) (ci := 4) hPc hKK rfl rfl) rfl rfl hl.1 rfl (lv_room (Nat.le_of_ble_eq_true rfl)) dX0_leastWithMoved_10 ⟨Nat.le_of_ble_eq_true rfl, Nat.le_of_ble_eq_true rfl⟩) (fun r_1 w_2 => ?_)
      subst w_2
      refine ln_icmp_gt (tgt := 45) hx hb dX0_leastWithMoved_13 (by decide) (by have := ln_p9 hn; omega) (by have := ln_p9 hn; omega) (fun c_3 => ?_) (fun c_3 => ?_)
      · refine lv_iload_n hx hb dX0_leastWithMoved_45 rfl (lv_at hl 2 rfl) ?_
        exact W.iret (v := (nI acc)) hx hb hr (fun t ht hW => ⟨(nI acc), rfl, (by rw [hacc, show (2 ^ sn - 1) / 2 = k by omega]), ht⟩) (fun _ h => by cases h) dX0_leastWithMoved_46
      · refine lv_iload_n hx hb dX0_leastWithMoved_16 rfl (lv_at hl 3 rfl) ?_
        refine lv_aload_n hx hb dX0_leastWithMoved_17 rfl (lv_at hl 0 rfl) ?_
        refine va_get (D := (dC, dI)) (ci := 0) (v := .int (nI bo)) (C := RX0) (T := TX0) (N := 3) hx hb hts mX0_leastWithMoved_inX0 hown hK hP 0 rfl rfl 2 (by decide) (hts (.fieldLink RX0 20 "LeafOrder$Books" "other" "I") mX0_leastWithMoved_3) (fun _ h9 => h9) rfl dX0_leastWithMoved_18 ?_
        refine ln_ixor hx hb dX0_leastWithMoved_21 ?_
        refine lv_iload_n hx hb dX0_leastWithMoved_22 rfl (lv_at hl 1 rfl) ?_
        refine ln_ishr hx hb dX0_leastWithMoved_23 (Nat.lt_trans (Nat.xor_lt_two_pow (n := 9) (by have := ln_p9 hn; omega) hbo) (by decide)) (by omega) ?_
        refine lv_iconst (v := nI 1) hx hb dX0_leastWithMoved_24 (by decide) ?_
        refine ln_iand hx hb dX0_leastWithMoved_25 ?_
        refine ln_if_eq (tgt := 39) hx hb dX0_leastWithMoved_26 (by decide) (ln_b31 _) (fun c_4 => ?_) (fun c_4 => ?_)
        · refine lv_iinc (v := (nI (2 * (k + 1) + 2))) (lv' := [(3, .int (nI (2 * (k + 1) + 2))), (0, .ref aB), (1, .int (nI q1)), (2, .int (nI acc))]) hx hb dX0_leastWithMoved_39 hl (k := 3) rfl (by show nI _ + nI 2 = _; rw [nI_add]) (by decide) rfl (fun ls hl => ?_)
          refine lv_goto (tgt := 5) hx hb dX0_leastWithMoved_42 (by decide) ?_
          have hl : lv_has ls 4 [(3, .int (nI (2 * (k + 1 + 1)))), (0, .ref aB), (1, .int (nI q1)), (2, .int (nI acc))] := hl
          exact ih5 (k + 1) acc (by omega)  (by omega) (by rw [m_moved, if_pos c_4, hacc]) (by omega) ls (lv_sub hl [1, 2, 3, 0] rfl)
        · refine lv_iload_n hx hb dX0_leastWithMoved_29 rfl (lv_at hl 2 rfl) ?_
          refine lv_aload_n hx hb dX0_leastWithMoved_30 rfl (lv_at hl 0 rfl) ?_
          refine lv_iload_n hx hb dX0_leastWithMoved_31 rfl (lv_at hl 3 rfl) ?_
          have hPc := hP.sub (ws' := [(aB, .inr (0, [.ref aS, .int (nI bc), .int (nI bo)])), (aS, .inr (4, [.ref aR, .ref aSj, .ref aSl, .ref aSs, .ref aSo, .int (nI sn), .int (nI st), .int (nI sb), .int (nI sx)])), (aSs, .inl (cI, 512, .inl (nF ss)))]) [0, 1, 2] rfl
          refine vp_callSi (W.runV (As := [.int (nI (2 * (k + 1)))]) (rest := [.int (nI acc)]) ⟨hx, hb, hml, hown, hts⟩ (k_X0_costOf l dC dI cI cZ aB aS aR aSj aSl aSs aSo bc bo sn st sb sx ss (2 * (k + 1)) bSs (by omega) (by have := ln_p9 hn; omega)) (cwV 1 hts gX0_leastWithMoved_X0_costOf rfl rfl rfl (by decide +kernel) ⟨Nat.le_of_ble_eq_true rfl, Nat.le_of_ble_eq_true rfl⟩) (ln_preV (q0 := 0) (ci := 0) hPc hKK rfl rfl) rfl rfl hl.1 rfl (lv_room (Nat.le_of_ble_eq_true rfl)) dX0_leastWithMoved_32 ⟨Nat.le_of_ble_eq_true rfl, Nat.le_of_ble_eq_true rfl⟩) (fun r_5 w_6 => ?_)
          subst w_6
          have hm2 := m_two_le bSs sn (2 * (k + 1))
          refine ln_mmin (x := acc) (y := m_two ss sn (2 * (k + 1))) hx hb (by rw [hml]; exact hl.1.symm) hown (hts (.methodLink RX0 33 Lib.Math.min.name) mX0_leastWithMoved_4) (hts (.static Lib.Math.min.name) mX0_leastWithMoved_5) (hts (.initialized "java/lang/Math") mX0_leastWithMoved_6) (hts (.code Lib.Math.min.name Lib.Math.min.code 2 (some .int)) mX0_leastWithMoved_7) (Nat.le_of_ble_eq_true rfl) (Nat.le_of_ble_eq_true rfl) (Nat.zero_le _) (Nat.zero_le _) (by omega) (by omega) dX0_leastWithMoved_35 ?_
          refine lv_istore_n (lv' := [(2, .int (nI (min acc (m_two ss sn (2 * (k + 1)))))), (0, .ref aB), (1, .int (nI q1)), (3, .int (nI (2 * (k + 1))))]) hx hb dX0_leastWithMoved_38 rfl hl (by decide) rfl (fun ls hl => ?_)
          refine lv_iinc (v := (nI (2 * (k + 1) + 2))) (lv' := [(3, .int (nI (2 * (k + 1) + 2))), (2, .int (nI (min acc (m_two ss sn (2 * (k + 1)))))), (0, .ref aB), (1, .int (nI q1))]) hx hb dX0_leastWithMoved_39 hl (k := 3) rfl (by show nI _ + nI 2 = _; rw [nI_add]) (by decide) rfl (fun ls hl => ?_)
          refine lv_goto (tgt := 5) hx hb dX0_leastWithMoved_42 (by decide) ?_
          have hl : lv_has ls 4 [(3, .int (nI (2 * (k + 1 + 1)))), (2, .int (nI (min acc (m_two ss sn (2 * (k + 1)))))), (0, .ref aB), (1, .int (nI q1))] := hl
          exact ih5 (k + 1) (min acc (m_two ss sn (2 * (k + 1)))) (by omega)  (by omega) (by rw [m_moved, if_neg c_4, hacc]) (by omega) ls (lv_sub hl [2, 3, 1, 0] rfl)
  exact LP5 _ 0 1000000 (Nat.lt_succ_self _)  (Nat.zero_le _) rfl (by decide) ls (lv_sub hl [2, 3, 1, 0] rfl)
end
