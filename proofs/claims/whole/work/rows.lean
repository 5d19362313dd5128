section
-- ===== PART A: goes FIRST, ahead of the names: the tables' words, and 'selects' of the private methods out of them =====
/-- a private method of a class that the tables say can be made, by its rows of tables_1 -/
def lw_okq (q : MethodName × Nat) : Prop := (q.1.cls ≠ "java/lang/invoke/MethodHandle" ∧ q.1.cls ≠ "java/lang/invoke/VarHandle") ∧ Cond.instantiable q.1.cls q.2 ∈ tables_1 ∧ Cond.privateMethod q.1 ∈ tables_1 ∧ Cond.instanceMethod q.1 ∈ tables_1
theorem lw_p0 : lw_okq (⟨"LeafOrder", "areTwo", "(II)Z"⟩, 7) := ⟨⟨by decide +kernel, by decide +kernel⟩, List.mem_of_getElem? (i := 11) (by decide +kernel), List.mem_of_getElem? (i := 217) (by decide +kernel), List.mem_of_getElem? (i := 218) (by decide +kernel)⟩
theorem lw_p1 : lw_okq (⟨"LeafOrder$Scale", "fullCost", "(II)I"⟩, 2) := ⟨⟨by decide +kernel, by decide +kernel⟩, List.mem_of_getElem? (i := 59) (by decide +kernel), List.mem_of_getElem? (i := 243) (by decide +kernel), List.mem_of_getElem? (i := 244) (by decide +kernel)⟩
theorem lw_p2 : lw_okq (⟨"LeafOrder$Scale", "isOverGap", "(I)Z"⟩, 2) := ⟨⟨by decide +kernel, by decide +kernel⟩, List.mem_of_getElem? (i := 59) (by decide +kernel), List.mem_of_getElem? (i := 255) (by decide +kernel), List.mem_of_getElem? (i := 256) (by decide +kernel)⟩
theorem lw_p3 : lw_okq (⟨"LeafOrder", "refresh", "()V"⟩, 7) := ⟨⟨by decide +kernel, by decide +kernel⟩, List.mem_of_getElem? (i := 11) (by decide +kernel), List.mem_of_getElem? (i := 263) (by decide +kernel), List.mem_of_getElem? (i := 264) (by decide +kernel)⟩
theorem lw_p4 : lw_okq (⟨"LeafOrder$Search", "fill", "(II)V"⟩, 9) := ⟨⟨by decide +kernel, by decide +kernel⟩, List.mem_of_getElem? (i := 91) (by decide +kernel), List.mem_of_getElem? (i := 277) (by decide +kernel), List.mem_of_getElem? (i := 278) (by decide +kernel)⟩
theorem lw_p5 : lw_okq (⟨"LeafOrder$Search", "fillLast", "(III)V"⟩, 9) := ⟨⟨by decide +kernel, by decide +kernel⟩, List.mem_of_getElem? (i := 91) (by decide +kernel), List.mem_of_getElem? (i := 295) (by decide +kernel), List.mem_of_getElem? (i := 296) (by decide +kernel)⟩
theorem lw_p6 : lw_okq (⟨"LeafOrder$Search", "leastUpTo", "(III)I"⟩, 9) := ⟨⟨by decide +kernel, by decide +kernel⟩, List.mem_of_getElem? (i := 91) (by decide +kernel), List.mem_of_getElem? (i := 303) (by decide +kernel), List.mem_of_getElem? (i := 304) (by decide +kernel)⟩
theorem lw_p7 : lw_okq (⟨"LeafOrder$Search", "leastOf", "(I)I"⟩, 9) := ⟨⟨by decide +kernel, by decide +kernel⟩, List.mem_of_getElem? (i := 91) (by decide +kernel), List.mem_of_getElem? (i := 310) (by decide +kernel), List.mem_of_getElem? (i := 311) (by decide +kernel)⟩
theorem lw_p8 : lw_okq (⟨"LeafOrder$Search", "trace", "()V"⟩, 9) := ⟨⟨by decide +kernel, by decide +kernel⟩, List.mem_of_getElem? (i := 91) (by decide +kernel), List.mem_of_getElem? (i := 314) (by decide +kernel), List.mem_of_getElem? (i := 315) (by decide +kernel)⟩
theorem lw_p9 : lw_okq (⟨"LeafOrder$Search", "pick", "(III)I"⟩, 9) := ⟨⟨by decide +kernel, by decide +kernel⟩, List.mem_of_getElem? (i := 91) (by decide +kernel), List.mem_of_getElem? (i := 318) (by decide +kernel), List.mem_of_getElem? (i := 319) (by decide +kernel)⟩
theorem lw_p10 : lw_okq (⟨"LeafOrder$Search", "linkCost", "(II)I"⟩, 9) := ⟨⟨by decide +kernel, by decide +kernel⟩, List.mem_of_getElem? (i := 91) (by decide +kernel), List.mem_of_getElem? (i := 322) (by decide +kernel), List.mem_of_getElem? (i := 323) (by decide +kernel)⟩
theorem lw_p11 : lw_okq (⟨"LeafOrder$Books", "costOf", "(I)I"⟩, 3) := ⟨⟨by decide +kernel, by decide +kernel⟩, List.mem_of_getElem? (i := 129) (by decide +kernel), List.mem_of_getElem? (i := 332) (by decide +kernel), List.mem_of_getElem? (i := 333) (by decide +kernel)⟩
theorem lw_p12 : lw_okq (⟨"LeafOrder$Search", "isInBest", "(II)Z"⟩, 9) := ⟨⟨by decide +kernel, by decide +kernel⟩, List.mem_of_getElem? (i := 91) (by decide +kernel), List.mem_of_getElem? (i := 360) (by decide +kernel), List.mem_of_getElem? (i := 361) (by decide +kernel)⟩
theorem lw_p13 : lw_okq (⟨"LeafOrderModel", "isLeaf", "(I)Z"⟩, 20) := ⟨⟨by decide +kernel, by decide +kernel⟩, List.mem_of_getElem? (i := 385) (by decide +kernel), List.mem_of_getElem? (i := 464) (by decide +kernel), List.mem_of_getElem? (i := 465) (by decide +kernel)⟩
theorem lw_p14 : lw_okq (⟨"LeafOrderModel", "joins", "(IIII)I"⟩, 20) := ⟨⟨by decide +kernel, by decide +kernel⟩, List.mem_of_getElem? (i := 385) (by decide +kernel), List.mem_of_getElem? (i := 492) (by decide +kernel), List.mem_of_getElem? (i := 493) (by decide +kernel)⟩
theorem lw_p15 : lw_okq (⟨"LeafOrderModel", "isMissing", "(IIII)Z"⟩, 20) := ⟨⟨by decide +kernel, by decide +kernel⟩, List.mem_of_getElem? (i := 385) (by decide +kernel), List.mem_of_getElem? (i := 496) (by decide +kernel), List.mem_of_getElem? (i := 497) (by decide +kernel)⟩
def lw_privs_1 : List (MethodName × Nat) := [(⟨"LeafOrder", "areTwo", "(II)Z"⟩, 7), (⟨"LeafOrder$Scale", "fullCost", "(II)I"⟩, 2), (⟨"LeafOrder$Scale", "isOverGap", "(I)Z"⟩, 2), (⟨"LeafOrder", "refresh", "()V"⟩, 7), (⟨"LeafOrder$Search", "fill", "(II)V"⟩, 9), (⟨"LeafOrder$Search", "fillLast", "(III)V"⟩, 9), (⟨"LeafOrder$Search", "leastUpTo", "(III)I"⟩, 9), (⟨"LeafOrder$Search", "leastOf", "(I)I"⟩, 9), (⟨"LeafOrder$Search", "trace", "()V"⟩, 9), (⟨"LeafOrder$Search", "pick", "(III)I"⟩, 9), (⟨"LeafOrder$Search", "linkCost", "(II)I"⟩, 9), (⟨"LeafOrder$Books", "costOf", "(I)I"⟩, 3), (⟨"LeafOrder$Search", "isInBest", "(II)Z"⟩, 9), (⟨"LeafOrderModel", "isLeaf", "(I)Z"⟩, 20), (⟨"LeafOrderModel", "joins", "(IIII)I"⟩, 20), (⟨"LeafOrderModel", "isMissing", "(IIII)Z"⟩, 20)]
theorem lw_r1 : ∀ q ∈ lw_privs_1, lw_okq q := List.forall_mem_cons.mpr ⟨lw_p0, List.forall_mem_cons.mpr ⟨lw_p1, List.forall_mem_cons.mpr ⟨lw_p2, List.forall_mem_cons.mpr ⟨lw_p3, List.forall_mem_cons.mpr ⟨lw_p4, List.forall_mem_cons.mpr ⟨lw_p5, List.forall_mem_cons.mpr ⟨lw_p6, List.forall_mem_cons.mpr ⟨lw_p7, List.forall_mem_cons.mpr ⟨lw_p8, List.forall_mem_cons.mpr ⟨lw_p9, List.forall_mem_cons.mpr ⟨lw_p10, List.forall_mem_cons.mpr ⟨lw_p11, List.forall_mem_cons.mpr ⟨lw_p12, List.forall_mem_cons.mpr ⟨lw_p13, List.forall_mem_cons.mpr ⟨lw_p14, List.forall_mem_cons.mpr ⟨lw_p15, fun _ h => absurd h List.not_mem_nil⟩⟩⟩⟩⟩⟩⟩⟩⟩⟩⟩⟩⟩⟩⟩⟩
theorem lw_p16 : lw_okq (⟨"LeafOrderModel", "whole", "(IIII)I"⟩, 20) := ⟨⟨by decide +kernel, by decide +kernel⟩, List.mem_of_getElem? (i := 385) (by decide +kernel), List.mem_of_getElem? (i := 500) (by decide +kernel), List.mem_of_getElem? (i := 501) (by decide +kernel)⟩
theorem lw_p17 : lw_okq (⟨"LeafOrderModel", "orders", "()V"⟩, 20) := ⟨⟨by decide +kernel, by decide +kernel⟩, List.mem_of_getElem? (i := 385) (by decide +kernel), List.mem_of_getElem? (i := 511) (by decide +kernel), List.mem_of_getElem? (i := 512) (by decide +kernel)⟩
theorem lw_p18 : lw_okq (⟨"LeafOrderModel", "stands", "(III)I"⟩, 20) := ⟨⟨by decide +kernel, by decide +kernel⟩, List.mem_of_getElem? (i := 385) (by decide +kernel), List.mem_of_getElem? (i := 516) (by decide +kernel), List.mem_of_getElem? (i := 517) (by decide +kernel)⟩
theorem lw_p19 : lw_okq (⟨"LeafOrderModel", "goesOn", "(IIIIII)V"⟩, 20) := ⟨⟨by decide +kernel, by decide +kernel⟩, List.mem_of_getElem? (i := 385) (by decide +kernel), List.mem_of_getElem? (i := 520) (by decide +kernel), List.mem_of_getElem? (i := 521) (by decide +kernel)⟩
theorem lw_p20 : lw_okq (⟨"LeafOrderModel", "mayFollow", "(III)Z"⟩, 20) := ⟨⟨by decide +kernel, by decide +kernel⟩, List.mem_of_getElem? (i := 385) (by decide +kernel), List.mem_of_getElem? (i := 524) (by decide +kernel), List.mem_of_getElem? (i := 525) (by decide +kernel)⟩
theorem lw_p21 : lw_okq (⟨"LeafOrderModel", "keeps", "(II)V"⟩, 20) := ⟨⟨by decide +kernel, by decide +kernel⟩, List.mem_of_getElem? (i := 385) (by decide +kernel), List.mem_of_getElem? (i := 528) (by decide +kernel), List.mem_of_getElem? (i := 529) (by decide +kernel)⟩
theorem lw_p22 : lw_okq (⟨"LeafOrderModel", "all", "()I"⟩, 20) := ⟨⟨by decide +kernel, by decide +kernel⟩, List.mem_of_getElem? (i := 385) (by decide +kernel), List.mem_of_getElem? (i := 532) (by decide +kernel), List.mem_of_getElem? (i := 533) (by decide +kernel)⟩
theorem lw_p23 : lw_okq (⟨"LeafOrderModel", "looks", "(I)V"⟩, 20) := ⟨⟨by decide +kernel, by decide +kernel⟩, List.mem_of_getElem? (i := 385) (by decide +kernel), List.mem_of_getElem? (i := 536) (by decide +kernel), List.mem_of_getElem? (i := 537) (by decide +kernel)⟩
theorem lw_p24 : lw_okq (⟨"LeafOrderModel", "told", "(I)I"⟩, 20) := ⟨⟨by decide +kernel, by decide +kernel⟩, List.mem_of_getElem? (i := 385) (by decide +kernel), List.mem_of_getElem? (i := 540) (by decide +kernel), List.mem_of_getElem? (i := 541) (by decide +kernel)⟩
theorem lw_p25 : lw_okq (⟨"LeafOrderModel", "reads", "()Z"⟩, 20) := ⟨⟨by decide +kernel, by decide +kernel⟩, List.mem_of_getElem? (i := 385) (by decide +kernel), List.mem_of_getElem? (i := 548) (by decide +kernel), List.mem_of_getElem? (i := 549) (by decide +kernel)⟩
theorem lw_p26 : lw_okq (⟨"LeafOrderModel", "parts", "(II)I"⟩, 20) := ⟨⟨by decide +kernel, by decide +kernel⟩, List.mem_of_getElem? (i := 385) (by decide +kernel), List.mem_of_getElem? (i := 565) (by decide +kernel), List.mem_of_getElem? (i := 566) (by decide +kernel)⟩
def lw_privs_2 : List (MethodName × Nat) := [(⟨"LeafOrderModel", "whole", "(IIII)I"⟩, 20), (⟨"LeafOrderModel", "orders", "()V"⟩, 20), (⟨"LeafOrderModel", "stands", "(III)I"⟩, 20), (⟨"LeafOrderModel", "goesOn", "(IIIIII)V"⟩, 20), (⟨"LeafOrderModel", "mayFollow", "(III)Z"⟩, 20), (⟨"LeafOrderModel", "keeps", "(II)V"⟩, 20), (⟨"LeafOrderModel", "all", "()I"⟩, 20), (⟨"LeafOrderModel", "looks", "(I)V"⟩, 20), (⟨"LeafOrderModel", "told", "(I)I"⟩, 20), (⟨"LeafOrderModel", "reads", "()Z"⟩, 20), (⟨"LeafOrderModel", "parts", "(II)I"⟩, 20)]
theorem lw_r2 : ∀ q ∈ lw_privs_2, lw_okq q := List.forall_mem_cons.mpr ⟨lw_p16, List.forall_mem_cons.mpr ⟨lw_p17, List.forall_mem_cons.mpr ⟨lw_p18, List.forall_mem_cons.mpr ⟨lw_p19, List.forall_mem_cons.mpr ⟨lw_p20, List.forall_mem_cons.mpr ⟨lw_p21, List.forall_mem_cons.mpr ⟨lw_p22, List.forall_mem_cons.mpr ⟨lw_p23, List.forall_mem_cons.mpr ⟨lw_p24, List.forall_mem_cons.mpr ⟨lw_p25, List.forall_mem_cons.mpr ⟨lw_p26, fun _ h => absurd h List.not_mem_nil⟩⟩⟩⟩⟩⟩⟩⟩⟩⟩⟩
def lw_privs : List (MethodName × Nat) := lw_privs_1 ++ (lw_privs_2)
def lw_tbl : List Cond := k2_sels lw_privs ++ tables_1
theorem lw_privs_ok : ∀ q ∈ lw_privs, lw_okq q := by
  show ∀ q ∈ lw_privs_1 ++ (lw_privs_2), lw_okq q
  exact List.forall_mem_append.mpr ⟨lw_r1, lw_r2⟩
/-! ===== BEGIN words of one list among another's, by their places ===== -/
theorem goodIn_r {big : List Cond} (ws : List Cond) (ps : List Nat) (hp : ws = ps.filterMap (fun i => big[i]?)) (h : ws.all goodWord = true) : GoodIn big ws := by
  intro w hw
  have h1 := List.all_eq_true.mp h w hw
  rw [hp] at hw
  obtain ⟨i, -, hi⟩ := List.mem_filterMap.mp hw
  have hm : w ∈ big := by first | exact List.mem_of_getElem? hi | exact List.getElem?_mem hi
  exact ⟨hm, good_of_word h1⟩
theorem goodIn_app {big a b : List Cond} (ha : GoodIn big a) (hb : GoodIn big b) : GoodIn big (a ++ b) := fun w h => (List.mem_append.mp h).elim (ha w) (hb w)
theorem goodIn_ca {big a b : List Cond} {c : Cond} (ha : GoodIn big (c :: a)) (hb : GoodIn big b) : GoodIn big (c :: (a ++ b)) := fun w h => (List.mem_cons.mp h).elim (fun e => ha w (List.mem_cons.mpr (Or.inl e))) (fun h => (List.mem_append.mp h).elim (fun h => ha w (List.mem_cons.mpr (Or.inr h))) (hb w))
theorem goodIn_sub {big ws : List Cond} (hm : ∀ w ∈ ws, w ∈ big) (h : ws.all goodWord = true) : GoodIn big ws := fun w hw => ⟨hm w hw, good_of_word (List.all_eq_true.mp h w hw)⟩
/-! ===== END ===== -/

/-! ===== BEGIN printed: names, fields, word lists, decode rows ===== -/
def RX0 : String := "LeafOrder$Books"
def TX0 : u_T := fun k => match k with
  | 0 => ("LeafOrder$Books", "search", "LLeafOrder$Search;", true)
  | 1 => ("LeafOrder$Books", "cost", "I", false)
  | _ => ("LeafOrder$Books", "other", "I", false)
def tyX0 : Nat → FieldType := fun k => match k with
  | 0 => .object "LeafOrder$Search"
  | 1 => .int
  | _ => .int
abbrev wsX00 : List Cond := u_ws RX0 TX0 3
theorem nmX0 : ∀ a, a < 3 → ∀ b, b < 3 → a ≠ b → (TX0 a).2.1 ≠ (TX0 b).2.1 := by decide +kernel
theorem tyX0_ok : ∀ k, k < 3 → parseFieldDescriptor (TX0 k).2.2.1 = some (tyX0 k) := by decide +kernel
abbrev cX0_init : ByteArray := prog_2_method_1_code
def yX0_init : MethodName := ⟨RX0, "<init>", "(LLeafOrder$Search;)V"⟩
abbrev cX0_part : ByteArray := prog_2_method_2_code
def yX0_part : MethodName := ⟨RX0, "part", "()V"⟩
abbrev cX0_leastWithMoved : ByteArray := prog_2_method_3_code
def yX0_leastWithMoved : MethodName := ⟨RX0, "leastWithMoved", "(I)I"⟩
abbrev cX0_costOf : ByteArray := prog_2_method_4_code
def yX0_costOf : MethodName := ⟨RX0, "costOf", "(I)I"⟩
def RX1 : String := "LeafOrder$Leaves"
def TX1 : u_T := fun k => match k with
  | 0 => ("LeafOrder$Leaves", "count", "I", false)
  | 1 => ("LeafOrder$Leaves", "begins", "[I", true)
  | 2 => ("LeafOrder$Leaves", "ends", "[I", true)
  | 3 => ("LeafOrder$Leaves", "words", "[I", true)
  | 4 => ("LeafOrder$Leaves", "cutBegins", "[I", true)
  | 5 => ("LeafOrder$Leaves", "cutEnds", "[I", true)
  | _ => ("LeafOrder$Leaves", "stains", "[I", true)
def tyX1 : Nat → FieldType := fun k => match k with
  | 0 => .int
  | 1 => .array .int
  | 2 => .array .int
  | 3 => .array .int
  | 4 => .array .int
  | 5 => .array .int
  | _ => .array .int
abbrev wsX10 : List Cond := u_ws RX1 TX1 7
theorem nmX1 : ∀ a, a < 7 → ∀ b, b < 7 → a ≠ b → (TX1 a).2.1 ≠ (TX1 b).2.1 := by decide +kernel
theorem tyX1_ok : ∀ k, k < 7 → parseFieldDescriptor (TX1 k).2.2.1 = some (tyX1 k) := by decide +kernel
abbrev cX1_init : ByteArray := prog_3_method_1_code
def yX1_init : MethodName := ⟨RX1, "<init>", "()V"⟩
abbrev cX1_add : ByteArray := prog_3_method_2_code
def yX1_add : MethodName := ⟨RX1, "add", "(IIII)I"⟩
abbrev cX1_has : ByteArray := prog_3_method_3_code
def yX1_has : MethodName := ⟨RX1, "has", "(I)Z"⟩
abbrev cX1_hasSide : ByteArray := prog_3_method_4_code
def yX1_hasSide : MethodName := ⟨RX1, "hasSide", "(II)Z"⟩
abbrev cX1_stainsApart : ByteArray := prog_3_method_5_code
def yX1_stainsApart : MethodName := ⟨RX1, "stainsApart", "(II)I"⟩
def RX2 : String := "LeafOrder$Rules"
def TX2 : u_T := fun k => match k with
  | 0 => ("LeafOrder$Rules", "behind", "[I", true)
  | 1 => ("LeafOrder$Rules", "rightBehind", "[I", true)
  | _ => ("LeafOrder$Rules", "rightAhead", "[I", true)
def tyX2 : Nat → FieldType := fun k => match k with
  | 0 => .array .int
  | 1 => .array .int
  | _ => .array .int
abbrev wsX20 : List Cond := u_ws RX2 TX2 3
theorem nmX2 : ∀ a, a < 3 → ∀ b, b < 3 → a ≠ b → (TX2 a).2.1 ≠ (TX2 b).2.1 := by decide +kernel
theorem tyX2_ok : ∀ k, k < 3 → parseFieldDescriptor (TX2 k).2.2.1 = some (tyX2 k) := by decide +kernel
abbrev cX2_init : ByteArray := prog_4_method_1_code
def yX2_init : MethodName := ⟨RX2, "<init>", "()V"⟩
abbrev cX2_putAhead : ByteArray := prog_4_method_2_code
def yX2_putAhead : MethodName := ⟨RX2, "putAhead", "(IIZ)V"⟩
abbrev cX2_putJoined : ByteArray := prog_4_method_3_code
def yX2_putJoined : MethodName := ⟨RX2, "putJoined", "(IIZ)V"⟩
abbrev cX2_mayComeAfter : ByteArray := prog_4_method_4_code
def yX2_mayComeAfter : MethodName := ⟨RX2, "mayComeAfter", "(II)Z"⟩
abbrev cX2_neighboursOf : ByteArray := prog_4_method_5_code
def yX2_neighboursOf : MethodName := ⟨RX2, "neighboursOf", "(II)I"⟩
abbrev cX2_withBit : ByteArray := prog_4_method_6_code
def yX2_withBit : MethodName := ⟨RX2, "withBit", "(IIZ)I"⟩
def RX3 : String := "LeafOrder$Scale"
def TX3 : u_T := fun k => match k with
  | 0 => ("LeafOrder$Scale", "pile", "LLeafOrder$Leaves;", true)
  | _ => ("LeafOrder$Scale", "sizes", "[I", true)
def tyX3 : Nat → FieldType := fun k => match k with
  | 0 => .object "LeafOrder$Leaves"
  | _ => .array .int
abbrev wsX30 : List Cond := u_ws RX3 TX3 2
theorem nmX3 : ∀ a, a < 2 → ∀ b, b < 2 → a ≠ b → (TX3 a).2.1 ≠ (TX3 b).2.1 := by decide +kernel
theorem tyX3_ok : ∀ k, k < 2 → parseFieldDescriptor (TX3 k).2.2.1 = some (tyX3 k) := by decide +kernel
abbrev cX3_init : ByteArray := prog_5_method_1_code
def yX3_init : MethodName := ⟨RX3, "<init>", "(LLeafOrder$Leaves;)V"⟩
abbrev cX3_joinCost : ByteArray := prog_5_method_2_code
def yX3_joinCost : MethodName := ⟨RX3, "joinCost", "(II)I"⟩
abbrev cX3_isMissing : ByteArray := prog_5_method_3_code
def yX3_isMissing : MethodName := ⟨RX3, "isMissing", "(II)Z"⟩
abbrev cX3_isOverGap : ByteArray := prog_5_method_4_code
def yX3_isOverGap : MethodName := ⟨RX3, "isOverGap", "(I)Z"⟩
abbrev cX3_fullCost : ByteArray := prog_5_method_5_code
def yX3_fullCost : MethodName := ⟨RX3, "fullCost", "(II)I"⟩
def RX4 : String := "LeafOrder$Search"
def TX4 : u_T := fun k => match k with
  | 0 => ("LeafOrder$Search", "rules", "LLeafOrder$Rules;", true)
  | 1 => ("LeafOrder$Search", "joins", "[I", true)
  | 2 => ("LeafOrder$Search", "least", "[I", true)
  | 3 => ("LeafOrder$Search", "setCosts", "[I", true)
  | 4 => ("LeafOrder$Search", "order", "[I", true)
  | 5 => ("LeafOrder$Search", "count", "I", false)
  | 6 => ("LeafOrder$Search", "turnCost", "I", false)
  | 7 => ("LeafOrder$Search", "bestCost", "I", false)
  | _ => ("LeafOrder$Search", "nextCost", "I", false)
def tyX4 : Nat → FieldType := fun k => match k with
  | 0 => .object "LeafOrder$Rules"
  | 1 => .array .int
  | 2 => .array .int
  | 3 => .array .int
  | 4 => .array .int
  | 5 => .int
  | 6 => .int
  | 7 => .int
  | _ => .int
abbrev wsX40 : List Cond := u_ws RX4 TX4 9
theorem nmX4 : ∀ a, a < 9 → ∀ b, b < 9 → a ≠ b → (TX4 a).2.1 ≠ (TX4 b).2.1 := by decide +kernel
theorem tyX4_ok : ∀ k, k < 9 → parseFieldDescriptor (TX4 k).2.2.1 = some (tyX4 k) := by decide +kernel
abbrev cX4_init : ByteArray := prog_6_method_1_code
def yX4_init : MethodName := ⟨RX4, "<init>", "(LLeafOrder$Rules;)V"⟩
abbrev cX4_prepare : ByteArray := prog_6_method_2_code
def yX4_prepare : MethodName := ⟨RX4, "prepare", "(LLeafOrder$Scale;Z)V"⟩
abbrev cX4_solve : ByteArray := prog_6_method_3_code
def yX4_solve : MethodName := ⟨RX4, "solve", "()V"⟩
abbrev cX4_isSure : ByteArray := prog_6_method_4_code
def yX4_isSure : MethodName := ⟨RX4, "isSure", "(III)Z"⟩
abbrev cX4_all : ByteArray := prog_6_method_5_code
def yX4_all : MethodName := ⟨RX4, "all", "()I"⟩
abbrev cX4_fill : ByteArray := prog_6_method_6_code
def yX4_fill : MethodName := ⟨RX4, "fill", "(II)V"⟩
abbrev cX4_fillLast : ByteArray := prog_6_method_7_code
def yX4_fillLast : MethodName := ⟨RX4, "fillLast", "(III)V"⟩
abbrev cX4_leastUpTo : ByteArray := prog_6_method_8_code
def yX4_leastUpTo : MethodName := ⟨RX4, "leastUpTo", "(III)I"⟩
abbrev cX4_leastOf : ByteArray := prog_6_method_9_code
def yX4_leastOf : MethodName := ⟨RX4, "leastOf", "(I)I"⟩
abbrev cX4_trace : ByteArray := prog_6_method_10_code
def yX4_trace : MethodName := ⟨RX4, "trace", "()V"⟩
abbrev cX4_pick : ByteArray := prog_6_method_11_code
def yX4_pick : MethodName := ⟨RX4, "pick", "(III)I"⟩
abbrev cX4_linkCost : ByteArray := prog_6_method_12_code
def yX4_linkCost : MethodName := ⟨RX4, "linkCost", "(II)I"⟩
abbrev cX4_isInBest : ByteArray := prog_6_method_13_code
def yX4_isInBest : MethodName := ⟨RX4, "isInBest", "(II)Z"⟩
def RX5 : String := "LeafOrder"
def TX5 : u_T := fun k => match k with
  | 0 => ("LeafOrder", "pile", "LLeafOrder$Leaves;", true)
  | 1 => ("LeafOrder", "scale", "LLeafOrder$Scale;", true)
  | 2 => ("LeafOrder", "rules", "LLeafOrder$Rules;", true)
  | 3 => ("LeafOrder", "search", "LLeafOrder$Search;", true)
  | 4 => ("LeafOrder", "books", "LLeafOrder$Books;", true)
  | 5 => ("LeafOrder", "mayTurn", "Z", false)
  | _ => ("LeafOrder", "stale", "Z", false)
def tyX5 : Nat → FieldType := fun k => match k with
  | 0 => .object "LeafOrder$Leaves"
  | 1 => .object "LeafOrder$Scale"
  | 2 => .object "LeafOrder$Rules"
  | 3 => .object "LeafOrder$Search"
  | 4 => .object "LeafOrder$Books"
  | 5 => .boolean
  | _ => .boolean
abbrev wsX50 : List Cond := u_ws RX5 TX5 7
theorem nmX5 : ∀ a, a < 7 → ∀ b, b < 7 → a ≠ b → (TX5 a).2.1 ≠ (TX5 b).2.1 := by decide +kernel
theorem tyX5_ok : ∀ k, k < 7 → parseFieldDescriptor (TX5 k).2.2.1 = some (tyX5 k) := by decide +kernel
abbrev cX5_init : ByteArray := prog_1_method_1_code
def yX5_init : MethodName := ⟨RX5, "<init>", "()V"⟩
abbrev cX5_leaf : ByteArray := prog_1_method_2_code
def yX5_leaf : MethodName := ⟨RX5, "leaf", "(IIII)I"⟩
abbrev cX5_catchword : ByteArray := prog_1_method_3_code
def yX5_catchword : MethodName := ⟨RX5, "catchword", "(III)Z"⟩
abbrev cX5_cut : ByteArray := prog_1_method_4_code
def yX5_cut : MethodName := ⟨RX5, "cut", "(IIII)Z"⟩
abbrev cX5_stain : ByteArray := prog_1_method_5_code
def yX5_stain : MethodName := ⟨RX5, "stain", "(III)Z"⟩
abbrev cX5_weights : ByteArray := prog_1_method_6_code
def yX5_weights : MethodName := ⟨RX5, "weights", "(IIIIII)Z"⟩
abbrev cX5_turnable : ByteArray := prog_1_method_7_code
def yX5_turnable : MethodName := ⟨RX5, "turnable", "(Z)V"⟩
abbrev cX5_must : ByteArray := prog_1_method_8_code
def yX5_must : MethodName := ⟨RX5, "must", "(IIZZ)Z"⟩
abbrev cX5_join : ByteArray := prog_1_method_9_code
def yX5_join : MethodName := ⟨RX5, "join", "(IZIZ)I"⟩
abbrev cX5_best : ByteArray := prog_1_method_10_code
def yX5_best : MethodName := ⟨RX5, "best", "()I"⟩
abbrev cX5_at : ByteArray := prog_1_method_11_code
def yX5_at : MethodName := ⟨RX5, "at", "(II)I"⟩
abbrev cX5_next : ByteArray := prog_1_method_12_code
def yX5_next : MethodName := ⟨RX5, "next", "()I"⟩
abbrev cX5_sure : ByteArray := prog_1_method_13_code
def yX5_sure : MethodName := ⟨RX5, "sure", "(III)I"⟩
abbrev cX5_two : ByteArray := prog_1_method_14_code
def yX5_two : MethodName := ⟨RX5, "two", "()I"⟩
abbrev cX5_book : ByteArray := prog_1_method_15_code
def yX5_book : MethodName := ⟨RX5, "book", "(I)I"⟩
abbrev cX5_doubt : ByteArray := prog_1_method_16_code
def yX5_doubt : MethodName := ⟨RX5, "doubt", "(II)I"⟩
abbrev cX5_about : ByteArray := prog_1_method_17_code
def yX5_about : MethodName := ⟨RX5, "about", "(I)I"⟩
abbrev cX5_areTwo : ByteArray := prog_1_method_18_code
def yX5_areTwo : MethodName := ⟨RX5, "areTwo", "(II)Z"⟩
abbrev cX5_refresh : ByteArray := prog_1_method_19_code
def yX5_refresh : MethodName := ⟨RX5, "refresh", "()V"⟩
abbrev cX5_standOf : ByteArray := prog_1_method_20_code
def yX5_standOf : MethodName := ⟨RX5, "standOf", "(IZ)I"⟩
abbrev cX5_costOrNone : ByteArray := prog_1_method_21_code
def yX5_costOrNone : MethodName := ⟨RX5, "costOrNone", "(I)I"⟩
abbrev cX5_isMark : ByteArray := prog_1_method_22_code
def yX5_isMark : MethodName := ⟨RX5, "isMark", "(I)Z"⟩
abbrev cX5_isWithin : ByteArray := prog_1_method_23_code
def yX5_isWithin : MethodName := ⟨RX5, "isWithin", "(II)Z"⟩
def RX6 : String := "LeafOrderModel"
def TX6 : u_T := fun k => match k with
  | 0 => ("LeafOrderModel", "leaves", "I", false)
  | 1 => ("LeafOrderModel", "begin", "[I", true)
  | 2 => ("LeafOrderModel", "end", "[I", true)
  | 3 => ("LeafOrderModel", "word", "[I", true)
  | 4 => ("LeafOrderModel", "cutBegin", "[I", true)
  | 5 => ("LeafOrderModel", "cutEnd", "[I", true)
  | 6 => ("LeafOrderModel", "stain", "[I", true)
  | 7 => ("LeafOrderModel", "weight", "[I", true)
  | 8 => ("LeafOrderModel", "mayTurn", "Z", false)
  | 9 => ("LeafOrderModel", "isAhead", "[Z", true)
  | 10 => ("LeafOrderModel", "isJoined", "[Z", true)
  | 11 => ("LeafOrderModel", "least", "[I", true)
  | 12 => ("LeafOrderModel", "second", "[I", true)
  | 13 => ("LeafOrderModel", "barredA", "I", false)
  | 14 => ("LeafOrderModel", "barredB", "I", false)
  | 15 => ("LeafOrderModel", "setLeast", "I", false)
  | 16 => ("LeafOrderModel", "setSecond", "I", false)
  | 17 => ("LeafOrderModel", "place", "[I", true)
  | 18 => ("LeafOrderModel", "turned", "[I", true)
  | _ => ("LeafOrderModel", "parted", "I", false)
def tyX6 : Nat → FieldType := fun k => match k with
  | 0 => .int
  | 1 => .array .int
  | 2 => .array .int
  | 3 => .array .int
  | 4 => .array .int
  | 5 => .array .int
  | 6 => .array .int
  | 7 => .array .int
  | 8 => .boolean
  | 9 => .array .boolean
  | 10 => .array .boolean
  | 11 => .array .int
  | 12 => .array .int
  | 13 => .int
  | 14 => .int
  | 15 => .int
  | 16 => .int
  | 17 => .array .int
  | 18 => .array .int
  | _ => .int
abbrev wsX60 : List Cond := u_ws RX6 TX6 20
theorem nmX6 : ∀ a, a < 20 → ∀ b, b < 20 → a ≠ b → (TX6 a).2.1 ≠ (TX6 b).2.1 := by decide +kernel
theorem tyX6_ok : ∀ k, k < 20 → parseFieldDescriptor (TX6 k).2.2.1 = some (tyX6 k) := by decide +kernel
abbrev cX6_init : ByteArray := prog_8_method_1_code
def yX6_init : MethodName := ⟨RX6, "<init>", "()V"⟩
abbrev cX6_in : ByteArray := prog_8_method_2_code
def yX6_in : MethodName := ⟨RX6, "in", "(III)Z"⟩
abbrev cX6_isLeaf : ByteArray := prog_8_method_3_code
def yX6_isLeaf : MethodName := ⟨RX6, "isLeaf", "(I)Z"⟩
abbrev cX6_leaf : ByteArray := prog_8_method_4_code
def yX6_leaf : MethodName := ⟨RX6, "leaf", "(IIII)I"⟩
abbrev cX6_catchword : ByteArray := prog_8_method_5_code
def yX6_catchword : MethodName := ⟨RX6, "catchword", "(III)Z"⟩
abbrev cX6_cut : ByteArray := prog_8_method_6_code
def yX6_cut : MethodName := ⟨RX6, "cut", "(IIII)Z"⟩
abbrev cX6_stain : ByteArray := prog_8_method_7_code
def yX6_stain : MethodName := ⟨RX6, "stain", "(III)Z"⟩
abbrev cX6_weights : ByteArray := prog_8_method_8_code
def yX6_weights : MethodName := ⟨RX6, "weights", "(IIIIII)Z"⟩
abbrev cX6_turnable : ByteArray := prog_8_method_9_code
def yX6_turnable : MethodName := ⟨RX6, "turnable", "(Z)V"⟩
abbrev cX6_must : ByteArray := prog_8_method_10_code
def yX6_must : MethodName := ⟨RX6, "must", "(IIZZ)Z"⟩
abbrev cX6_apart : ByteArray := prog_8_method_11_code
def yX6_apart : MethodName := ⟨RX6, "apart", "(II)I"⟩
abbrev cX6_whole : ByteArray := prog_8_method_12_code
def yX6_whole : MethodName := ⟨RX6, "whole", "(IIII)I"⟩
abbrev cX6_isMissing : ByteArray := prog_8_method_13_code
def yX6_isMissing : MethodName := ⟨RX6, "isMissing", "(IIII)Z"⟩
abbrev cX6_joins : ByteArray := prog_8_method_14_code
def yX6_joins : MethodName := ⟨RX6, "joins", "(IIII)I"⟩
abbrev cX6_join : ByteArray := prog_8_method_15_code
def yX6_join : MethodName := ⟨RX6, "join", "(IZIZ)I"⟩
abbrev cX6_mayFollow : ByteArray := prog_8_method_16_code
def yX6_mayFollow : MethodName := ⟨RX6, "mayFollow", "(III)Z"⟩
abbrev cX6_keeps : ByteArray := prog_8_method_17_code
def yX6_keeps : MethodName := ⟨RX6, "keeps", "(II)V"⟩
abbrev cX6_stands : ByteArray := prog_8_method_18_code
def yX6_stands : MethodName := ⟨RX6, "stands", "(III)I"⟩
abbrev cX6_orders : ByteArray := prog_8_method_19_code
def yX6_orders : MethodName := ⟨RX6, "orders", "()V"⟩
abbrev cX6_goesOn : ByteArray := prog_8_method_20_code
def yX6_goesOn : MethodName := ⟨RX6, "goesOn", "(IIIIII)V"⟩
abbrev cX6_looks : ByteArray := prog_8_method_21_code
def yX6_looks : MethodName := ⟨RX6, "looks", "(I)V"⟩
abbrev cX6_told : ByteArray := prog_8_method_22_code
def yX6_told : MethodName := ⟨RX6, "told", "(I)I"⟩
abbrev cX6_all : ByteArray := prog_8_method_23_code
def yX6_all : MethodName := ⟨RX6, "all", "()I"⟩
abbrev cX6_best : ByteArray := prog_8_method_24_code
def yX6_best : MethodName := ⟨RX6, "best", "()I"⟩
abbrev cX6_reads : ByteArray := prog_8_method_25_code
def yX6_reads : MethodName := ⟨RX6, "reads", "()Z"⟩
abbrev cX6_at : ByteArray := prog_8_method_26_code
def yX6_at : MethodName := ⟨RX6, "at", "(II)I"⟩
abbrev cX6_next : ByteArray := prog_8_method_27_code
def yX6_next : MethodName := ⟨RX6, "next", "()I"⟩
abbrev cX6_sure : ByteArray := prog_8_method_28_code
def yX6_sure : MethodName := ⟨RX6, "sure", "(III)I"⟩
abbrev cX6_parts : ByteArray := prog_8_method_29_code
def yX6_parts : MethodName := ⟨RX6, "parts", "(II)I"⟩
abbrev cX6_two : ByteArray := prog_8_method_30_code
def yX6_two : MethodName := ⟨RX6, "two", "()I"⟩
abbrev cX6_book : ByteArray := prog_8_method_31_code
def yX6_book : MethodName := ⟨RX6, "book", "(I)I"⟩
abbrev cX6_doubt : ByteArray := prog_8_method_32_code
def yX6_doubt : MethodName := ⟨RX6, "doubt", "(II)I"⟩
abbrev cX6_about : ByteArray := prog_8_method_33_code
def yX6_about : MethodName := ⟨RX6, "about", "(I)I"⟩
def RJ6 : String := "java/lang/Integer"
def TJ6 : u_T := fun k => match k with
  | _ => ("", "", "", false)
def tyJ6 : Nat → FieldType := fun k => match k with
  | _ => .int
abbrev wsJ60 : List Cond := u_ws RJ6 TJ6 0
theorem nmJ6 : ∀ a, a < 0 → ∀ b, b < 0 → a ≠ b → (TJ6 a).2.1 ≠ (TJ6 b).2.1 := by decide +kernel
theorem tyJ6_ok : ∀ k, k < 0 → parseFieldDescriptor (TJ6 k).2.2.1 = some (tyJ6 k) := by decide +kernel
abbrev cJ6_bitCount_0f7a4 : ByteArray := prog_9_method_49_code
def yJ6_bitCount_0f7a4 : MethodName := ⟨RJ6, "bitCount", "(I)I"⟩
def RJ9 : String := "java/lang/Math"
def TJ9 : u_T := fun k => match k with
  | _ => ("", "", "", false)
def tyJ9 : Nat → FieldType := fun k => match k with
  | _ => .int
abbrev wsJ90 : List Cond := u_ws RJ9 TJ9 0
theorem nmJ9 : ∀ a, a < 0 → ∀ b, b < 0 → a ≠ b → (TJ9 a).2.1 ≠ (TJ9 b).2.1 := by decide +kernel
theorem tyJ9_ok : ∀ k, k < 0 → parseFieldDescriptor (TJ9 k).2.2.1 = some (tyJ9 k) := by decide +kernel
abbrev cJ9_abs_0f7a4 : ByteArray := prog_10_method_59_code
def yJ9_abs_0f7a4 : MethodName := ⟨RJ9, "abs", "(I)I"⟩
abbrev cJ9_min_7cf53 : ByteArray := prog_10_method_69_code
def yJ9_min_7cf53 : MethodName := ⟨RJ9, "min", "(II)I"⟩
def RL : String := "LeafOrderLaw"
abbrev cL_law : ByteArray := code
def yL_law : MethodName := ⟨RL, "law", "([I)Z"⟩
def wsX0_init : List Cond := .code yX0_init cX0_init 2 none :: ([.methodLink RX0 3 objectInit, .instanceMethod objectInit, .code objectInit ⟨#[0xb1]⟩ 1 none, .fieldLink RX0 9 "LeafOrder$Books" "search" "LLeafOrder$Search;"] ++ wsX00)
def wsX4_all : List Cond := .code yX4_all cX4_all 1 (some .int) :: ([.fieldLink RX4 40 "LeafOrder$Search" "count" "I"] ++ wsX40)
def wsX0_costOf : List Cond := .code yX0_costOf cX0_costOf 2 (some .int) :: ([.fieldLink RX0 9 "LeafOrder$Books" "search" "LLeafOrder$Search;", .fieldLink RX0 39 "LeafOrder$Search" "setCosts" "[I", .methodLink RX0 23 yX4_all, .instanceMethod yX4_all, .selects RX4 yX4_all yX4_all, .initialized RX4, .code yX4_all cX4_all 1 (some .int), .fieldLink RX4 40 "LeafOrder$Search" "count" "I"] ++ wsX00 ++ wsX40)
def wsX0_part : List Cond := .code yX0_part cX0_part 3 none :: ([.constant RX0 15 (1000000), .fieldLink RX0 16 "LeafOrder$Books" "cost" "I", .fieldLink RX0 20 "LeafOrder$Books" "other" "I", .fieldLink RX0 9 "LeafOrder$Books" "search" "LLeafOrder$Search;", .methodLink RX0 23 yX4_all, .instanceMethod yX4_all, .selects RX4 yX4_all yX4_all, .initialized RX4, .code yX4_all cX4_all 1 (some .int), .fieldLink RX4 40 "LeafOrder$Search" "count" "I", .methodLink RX0 29 yX0_costOf, .instanceMethod yX0_costOf, .selects RX0 yX0_costOf yX0_costOf, .initialized RX0, .code yX0_costOf cX0_costOf 2 (some .int), .fieldLink RX0 39 "LeafOrder$Search" "setCosts" "[I"] ++ wsX00 ++ wsX40)
def wsX0_leastWithMoved : List Cond := .code yX0_leastWithMoved cX0_leastWithMoved 4 (some .int) :: ([.constant RX0 15 (1000000), .fieldLink RX0 9 "LeafOrder$Books" "search" "LLeafOrder$Search;", .fieldLink RX0 20 "LeafOrder$Books" "other" "I", .methodLink RX0 33 Lib.Math.min.name, .static Lib.Math.min.name, .initialized "java/lang/Math", .code Lib.Math.min.name Lib.Math.min.code 2 (some .int), .methodLink RX0 23 yX4_all, .instanceMethod yX4_all, .selects RX4 yX4_all yX4_all, .initialized RX4, .code yX4_all cX4_all 1 (some .int), .fieldLink RX4 40 "LeafOrder$Search" "count" "I", .methodLink RX0 29 yX0_costOf, .instanceMethod yX0_costOf, .selects RX0 yX0_costOf yX0_costOf, .initialized RX0, .code yX0_costOf cX0_costOf 2 (some .int), .fieldLink RX0 39 "LeafOrder$Search" "setCosts" "[I"] ++ wsX00 ++ wsX40)
def wsX1_init : List Cond := .code yX1_init cX1_init 1 none :: ([.methodLink RX1 3 objectInit, .instanceMethod objectInit, .code objectInit ⟨#[0xb1]⟩ 1 none, .arrayClass .int, .fieldLink RX1 9 "LeafOrder$Leaves" "begins" "[I", .fieldLink RX1 15 "LeafOrder$Leaves" "ends" "[I", .fieldLink RX1 18 "LeafOrder$Leaves" "words" "[I", .fieldLink RX1 21 "LeafOrder$Leaves" "cutBegins" "[I", .fieldLink RX1 24 "LeafOrder$Leaves" "cutEnds" "[I", .fieldLink RX1 27 "LeafOrder$Leaves" "stains" "[I"] ++ wsX10)
def wsX1_add : List Cond := .code yX1_add cX1_add 6 (some .int) :: ([.fieldLink RX1 30 "LeafOrder$Leaves" "count" "I", .fieldLink RX1 9 "LeafOrder$Leaves" "begins" "[I", .fieldLink RX1 15 "LeafOrder$Leaves" "ends" "[I", .fieldLink RX1 18 "LeafOrder$Leaves" "words" "[I"] ++ wsX10)
def wsX1_has : List Cond := .code yX1_has cX1_has 2 (some .boolean) :: ([.fieldLink RX1 30 "LeafOrder$Leaves" "count" "I"] ++ wsX10)
def wsX5_isWithin : List Cond := .code yX5_isWithin cX5_isWithin 2 (some .boolean) :: ([])
def wsX1_hasSide : List Cond := .code yX1_hasSide cX1_hasSide 3 (some .boolean) :: ([.methodLink RX1 34 yX1_has, .instanceMethod yX1_has, .selects RX1 yX1_has yX1_has, .initialized RX1, .code yX1_has cX1_has 2 (some .boolean), .fieldLink RX1 30 "LeafOrder$Leaves" "count" "I", .static yX5_isWithin, .initialized RX5, .code yX5_isWithin cX5_isWithin 2 (some .boolean)] ++ wsX10)
def wsX1_stainsApart : List Cond := .code yX1_stainsApart cX1_stainsApart 5 (some .int) :: ([.fieldLink RX1 27 "LeafOrder$Leaves" "stains" "[I", .methodLink RX1 42 Lib.Math.abs.name, .static Lib.Math.abs.name, .initialized "java/lang/Math", .code Lib.Math.abs.name Lib.Math.abs.code 1 (some .int)] ++ wsX10)
def wsX2_init : List Cond := .code yX2_init cX2_init 1 none :: ([.methodLink RX2 3 objectInit, .instanceMethod objectInit, .code objectInit ⟨#[0xb1]⟩ 1 none, .arrayClass .int, .fieldLink RX2 9 "LeafOrder$Rules" "behind" "[I", .fieldLink RX2 15 "LeafOrder$Rules" "rightBehind" "[I", .fieldLink RX2 18 "LeafOrder$Rules" "rightAhead" "[I"] ++ wsX20)
def wsX2_withBit : List Cond := .code yX2_withBit cX2_withBit 3 (some .int) :: ([])
def wsX2_putAhead : List Cond := .code yX2_putAhead cX2_putAhead 4 none :: ([.fieldLink RX2 9 "LeafOrder$Rules" "behind" "[I", .methodLink RX2 21 yX2_withBit, .static yX2_withBit, .initialized RX2, .code yX2_withBit cX2_withBit 3 (some .int)] ++ wsX20)
def wsX2_putJoined : List Cond := .code yX2_putJoined cX2_putJoined 4 none :: ([.fieldLink RX2 15 "LeafOrder$Rules" "rightBehind" "[I", .fieldLink RX2 18 "LeafOrder$Rules" "rightAhead" "[I", .methodLink RX2 21 yX2_withBit, .static yX2_withBit, .initialized RX2, .code yX2_withBit cX2_withBit 3 (some .int)] ++ wsX20)
def wsX2_mayComeAfter : List Cond := .code yX2_mayComeAfter cX2_mayComeAfter 3 (some .boolean) :: ([.fieldLink RX2 9 "LeafOrder$Rules" "behind" "[I", .fieldLink RX2 15 "LeafOrder$Rules" "rightBehind" "[I"] ++ wsX20)
def wsJ6_bitCount_0f7a4 : List Cond := .code yJ6_bitCount_0f7a4 cJ6_bitCount_0f7a4 1 (some .int) :: ([.constant RJ6 265 (1431655765), .constant RJ6 266 (858993459), .constant RJ6 267 (252645135)])
def wsX2_neighboursOf : List Cond := .code yX2_neighboursOf cX2_neighboursOf 4 (some .int) :: ([.fieldLink RX2 18 "LeafOrder$Rules" "rightAhead" "[I", .methodLink RX2 25 yJ6_bitCount_0f7a4, .static yJ6_bitCount_0f7a4, .initialized RJ6, .code yJ6_bitCount_0f7a4 cJ6_bitCount_0f7a4 1 (some .int), .constant RJ6 265 (1431655765), .constant RJ6 266 (858993459), .constant RJ6 267 (252645135)] ++ wsX20)
def wsX3_init : List Cond := .code yX3_init cX3_init 2 none :: ([.methodLink RX3 3 objectInit, .instanceMethod objectInit, .code objectInit ⟨#[0xb1]⟩ 1 none, .arrayClass .int, .fieldLink RX3 9 "LeafOrder$Scale" "sizes" "[I", .fieldLink RX3 15 "LeafOrder$Scale" "pile" "LLeafOrder$Leaves;"] ++ wsX30)
def wsX3_fullCost : List Cond := .code yX3_fullCost cX3_fullCost 8 (some .int) :: ([.fieldLink RX3 15 "LeafOrder$Scale" "pile" "LLeafOrder$Leaves;", .fieldLink RX3 27 "LeafOrder$Leaves" "begins" "[I", .fieldLink RX3 32 "LeafOrder$Leaves" "words" "[I", .fieldLink RX3 9 "LeafOrder$Scale" "sizes" "[I", .fieldLink RX3 35 "LeafOrder$Leaves" "ends" "[I", .methodLink RX3 38 Lib.Math.abs.name, .static Lib.Math.abs.name, .initialized "java/lang/Math", .code Lib.Math.abs.name Lib.Math.abs.code 1 (some .int), .fieldLink RX3 44 "LeafOrder$Leaves" "cutEnds" "[I", .fieldLink RX3 47 "LeafOrder$Leaves" "cutBegins" "[I", .methodLink RX3 50 yX1_stainsApart, .instanceMethod yX1_stainsApart, .selects RX1 yX1_stainsApart yX1_stainsApart, .initialized RX1, .code yX1_stainsApart cX1_stainsApart 5 (some .int), .fieldLink RX1 27 "LeafOrder$Leaves" "stains" "[I", .methodLink RX1 42 Lib.Math.abs.name] ++ wsX30 ++ wsX10)
def wsX3_isOverGap : List Cond := .code yX3_isOverGap cX3_isOverGap 2 (some .boolean) :: ([.fieldLink RX3 9 "LeafOrder$Scale" "sizes" "[I"] ++ wsX30)
def wsX3_joinCost_r1 : List Cond := [Cond.fieldLink RX3 9 "LeafOrder$Scale" "sizes" "[I", Cond.methodLink RX3 19 yX3_fullCost, Cond.instanceMethod yX3_fullCost, Cond.selects RX3 yX3_fullCost yX3_fullCost, Cond.initialized RX3, Cond.code yX3_fullCost cX3_fullCost 8 (some .int), Cond.fieldLink RX3 15 "LeafOrder$Scale" "pile" "LLeafOrder$Leaves;", Cond.fieldLink RX3 27 "LeafOrder$Leaves" "begins" "[I", Cond.fieldLink RX3 32 "LeafOrder$Leaves" "words" "[I", Cond.fieldLink RX3 35 "LeafOrder$Leaves" "ends" "[I", Cond.methodLink RX3 38 Lib.Math.abs.name, Cond.static Lib.Math.abs.name, Cond.initialized "java/lang/Math", Cond.code Lib.Math.abs.name Lib.Math.abs.code 1 (some .int), Cond.fieldLink RX3 44 "LeafOrder$Leaves" "cutEnds" "[I", Cond.fieldLink RX3 47 "LeafOrder$Leaves" "cutBegins" "[I", Cond.methodLink RX3 50 yX1_stainsApart, Cond.instanceMethod yX1_stainsApart, Cond.selects RX1 yX1_stainsApart yX1_stainsApart, Cond.initialized RX1, Cond.code yX1_stainsApart cX1_stainsApart 5 (some .int), Cond.fieldLink RX1 27 "LeafOrder$Leaves" "stains" "[I", Cond.methodLink RX1 42 Lib.Math.abs.name, Cond.methodLink RX3 23 yX3_isOverGap]
def wsX3_joinCost_r2 : List Cond := [Cond.instanceMethod yX3_isOverGap, Cond.selects RX3 yX3_isOverGap yX3_isOverGap, Cond.code yX3_isOverGap cX3_isOverGap 2 (some .boolean)]
def wsX3_joinCost : List Cond := .code yX3_joinCost cX3_joinCost 4 (some .int) :: ((wsX3_joinCost_r1 ++ wsX3_joinCost_r2) ++ wsX30 ++ wsX10)
def wsX3_isMissing_r1 : List Cond := [Cond.methodLink RX3 19 yX3_fullCost, Cond.instanceMethod yX3_fullCost, Cond.selects RX3 yX3_fullCost yX3_fullCost, Cond.initialized RX3, Cond.code yX3_fullCost cX3_fullCost 8 (some .int), Cond.fieldLink RX3 15 "LeafOrder$Scale" "pile" "LLeafOrder$Leaves;", Cond.fieldLink RX3 27 "LeafOrder$Leaves" "begins" "[I", Cond.fieldLink RX3 32 "LeafOrder$Leaves" "words" "[I", Cond.fieldLink RX3 9 "LeafOrder$Scale" "sizes" "[I", Cond.fieldLink RX3 35 "LeafOrder$Leaves" "ends" "[I", Cond.methodLink RX3 38 Lib.Math.abs.name, Cond.static Lib.Math.abs.name, Cond.initialized "java/lang/Math", Cond.code Lib.Math.abs.name Lib.Math.abs.code 1 (some .int), Cond.fieldLink RX3 44 "LeafOrder$Leaves" "cutEnds" "[I", Cond.fieldLink RX3 47 "LeafOrder$Leaves" "cutBegins" "[I", Cond.methodLink RX3 50 yX1_stainsApart, Cond.instanceMethod yX1_stainsApart, Cond.selects RX1 yX1_stainsApart yX1_stainsApart, Cond.initialized RX1, Cond.code yX1_stainsApart cX1_stainsApart 5 (some .int), Cond.fieldLink RX1 27 "LeafOrder$Leaves" "stains" "[I", Cond.methodLink RX1 42 Lib.Math.abs.name, Cond.methodLink RX3 23 yX3_isOverGap]
def wsX3_isMissing_r2 : List Cond := [Cond.instanceMethod yX3_isOverGap, Cond.selects RX3 yX3_isOverGap yX3_isOverGap, Cond.code yX3_isOverGap cX3_isOverGap 2 (some .boolean)]
def wsX3_isMissing : List Cond := .code yX3_isMissing cX3_isMissing 3 (some .boolean) :: ((wsX3_isMissing_r1 ++ wsX3_isMissing_r2) ++ wsX30 ++ wsX10)
def wsX4_init : List Cond := .code yX4_init cX4_init 2 none :: ([.methodLink RX4 3 objectInit, .instanceMethod objectInit, .code objectInit ⟨#[0xb1]⟩ 1 none, .arrayClass .int, .fieldLink RX4 9 "LeafOrder$Search" "joins" "[I", .fieldLink RX4 15 "LeafOrder$Search" "least" "[I", .fieldLink RX4 18 "LeafOrder$Search" "setCosts" "[I", .fieldLink RX4 21 "LeafOrder$Search" "order" "[I", .fieldLink RX4 24 "LeafOrder$Search" "rules" "LLeafOrder$Rules;"] ++ wsX40)
def wsX4_prepare_r1 : List Cond := [Cond.fieldLink RX4 28 "LeafOrder$Scale" "pile" "LLeafOrder$Leaves;", Cond.fieldLink RX4 34 "LeafOrder$Leaves" "count" "I", Cond.fieldLink RX4 40 "LeafOrder$Search" "count" "I", Cond.fieldLink RX4 41 "LeafOrder$Scale" "sizes" "[I", Cond.constant RX4 44 (1000000), Cond.fieldLink RX4 45 "LeafOrder$Search" "turnCost" "I", Cond.fieldLink RX4 9 "LeafOrder$Search" "joins" "[I", Cond.methodLink RX4 48 yX3_joinCost, Cond.instanceMethod yX3_joinCost, Cond.selects RX3 yX3_joinCost yX3_joinCost, Cond.initialized RX3, Cond.code yX3_joinCost cX3_joinCost 4 (some .int), Cond.fieldLink RX3 9 "LeafOrder$Scale" "sizes" "[I", Cond.methodLink RX3 19 yX3_fullCost, Cond.instanceMethod yX3_fullCost, Cond.selects RX3 yX3_fullCost yX3_fullCost, Cond.code yX3_fullCost cX3_fullCost 8 (some .int), Cond.fieldLink RX3 15 "LeafOrder$Scale" "pile" "LLeafOrder$Leaves;", Cond.fieldLink RX3 27 "LeafOrder$Leaves" "begins" "[I", Cond.fieldLink RX3 32 "LeafOrder$Leaves" "words" "[I", Cond.fieldLink RX3 35 "LeafOrder$Leaves" "ends" "[I", Cond.methodLink RX3 38 Lib.Math.abs.name, Cond.static Lib.Math.abs.name, Cond.initialized "java/lang/Math"]
def wsX4_prepare_r2 : List Cond := [Cond.code Lib.Math.abs.name Lib.Math.abs.code 1 (some .int), Cond.fieldLink RX3 44 "LeafOrder$Leaves" "cutEnds" "[I", Cond.fieldLink RX3 47 "LeafOrder$Leaves" "cutBegins" "[I", Cond.methodLink RX3 50 yX1_stainsApart, Cond.instanceMethod yX1_stainsApart, Cond.selects RX1 yX1_stainsApart yX1_stainsApart, Cond.initialized RX1, Cond.code yX1_stainsApart cX1_stainsApart 5 (some .int), Cond.fieldLink RX1 27 "LeafOrder$Leaves" "stains" "[I", Cond.methodLink RX1 42 Lib.Math.abs.name, Cond.methodLink RX3 23 yX3_isOverGap, Cond.instanceMethod yX3_isOverGap, Cond.selects RX3 yX3_isOverGap yX3_isOverGap, Cond.code yX3_isOverGap cX3_isOverGap 2 (some .boolean)]
def wsX4_prepare : List Cond := .code yX4_prepare cX4_prepare 5 none :: ((wsX4_prepare_r1 ++ wsX4_prepare_r2) ++ wsX30 ++ wsX10 ++ wsX40)
def wsX4_leastUpTo : List Cond := .code yX4_leastUpTo cX4_leastUpTo 9 (some .int) :: ([.constant RX4 44 (1000000), .fieldLink RX4 40 "LeafOrder$Search" "count" "I", .fieldLink RX4 15 "LeafOrder$Search" "least" "[I", .fieldLink RX4 9 "LeafOrder$Search" "joins" "[I", .methodLink RX4 93 Lib.Math.min.name, .static Lib.Math.min.name, .initialized "java/lang/Math", .code Lib.Math.min.name Lib.Math.min.code 2 (some .int)] ++ wsX40)
def wsX4_fillLast : List Cond := .code yX4_fillLast cX4_fillLast 8 none :: ([.constant RX4 44 (1000000), .fieldLink RX4 24 "LeafOrder$Search" "rules" "LLeafOrder$Rules;", .fieldLink RX4 45 "LeafOrder$Search" "turnCost" "I", .methodLink RX4 93 Lib.Math.min.name, .static Lib.Math.min.name, .initialized "java/lang/Math", .code Lib.Math.min.name Lib.Math.min.code 2 (some .int), .fieldLink RX4 15 "LeafOrder$Search" "least" "[I", .methodLink RX4 86 yX2_mayComeAfter, .instanceMethod yX2_mayComeAfter, .selects RX2 yX2_mayComeAfter yX2_mayComeAfter, .initialized RX2, .code yX2_mayComeAfter cX2_mayComeAfter 3 (some .boolean), .fieldLink RX2 9 "LeafOrder$Rules" "behind" "[I", .fieldLink RX2 15 "LeafOrder$Rules" "rightBehind" "[I", .methodLink RX4 89 yX4_leastUpTo, .instanceMethod yX4_leastUpTo, .selects RX4 yX4_leastUpTo yX4_leastUpTo, .initialized RX4, .code yX4_leastUpTo cX4_leastUpTo 9 (some .int), .fieldLink RX4 40 "LeafOrder$Search" "count" "I", .fieldLink RX4 9 "LeafOrder$Search" "joins" "[I"] ++ wsX40 ++ wsX20)
def wsX4_fill_r1 : List Cond := [Cond.fieldLink RX4 40 "LeafOrder$Search" "count" "I", Cond.fieldLink RX4 24 "LeafOrder$Search" "rules" "LLeafOrder$Rules;", Cond.methodLink RX4 56 yX4_all, Cond.instanceMethod yX4_all, Cond.selects RX4 yX4_all yX4_all, Cond.initialized RX4, Cond.code yX4_all cX4_all 1 (some .int), Cond.methodLink RX4 77 yX2_neighboursOf, Cond.instanceMethod yX2_neighboursOf, Cond.selects RX2 yX2_neighboursOf yX2_neighboursOf, Cond.initialized RX2, Cond.code yX2_neighboursOf cX2_neighboursOf 4 (some .int), Cond.fieldLink RX2 18 "LeafOrder$Rules" "rightAhead" "[I", Cond.methodLink RX2 25 yJ6_bitCount_0f7a4, Cond.static yJ6_bitCount_0f7a4, Cond.initialized RJ6, Cond.code yJ6_bitCount_0f7a4 cJ6_bitCount_0f7a4 1 (some .int), Cond.constant RJ6 265 (1431655765), Cond.constant RJ6 266 (858993459), Cond.constant RJ6 267 (252645135), Cond.methodLink RX4 82 yX4_fillLast, Cond.instanceMethod yX4_fillLast, Cond.selects RX4 yX4_fillLast yX4_fillLast, Cond.code yX4_fillLast cX4_fillLast 8 none]
def wsX4_fill_r2 : List Cond := [Cond.constant RX4 44 (1000000), Cond.fieldLink RX4 45 "LeafOrder$Search" "turnCost" "I", Cond.methodLink RX4 93 Lib.Math.min.name, Cond.static Lib.Math.min.name, Cond.initialized "java/lang/Math", Cond.code Lib.Math.min.name Lib.Math.min.code 2 (some .int), Cond.fieldLink RX4 15 "LeafOrder$Search" "least" "[I", Cond.methodLink RX4 86 yX2_mayComeAfter, Cond.instanceMethod yX2_mayComeAfter, Cond.selects RX2 yX2_mayComeAfter yX2_mayComeAfter, Cond.code yX2_mayComeAfter cX2_mayComeAfter 3 (some .boolean), Cond.fieldLink RX2 9 "LeafOrder$Rules" "behind" "[I", Cond.fieldLink RX2 15 "LeafOrder$Rules" "rightBehind" "[I", Cond.methodLink RX4 89 yX4_leastUpTo, Cond.instanceMethod yX4_leastUpTo, Cond.selects RX4 yX4_leastUpTo yX4_leastUpTo, Cond.code yX4_leastUpTo cX4_leastUpTo 9 (some .int), Cond.fieldLink RX4 9 "LeafOrder$Search" "joins" "[I"]
def wsX4_fill : List Cond := .code yX4_fill cX4_fill 7 none :: ((wsX4_fill_r1 ++ wsX4_fill_r2) ++ wsX40 ++ wsX20)
def wsX4_leastOf : List Cond := .code yX4_leastOf cX4_leastOf 4 (some .int) :: ([.constant RX4 44 (1000000), .fieldLink RX4 40 "LeafOrder$Search" "count" "I", .fieldLink RX4 15 "LeafOrder$Search" "least" "[I", .methodLink RX4 93 Lib.Math.min.name, .static Lib.Math.min.name, .initialized "java/lang/Math", .code Lib.Math.min.name Lib.Math.min.code 2 (some .int)] ++ wsX40)
def wsX4_linkCost : List Cond := .code yX4_linkCost cX4_linkCost 3 (some .int) :: ([.fieldLink RX4 9 "LeafOrder$Search" "joins" "[I"] ++ wsX40)
def wsX4_pick_r1 : List Cond := [Cond.fieldLink RX4 24 "LeafOrder$Search" "rules" "LLeafOrder$Rules;", Cond.constant RX4 44 (1000000), Cond.fieldLink RX4 40 "LeafOrder$Search" "count" "I", Cond.fieldLink RX4 15 "LeafOrder$Search" "least" "[I", Cond.fieldLink RX4 67 "LeafOrder$Search" "nextCost" "I", Cond.methodLink RX4 93 Lib.Math.min.name, Cond.static Lib.Math.min.name, Cond.initialized "java/lang/Math", Cond.code Lib.Math.min.name Lib.Math.min.code 2 (some .int), Cond.methodLink RX4 77 yX2_neighboursOf, Cond.instanceMethod yX2_neighboursOf, Cond.selects RX2 yX2_neighboursOf yX2_neighboursOf, Cond.initialized RX2, Cond.code yX2_neighboursOf cX2_neighboursOf 4 (some .int), Cond.fieldLink RX2 18 "LeafOrder$Rules" "rightAhead" "[I", Cond.methodLink RX2 25 yJ6_bitCount_0f7a4, Cond.static yJ6_bitCount_0f7a4, Cond.initialized RJ6, Cond.code yJ6_bitCount_0f7a4 cJ6_bitCount_0f7a4 1 (some .int), Cond.constant RJ6 265 (1431655765), Cond.constant RJ6 266 (858993459), Cond.constant RJ6 267 (252645135), Cond.methodLink RX4 101 yX4_linkCost, Cond.instanceMethod yX4_linkCost]
def wsX4_pick_r2 : List Cond := [Cond.selects RX4 yX4_linkCost yX4_linkCost, Cond.initialized RX4, Cond.code yX4_linkCost cX4_linkCost 3 (some .int), Cond.fieldLink RX4 9 "LeafOrder$Search" "joins" "[I"]
def wsX4_pick : List Cond := .code yX4_pick cX4_pick 9 (some .int) :: ((wsX4_pick_r1 ++ wsX4_pick_r2) ++ wsX40 ++ wsX20)
def wsX4_trace_r1 : List Cond := [Cond.fieldLink RX4 40 "LeafOrder$Search" "count" "I", Cond.fieldLink RX4 21 "LeafOrder$Search" "order" "[I", Cond.fieldLink RX4 45 "LeafOrder$Search" "turnCost" "I", Cond.methodLink RX4 56 yX4_all, Cond.instanceMethod yX4_all, Cond.selects RX4 yX4_all yX4_all, Cond.initialized RX4, Cond.code yX4_all cX4_all 1 (some .int), Cond.methodLink RX4 98 yX4_pick, Cond.instanceMethod yX4_pick, Cond.selects RX4 yX4_pick yX4_pick, Cond.code yX4_pick cX4_pick 9 (some .int), Cond.fieldLink RX4 24 "LeafOrder$Search" "rules" "LLeafOrder$Rules;", Cond.constant RX4 44 (1000000), Cond.fieldLink RX4 15 "LeafOrder$Search" "least" "[I", Cond.fieldLink RX4 67 "LeafOrder$Search" "nextCost" "I", Cond.methodLink RX4 93 Lib.Math.min.name, Cond.static Lib.Math.min.name, Cond.initialized "java/lang/Math", Cond.code Lib.Math.min.name Lib.Math.min.code 2 (some .int), Cond.methodLink RX4 77 yX2_neighboursOf, Cond.instanceMethod yX2_neighboursOf, Cond.selects RX2 yX2_neighboursOf yX2_neighboursOf, Cond.initialized RX2]
def wsX4_trace_r2 : List Cond := [Cond.code yX2_neighboursOf cX2_neighboursOf 4 (some .int), Cond.fieldLink RX2 18 "LeafOrder$Rules" "rightAhead" "[I", Cond.methodLink RX2 25 yJ6_bitCount_0f7a4, Cond.static yJ6_bitCount_0f7a4, Cond.initialized RJ6, Cond.code yJ6_bitCount_0f7a4 cJ6_bitCount_0f7a4 1 (some .int), Cond.constant RJ6 265 (1431655765), Cond.constant RJ6 266 (858993459), Cond.constant RJ6 267 (252645135), Cond.methodLink RX4 101 yX4_linkCost, Cond.instanceMethod yX4_linkCost, Cond.selects RX4 yX4_linkCost yX4_linkCost, Cond.code yX4_linkCost cX4_linkCost 3 (some .int), Cond.fieldLink RX4 9 "LeafOrder$Search" "joins" "[I"]
def wsX4_trace : List Cond := .code yX4_trace cX4_trace 6 none :: ((wsX4_trace_r1 ++ wsX4_trace_r2) ++ wsX40 ++ wsX20)
def wsX4_solve_r1 : List Cond := [Cond.fieldLink RX4 18 "LeafOrder$Search" "setCosts" "[I", Cond.fieldLink RX4 64 "LeafOrder$Search" "bestCost" "I", Cond.constant RX4 44 (1000000), Cond.fieldLink RX4 67 "LeafOrder$Search" "nextCost" "I", Cond.methodLink RX4 52 yX4_fill, Cond.instanceMethod yX4_fill, Cond.selects RX4 yX4_fill yX4_fill, Cond.initialized RX4, Cond.code yX4_fill cX4_fill 7 none, Cond.fieldLink RX4 40 "LeafOrder$Search" "count" "I", Cond.fieldLink RX4 24 "LeafOrder$Search" "rules" "LLeafOrder$Rules;", Cond.methodLink RX4 56 yX4_all, Cond.instanceMethod yX4_all, Cond.selects RX4 yX4_all yX4_all, Cond.code yX4_all cX4_all 1 (some .int), Cond.methodLink RX4 77 yX2_neighboursOf, Cond.instanceMethod yX2_neighboursOf, Cond.selects RX2 yX2_neighboursOf yX2_neighboursOf, Cond.initialized RX2, Cond.code yX2_neighboursOf cX2_neighboursOf 4 (some .int), Cond.fieldLink RX2 18 "LeafOrder$Rules" "rightAhead" "[I", Cond.methodLink RX2 25 yJ6_bitCount_0f7a4, Cond.static yJ6_bitCount_0f7a4, Cond.initialized RJ6]
def wsX4_solve_r2 : List Cond := [Cond.code yJ6_bitCount_0f7a4 cJ6_bitCount_0f7a4 1 (some .int), Cond.constant RJ6 265 (1431655765), Cond.constant RJ6 266 (858993459), Cond.constant RJ6 267 (252645135), Cond.methodLink RX4 82 yX4_fillLast, Cond.instanceMethod yX4_fillLast, Cond.selects RX4 yX4_fillLast yX4_fillLast, Cond.code yX4_fillLast cX4_fillLast 8 none, Cond.fieldLink RX4 45 "LeafOrder$Search" "turnCost" "I", Cond.methodLink RX4 93 Lib.Math.min.name, Cond.static Lib.Math.min.name, Cond.initialized "java/lang/Math", Cond.code Lib.Math.min.name Lib.Math.min.code 2 (some .int), Cond.fieldLink RX4 15 "LeafOrder$Search" "least" "[I", Cond.methodLink RX4 86 yX2_mayComeAfter, Cond.instanceMethod yX2_mayComeAfter, Cond.selects RX2 yX2_mayComeAfter yX2_mayComeAfter, Cond.code yX2_mayComeAfter cX2_mayComeAfter 3 (some .boolean), Cond.fieldLink RX2 9 "LeafOrder$Rules" "behind" "[I", Cond.fieldLink RX2 15 "LeafOrder$Rules" "rightBehind" "[I", Cond.methodLink RX4 89 yX4_leastUpTo, Cond.instanceMethod yX4_leastUpTo, Cond.selects RX4 yX4_leastUpTo yX4_leastUpTo, Cond.code yX4_leastUpTo cX4_leastUpTo 9 (some .int)]
def wsX4_solve_r3 : List Cond := [Cond.fieldLink RX4 9 "LeafOrder$Search" "joins" "[I", Cond.methodLink RX4 60 yX4_leastOf, Cond.instanceMethod yX4_leastOf, Cond.selects RX4 yX4_leastOf yX4_leastOf, Cond.code yX4_leastOf cX4_leastOf 4 (some .int), Cond.methodLink RX4 70 yX4_trace, Cond.instanceMethod yX4_trace, Cond.selects RX4 yX4_trace yX4_trace, Cond.code yX4_trace cX4_trace 6 none, Cond.fieldLink RX4 21 "LeafOrder$Search" "order" "[I", Cond.methodLink RX4 98 yX4_pick, Cond.instanceMethod yX4_pick, Cond.selects RX4 yX4_pick yX4_pick, Cond.code yX4_pick cX4_pick 9 (some .int), Cond.methodLink RX4 101 yX4_linkCost, Cond.instanceMethod yX4_linkCost, Cond.selects RX4 yX4_linkCost yX4_linkCost, Cond.code yX4_linkCost cX4_linkCost 3 (some .int)]
def wsX4_solve : List Cond := .code yX4_solve cX4_solve 2 none :: ((wsX4_solve_r1 ++ (wsX4_solve_r2 ++ wsX4_solve_r3)) ++ wsX40 ++ wsX20)
def wsX4_isInBest : List Cond := .code yX4_isInBest cX4_isInBest 4 (some .boolean) :: ([.fieldLink RX4 40 "LeafOrder$Search" "count" "I", .fieldLink RX4 21 "LeafOrder$Search" "order" "[I"] ++ wsX40)
def wsX4_isSure_r1 : List Cond := [Cond.fieldLink RX4 67 "LeafOrder$Search" "nextCost" "I", Cond.fieldLink RX4 64 "LeafOrder$Search" "bestCost" "I", Cond.methodLink RX4 73 yX4_isInBest, Cond.instanceMethod yX4_isInBest, Cond.selects RX4 yX4_isInBest yX4_isInBest, Cond.initialized RX4, Cond.code yX4_isInBest cX4_isInBest 4 (some .boolean), Cond.fieldLink RX4 40 "LeafOrder$Search" "count" "I", Cond.fieldLink RX4 21 "LeafOrder$Search" "order" "[I", Cond.methodLink RX4 52 yX4_fill, Cond.instanceMethod yX4_fill, Cond.selects RX4 yX4_fill yX4_fill, Cond.code yX4_fill cX4_fill 7 none, Cond.fieldLink RX4 24 "LeafOrder$Search" "rules" "LLeafOrder$Rules;", Cond.methodLink RX4 56 yX4_all, Cond.instanceMethod yX4_all, Cond.selects RX4 yX4_all yX4_all, Cond.code yX4_all cX4_all 1 (some .int), Cond.methodLink RX4 77 yX2_neighboursOf, Cond.instanceMethod yX2_neighboursOf, Cond.selects RX2 yX2_neighboursOf yX2_neighboursOf, Cond.initialized RX2, Cond.code yX2_neighboursOf cX2_neighboursOf 4 (some .int), Cond.fieldLink RX2 18 "LeafOrder$Rules" "rightAhead" "[I"]
def wsX4_isSure_r2 : List Cond := [Cond.methodLink RX2 25 yJ6_bitCount_0f7a4, Cond.static yJ6_bitCount_0f7a4, Cond.initialized RJ6, Cond.code yJ6_bitCount_0f7a4 cJ6_bitCount_0f7a4 1 (some .int), Cond.constant RJ6 265 (1431655765), Cond.constant RJ6 266 (858993459), Cond.constant RJ6 267 (252645135), Cond.methodLink RX4 82 yX4_fillLast, Cond.instanceMethod yX4_fillLast, Cond.selects RX4 yX4_fillLast yX4_fillLast, Cond.code yX4_fillLast cX4_fillLast 8 none, Cond.constant RX4 44 (1000000), Cond.fieldLink RX4 45 "LeafOrder$Search" "turnCost" "I", Cond.methodLink RX4 93 Lib.Math.min.name, Cond.static Lib.Math.min.name, Cond.initialized "java/lang/Math", Cond.code Lib.Math.min.name Lib.Math.min.code 2 (some .int), Cond.fieldLink RX4 15 "LeafOrder$Search" "least" "[I", Cond.methodLink RX4 86 yX2_mayComeAfter, Cond.instanceMethod yX2_mayComeAfter, Cond.selects RX2 yX2_mayComeAfter yX2_mayComeAfter, Cond.code yX2_mayComeAfter cX2_mayComeAfter 3 (some .boolean), Cond.fieldLink RX2 9 "LeafOrder$Rules" "behind" "[I", Cond.fieldLink RX2 15 "LeafOrder$Rules" "rightBehind" "[I"]
def wsX4_isSure_r3 : List Cond := [Cond.methodLink RX4 89 yX4_leastUpTo, Cond.instanceMethod yX4_leastUpTo, Cond.selects RX4 yX4_leastUpTo yX4_leastUpTo, Cond.code yX4_leastUpTo cX4_leastUpTo 9 (some .int), Cond.fieldLink RX4 9 "LeafOrder$Search" "joins" "[I", Cond.methodLink RX4 60 yX4_leastOf, Cond.instanceMethod yX4_leastOf, Cond.selects RX4 yX4_leastOf yX4_leastOf, Cond.code yX4_leastOf cX4_leastOf 4 (some .int)]
def wsX4_isSure : List Cond := .code yX4_isSure cX4_isSure 4 (some .boolean) :: ((wsX4_isSure_r1 ++ (wsX4_isSure_r2 ++ wsX4_isSure_r3)) ++ wsX40 ++ wsX20)
def wsX5_init_r1 : List Cond := [Cond.methodLink RX5 3 objectInit, Cond.instanceMethod objectInit, Cond.code objectInit ⟨#[0xb1]⟩ 1 none, Cond.classLink RX5 9 RX1, Cond.instantiable RX1 7, Cond.initialized RX1, Cond.fieldLink RX5 12 "LeafOrder" "pile" "LLeafOrder$Leaves;", Cond.classLink RX5 16 RX3, Cond.instantiable RX3 2, Cond.initialized RX3, Cond.fieldLink RX5 21 "LeafOrder" "scale" "LLeafOrder$Scale;", Cond.classLink RX5 25 RX2, Cond.instantiable RX2 3, Cond.initialized RX2, Cond.fieldLink RX5 28 "LeafOrder" "rules" "LLeafOrder$Rules;", Cond.classLink RX5 32 RX4, Cond.instantiable RX4 9, Cond.initialized RX4, Cond.fieldLink RX5 37 "LeafOrder" "search" "LLeafOrder$Search;", Cond.classLink RX5 41 RX0, Cond.instantiable RX0 3, Cond.initialized RX0, Cond.fieldLink RX5 46 "LeafOrder" "books" "LLeafOrder$Books;", Cond.fieldLink RX5 50 "LeafOrder" "mayTurn" "Z"]
def wsX5_init_r2 : List Cond := [Cond.fieldLink RX5 54 "LeafOrder" "stale" "Z", Cond.instanceMethod yX1_init, Cond.code yX1_init cX1_init 1 none, Cond.methodLink RX1 3 objectInit, Cond.arrayClass .int, Cond.fieldLink RX1 9 "LeafOrder$Leaves" "begins" "[I", Cond.fieldLink RX1 15 "LeafOrder$Leaves" "ends" "[I", Cond.fieldLink RX1 18 "LeafOrder$Leaves" "words" "[I", Cond.fieldLink RX1 21 "LeafOrder$Leaves" "cutBegins" "[I", Cond.fieldLink RX1 24 "LeafOrder$Leaves" "cutEnds" "[I", Cond.fieldLink RX1 27 "LeafOrder$Leaves" "stains" "[I", Cond.methodLink RX5 18 yX3_init, Cond.instanceMethod yX3_init, Cond.code yX3_init cX3_init 2 none, Cond.methodLink RX3 3 objectInit, Cond.fieldLink RX3 9 "LeafOrder$Scale" "sizes" "[I", Cond.fieldLink RX3 15 "LeafOrder$Scale" "pile" "LLeafOrder$Leaves;", Cond.instanceMethod yX2_init, Cond.code yX2_init cX2_init 1 none, Cond.methodLink RX2 3 objectInit, Cond.fieldLink RX2 9 "LeafOrder$Rules" "behind" "[I", Cond.fieldLink RX2 15 "LeafOrder$Rules" "rightBehind" "[I", Cond.fieldLink RX2 18 "LeafOrder$Rules" "rightAhead" "[I", Cond.methodLink RX5 34 yX4_init]
def wsX5_init_r3 : List Cond := [Cond.instanceMethod yX4_init, Cond.code yX4_init cX4_init 2 none, Cond.methodLink RX4 3 objectInit, Cond.fieldLink RX4 9 "LeafOrder$Search" "joins" "[I", Cond.fieldLink RX4 15 "LeafOrder$Search" "least" "[I", Cond.fieldLink RX4 18 "LeafOrder$Search" "setCosts" "[I", Cond.fieldLink RX4 21 "LeafOrder$Search" "order" "[I", Cond.fieldLink RX4 24 "LeafOrder$Search" "rules" "LLeafOrder$Rules;", Cond.methodLink RX5 43 yX0_init, Cond.instanceMethod yX0_init, Cond.code yX0_init cX0_init 2 none, Cond.methodLink RX0 3 objectInit, Cond.fieldLink RX0 9 "LeafOrder$Books" "search" "LLeafOrder$Search;"]
def wsX5_init : List Cond := .code yX5_init cX5_init 1 none :: ((wsX5_init_r1 ++ (wsX5_init_r2 ++ wsX5_init_r3)) ++ wsX10 ++ wsX50 ++ wsX30 ++ wsX20 ++ wsX40 ++ wsX00)
def wsX5_isMark : List Cond := .code yX5_isMark cX5_isMark 1 (some .boolean) :: ([.methodLink RX5 86 yX5_isWithin, .static yX5_isWithin, .initialized RX5, .code yX5_isWithin cX5_isWithin 2 (some .boolean)])
def wsX5_leaf : List Cond := .code yX5_leaf cX5_leaf 6 (some .int) :: ([.fieldLink RX5 12 "LeafOrder" "pile" "LLeafOrder$Leaves;", .fieldLink RX5 61 "LeafOrder$Leaves" "count" "I", .fieldLink RX5 54 "LeafOrder" "stale" "Z", .methodLink RX5 57 yX5_isMark, .static yX5_isMark, .initialized RX5, .code yX5_isMark cX5_isMark 1 (some .boolean), .methodLink RX5 86 yX5_isWithin, .static yX5_isWithin, .code yX5_isWithin cX5_isWithin 2 (some .boolean), .methodLink RX5 65 yX1_add, .instanceMethod yX1_add, .selects RX1 yX1_add yX1_add, .initialized RX1, .code yX1_add cX1_add 6 (some .int), .fieldLink RX1 30 "LeafOrder$Leaves" "count" "I", .fieldLink RX1 9 "LeafOrder$Leaves" "begins" "[I", .fieldLink RX1 15 "LeafOrder$Leaves" "ends" "[I", .fieldLink RX1 18 "LeafOrder$Leaves" "words" "[I"] ++ wsX50 ++ wsX10)
def wsX5_catchword : List Cond := .code yX5_catchword cX5_catchword 4 (some .boolean) :: ([.fieldLink RX5 12 "LeafOrder" "pile" "LLeafOrder$Leaves;", .fieldLink RX5 73 "LeafOrder$Leaves" "words" "[I", .fieldLink RX5 54 "LeafOrder" "stale" "Z", .methodLink RX5 69 yX1_hasSide, .instanceMethod yX1_hasSide, .selects RX1 yX1_hasSide yX1_hasSide, .initialized RX1, .code yX1_hasSide cX1_hasSide 3 (some .boolean), .methodLink RX1 34 yX1_has, .instanceMethod yX1_has, .selects RX1 yX1_has yX1_has, .code yX1_has cX1_has 2 (some .boolean), .fieldLink RX1 30 "LeafOrder$Leaves" "count" "I", .static yX5_isWithin, .initialized RX5, .code yX5_isWithin cX5_isWithin 2 (some .boolean), .methodLink RX5 57 yX5_isMark, .static yX5_isMark, .code yX5_isMark cX5_isMark 1 (some .boolean), .methodLink RX5 86 yX5_isWithin] ++ wsX50 ++ wsX10)
def wsX5_cut : List Cond := .code yX5_cut cX5_cut 5 (some .boolean) :: ([.fieldLink RX5 12 "LeafOrder" "pile" "LLeafOrder$Leaves;", .fieldLink RX5 77 "LeafOrder$Leaves" "cutBegins" "[I", .fieldLink RX5 80 "LeafOrder$Leaves" "cutEnds" "[I", .fieldLink RX5 54 "LeafOrder" "stale" "Z", .methodLink RX5 69 yX1_hasSide, .instanceMethod yX1_hasSide, .selects RX1 yX1_hasSide yX1_hasSide, .initialized RX1, .code yX1_hasSide cX1_hasSide 3 (some .boolean), .methodLink RX1 34 yX1_has, .instanceMethod yX1_has, .selects RX1 yX1_has yX1_has, .code yX1_has cX1_has 2 (some .boolean), .fieldLink RX1 30 "LeafOrder$Leaves" "count" "I", .static yX5_isWithin, .initialized RX5, .code yX5_isWithin cX5_isWithin 2 (some .boolean), .methodLink RX5 57 yX5_isMark, .static yX5_isMark, .code yX5_isMark cX5_isMark 1 (some .boolean), .methodLink RX5 86 yX5_isWithin] ++ wsX50 ++ wsX10)
def wsX5_stain : List Cond := .code yX5_stain cX5_stain 4 (some .boolean) :: ([.fieldLink RX5 12 "LeafOrder" "pile" "LLeafOrder$Leaves;", .fieldLink RX5 89 "LeafOrder$Leaves" "stains" "[I", .fieldLink RX5 54 "LeafOrder" "stale" "Z", .methodLink RX5 83 yX1_has, .instanceMethod yX1_has, .selects RX1 yX1_has yX1_has, .initialized RX1, .code yX1_has cX1_has 2 (some .boolean), .fieldLink RX1 30 "LeafOrder$Leaves" "count" "I", .methodLink RX5 86 yX5_isWithin, .static yX5_isWithin, .initialized RX5, .code yX5_isWithin cX5_isWithin 2 (some .boolean), .methodLink RX5 57 yX5_isMark, .static yX5_isMark, .code yX5_isMark cX5_isMark 1 (some .boolean)] ++ wsX50 ++ wsX10)
def wsX5_weights : List Cond := .code yX5_weights cX5_weights 8 (some .boolean) :: ([.fieldLink RX5 21 "LeafOrder" "scale" "LLeafOrder$Scale;", .fieldLink RX5 92 "LeafOrder$Scale" "sizes" "[I", .fieldLink RX5 54 "LeafOrder" "stale" "Z", .methodLink RX5 86 yX5_isWithin, .static yX5_isWithin, .initialized RX5, .code yX5_isWithin cX5_isWithin 2 (some .boolean)] ++ wsX50 ++ wsX30)
def wsX5_turnable : List Cond := .code yX5_turnable cX5_turnable 2 none :: ([.fieldLink RX5 50 "LeafOrder" "mayTurn" "Z", .fieldLink RX5 54 "LeafOrder" "stale" "Z"] ++ wsX50)
def wsX5_areTwo : List Cond := .code yX5_areTwo cX5_areTwo 3 (some .boolean) :: ([.fieldLink RX5 12 "LeafOrder" "pile" "LLeafOrder$Leaves;", .methodLink RX5 83 yX1_has, .instanceMethod yX1_has, .selects RX1 yX1_has yX1_has, .initialized RX1, .code yX1_has cX1_has 2 (some .boolean), .fieldLink RX1 30 "LeafOrder$Leaves" "count" "I"] ++ wsX50 ++ wsX10)
def wsX5_must_r1 : List Cond := [Cond.fieldLink RX5 28 "LeafOrder" "rules" "LLeafOrder$Rules;", Cond.fieldLink RX5 54 "LeafOrder" "stale" "Z", Cond.methodLink RX5 95 yX5_areTwo, Cond.instanceMethod yX5_areTwo, Cond.selects RX5 yX5_areTwo yX5_areTwo, Cond.initialized RX5, Cond.code yX5_areTwo cX5_areTwo 3 (some .boolean), Cond.fieldLink RX5 12 "LeafOrder" "pile" "LLeafOrder$Leaves;", Cond.methodLink RX5 83 yX1_has, Cond.instanceMethod yX1_has, Cond.selects RX1 yX1_has yX1_has, Cond.initialized RX1, Cond.code yX1_has cX1_has 2 (some .boolean), Cond.fieldLink RX1 30 "LeafOrder$Leaves" "count" "I", Cond.methodLink RX5 98 yX2_putJoined, Cond.instanceMethod yX2_putJoined, Cond.selects RX2 yX2_putJoined yX2_putJoined, Cond.initialized RX2, Cond.code yX2_putJoined cX2_putJoined 4 none, Cond.fieldLink RX2 15 "LeafOrder$Rules" "rightBehind" "[I", Cond.fieldLink RX2 18 "LeafOrder$Rules" "rightAhead" "[I", Cond.methodLink RX2 21 yX2_withBit, Cond.static yX2_withBit, Cond.code yX2_withBit cX2_withBit 3 (some .int)]
def wsX5_must_r2 : List Cond := [Cond.methodLink RX5 102 yX2_putAhead, Cond.instanceMethod yX2_putAhead, Cond.selects RX2 yX2_putAhead yX2_putAhead, Cond.code yX2_putAhead cX2_putAhead 4 none, Cond.fieldLink RX2 9 "LeafOrder$Rules" "behind" "[I"]
def wsX5_must : List Cond := .code yX5_must cX5_must 5 (some .boolean) :: ((wsX5_must_r1 ++ wsX5_must_r2) ++ wsX50 ++ wsX10 ++ wsX20)
def wsX5_standOf : List Cond := .code yX5_standOf cX5_standOf 2 (some .int) :: ([])
def wsX5_join_r1 : List Cond := [Cond.fieldLink RX5 50 "LeafOrder" "mayTurn" "Z", Cond.fieldLink RX5 21 "LeafOrder" "scale" "LLeafOrder$Scale;", Cond.methodLink RX5 95 yX5_areTwo, Cond.instanceMethod yX5_areTwo, Cond.selects RX5 yX5_areTwo yX5_areTwo, Cond.initialized RX5, Cond.code yX5_areTwo cX5_areTwo 3 (some .boolean), Cond.fieldLink RX5 12 "LeafOrder" "pile" "LLeafOrder$Leaves;", Cond.methodLink RX5 83 yX1_has, Cond.instanceMethod yX1_has, Cond.selects RX1 yX1_has yX1_has, Cond.initialized RX1, Cond.code yX1_has cX1_has 2 (some .boolean), Cond.fieldLink RX1 30 "LeafOrder$Leaves" "count" "I", Cond.methodLink RX5 105 yX5_standOf, Cond.static yX5_standOf, Cond.code yX5_standOf cX5_standOf 2 (some .int), Cond.methodLink RX5 109 yX3_joinCost, Cond.instanceMethod yX3_joinCost, Cond.selects RX3 yX3_joinCost yX3_joinCost, Cond.initialized RX3, Cond.code yX3_joinCost cX3_joinCost 4 (some .int), Cond.fieldLink RX3 9 "LeafOrder$Scale" "sizes" "[I", Cond.methodLink RX3 19 yX3_fullCost]
def wsX5_join_r2 : List Cond := [Cond.instanceMethod yX3_fullCost, Cond.selects RX3 yX3_fullCost yX3_fullCost, Cond.code yX3_fullCost cX3_fullCost 8 (some .int), Cond.fieldLink RX3 15 "LeafOrder$Scale" "pile" "LLeafOrder$Leaves;", Cond.fieldLink RX3 27 "LeafOrder$Leaves" "begins" "[I", Cond.fieldLink RX3 32 "LeafOrder$Leaves" "words" "[I", Cond.fieldLink RX3 35 "LeafOrder$Leaves" "ends" "[I", Cond.methodLink RX3 38 Lib.Math.abs.name, Cond.static Lib.Math.abs.name, Cond.initialized "java/lang/Math", Cond.code Lib.Math.abs.name Lib.Math.abs.code 1 (some .int), Cond.fieldLink RX3 44 "LeafOrder$Leaves" "cutEnds" "[I", Cond.fieldLink RX3 47 "LeafOrder$Leaves" "cutBegins" "[I", Cond.methodLink RX3 50 yX1_stainsApart, Cond.instanceMethod yX1_stainsApart, Cond.selects RX1 yX1_stainsApart yX1_stainsApart, Cond.code yX1_stainsApart cX1_stainsApart 5 (some .int), Cond.fieldLink RX1 27 "LeafOrder$Leaves" "stains" "[I", Cond.methodLink RX1 42 Lib.Math.abs.name, Cond.methodLink RX3 23 yX3_isOverGap, Cond.instanceMethod yX3_isOverGap, Cond.selects RX3 yX3_isOverGap yX3_isOverGap, Cond.code yX3_isOverGap cX3_isOverGap 2 (some .boolean)]
def wsX5_join : List Cond := .code yX5_join cX5_join 5 (some .int) :: ((wsX5_join_r1 ++ wsX5_join_r2) ++ wsX50 ++ wsX10 ++ wsX30)
def wsX5_refresh_r1 : List Cond := [Cond.fieldLink RX5 54 "LeafOrder" "stale" "Z", Cond.fieldLink RX5 37 "LeafOrder" "search" "LLeafOrder$Search;", Cond.fieldLink RX5 21 "LeafOrder" "scale" "LLeafOrder$Scale;", Cond.fieldLink RX5 50 "LeafOrder" "mayTurn" "Z", Cond.fieldLink RX5 46 "LeafOrder" "books" "LLeafOrder$Books;", Cond.methodLink RX5 146 yX4_prepare, Cond.instanceMethod yX4_prepare, Cond.selects RX4 yX4_prepare yX4_prepare, Cond.initialized RX4, Cond.code yX4_prepare cX4_prepare 5 none, Cond.fieldLink RX4 28 "LeafOrder$Scale" "pile" "LLeafOrder$Leaves;", Cond.fieldLink RX4 34 "LeafOrder$Leaves" "count" "I", Cond.fieldLink RX4 40 "LeafOrder$Search" "count" "I", Cond.fieldLink RX4 41 "LeafOrder$Scale" "sizes" "[I", Cond.constant RX4 44 (1000000), Cond.fieldLink RX4 45 "LeafOrder$Search" "turnCost" "I", Cond.fieldLink RX4 9 "LeafOrder$Search" "joins" "[I", Cond.methodLink RX4 48 yX3_joinCost, Cond.instanceMethod yX3_joinCost, Cond.selects RX3 yX3_joinCost yX3_joinCost, Cond.initialized RX3, Cond.code yX3_joinCost cX3_joinCost 4 (some .int), Cond.fieldLink RX3 9 "LeafOrder$Scale" "sizes" "[I", Cond.methodLink RX3 19 yX3_fullCost]
def wsX5_refresh_r2 : List Cond := [Cond.instanceMethod yX3_fullCost, Cond.selects RX3 yX3_fullCost yX3_fullCost, Cond.code yX3_fullCost cX3_fullCost 8 (some .int), Cond.fieldLink RX3 15 "LeafOrder$Scale" "pile" "LLeafOrder$Leaves;", Cond.fieldLink RX3 27 "LeafOrder$Leaves" "begins" "[I", Cond.fieldLink RX3 32 "LeafOrder$Leaves" "words" "[I", Cond.fieldLink RX3 35 "LeafOrder$Leaves" "ends" "[I", Cond.methodLink RX3 38 Lib.Math.abs.name, Cond.static Lib.Math.abs.name, Cond.initialized "java/lang/Math", Cond.code Lib.Math.abs.name Lib.Math.abs.code 1 (some .int), Cond.fieldLink RX3 44 "LeafOrder$Leaves" "cutEnds" "[I", Cond.fieldLink RX3 47 "LeafOrder$Leaves" "cutBegins" "[I", Cond.methodLink RX3 50 yX1_stainsApart, Cond.instanceMethod yX1_stainsApart, Cond.selects RX1 yX1_stainsApart yX1_stainsApart, Cond.initialized RX1, Cond.code yX1_stainsApart cX1_stainsApart 5 (some .int), Cond.fieldLink RX1 27 "LeafOrder$Leaves" "stains" "[I", Cond.methodLink RX1 42 Lib.Math.abs.name, Cond.methodLink RX3 23 yX3_isOverGap, Cond.instanceMethod yX3_isOverGap, Cond.selects RX3 yX3_isOverGap yX3_isOverGap, Cond.code yX3_isOverGap cX3_isOverGap 2 (some .boolean)]
def wsX5_refresh_r3 : List Cond := [Cond.methodLink RX5 150 yX4_solve, Cond.instanceMethod yX4_solve, Cond.selects RX4 yX4_solve yX4_solve, Cond.code yX4_solve cX4_solve 2 none, Cond.fieldLink RX4 18 "LeafOrder$Search" "setCosts" "[I", Cond.fieldLink RX4 64 "LeafOrder$Search" "bestCost" "I", Cond.fieldLink RX4 67 "LeafOrder$Search" "nextCost" "I", Cond.methodLink RX4 52 yX4_fill, Cond.instanceMethod yX4_fill, Cond.selects RX4 yX4_fill yX4_fill, Cond.code yX4_fill cX4_fill 7 none, Cond.fieldLink RX4 24 "LeafOrder$Search" "rules" "LLeafOrder$Rules;", Cond.methodLink RX4 56 yX4_all, Cond.instanceMethod yX4_all, Cond.selects RX4 yX4_all yX4_all, Cond.code yX4_all cX4_all 1 (some .int), Cond.methodLink RX4 77 yX2_neighboursOf, Cond.instanceMethod yX2_neighboursOf, Cond.selects RX2 yX2_neighboursOf yX2_neighboursOf, Cond.initialized RX2, Cond.code yX2_neighboursOf cX2_neighboursOf 4 (some .int), Cond.fieldLink RX2 18 "LeafOrder$Rules" "rightAhead" "[I", Cond.methodLink RX2 25 yJ6_bitCount_0f7a4, Cond.static yJ6_bitCount_0f7a4]
def wsX5_refresh_r4 : List Cond := [Cond.initialized RJ6, Cond.code yJ6_bitCount_0f7a4 cJ6_bitCount_0f7a4 1 (some .int), Cond.constant RJ6 265 (1431655765), Cond.constant RJ6 266 (858993459), Cond.constant RJ6 267 (252645135), Cond.methodLink RX4 82 yX4_fillLast, Cond.instanceMethod yX4_fillLast, Cond.selects RX4 yX4_fillLast yX4_fillLast, Cond.code yX4_fillLast cX4_fillLast 8 none, Cond.methodLink RX4 93 Lib.Math.min.name, Cond.static Lib.Math.min.name, Cond.code Lib.Math.min.name Lib.Math.min.code 2 (some .int), Cond.fieldLink RX4 15 "LeafOrder$Search" "least" "[I", Cond.methodLink RX4 86 yX2_mayComeAfter, Cond.instanceMethod yX2_mayComeAfter, Cond.selects RX2 yX2_mayComeAfter yX2_mayComeAfter, Cond.code yX2_mayComeAfter cX2_mayComeAfter 3 (some .boolean), Cond.fieldLink RX2 9 "LeafOrder$Rules" "behind" "[I", Cond.fieldLink RX2 15 "LeafOrder$Rules" "rightBehind" "[I", Cond.methodLink RX4 89 yX4_leastUpTo, Cond.instanceMethod yX4_leastUpTo, Cond.selects RX4 yX4_leastUpTo yX4_leastUpTo, Cond.code yX4_leastUpTo cX4_leastUpTo 9 (some .int), Cond.methodLink RX4 60 yX4_leastOf]
def wsX5_refresh_r5 : List Cond := [Cond.instanceMethod yX4_leastOf, Cond.selects RX4 yX4_leastOf yX4_leastOf, Cond.code yX4_leastOf cX4_leastOf 4 (some .int), Cond.methodLink RX4 70 yX4_trace, Cond.instanceMethod yX4_trace, Cond.selects RX4 yX4_trace yX4_trace, Cond.code yX4_trace cX4_trace 6 none, Cond.fieldLink RX4 21 "LeafOrder$Search" "order" "[I", Cond.methodLink RX4 98 yX4_pick, Cond.instanceMethod yX4_pick, Cond.selects RX4 yX4_pick yX4_pick, Cond.code yX4_pick cX4_pick 9 (some .int), Cond.methodLink RX4 101 yX4_linkCost, Cond.instanceMethod yX4_linkCost, Cond.selects RX4 yX4_linkCost yX4_linkCost, Cond.code yX4_linkCost cX4_linkCost 3 (some .int), Cond.methodLink RX5 153 yX0_part, Cond.instanceMethod yX0_part, Cond.selects RX0 yX0_part yX0_part, Cond.initialized RX0, Cond.code yX0_part cX0_part 3 none, Cond.constant RX0 15 (1000000), Cond.fieldLink RX0 16 "LeafOrder$Books" "cost" "I", Cond.fieldLink RX0 20 "LeafOrder$Books" "other" "I"]
def wsX5_refresh_r6 : List Cond := [Cond.fieldLink RX0 9 "LeafOrder$Books" "search" "LLeafOrder$Search;", Cond.methodLink RX0 23 yX4_all, Cond.methodLink RX0 29 yX0_costOf, Cond.instanceMethod yX0_costOf, Cond.selects RX0 yX0_costOf yX0_costOf, Cond.code yX0_costOf cX0_costOf 2 (some .int), Cond.fieldLink RX0 39 "LeafOrder$Search" "setCosts" "[I"]
def wsX5_refresh : List Cond := .code yX5_refresh cX5_refresh 1 none :: ((wsX5_refresh_r1 ++ (wsX5_refresh_r2 ++ (wsX5_refresh_r3 ++ (wsX5_refresh_r4 ++ (wsX5_refresh_r5 ++ wsX5_refresh_r6))))) ++ wsX50 ++ wsX30 ++ wsX10 ++ wsX40 ++ wsX20 ++ wsX00)
def wsX5_costOrNone : List Cond := .code yX5_costOrNone cX5_costOrNone 1 (some .int) :: ([.constant RX5 123 (1000000)])
def wsX5_best_r1 : List Cond := [Cond.fieldLink RX5 37 "LeafOrder" "search" "LLeafOrder$Search;", Cond.fieldLink RX5 116 "LeafOrder$Search" "bestCost" "I", Cond.methodLink RX5 113 yX5_refresh, Cond.instanceMethod yX5_refresh, Cond.selects RX5 yX5_refresh yX5_refresh, Cond.initialized RX5, Cond.code yX5_refresh cX5_refresh 1 none, Cond.fieldLink RX5 54 "LeafOrder" "stale" "Z", Cond.fieldLink RX5 21 "LeafOrder" "scale" "LLeafOrder$Scale;", Cond.fieldLink RX5 50 "LeafOrder" "mayTurn" "Z", Cond.fieldLink RX5 46 "LeafOrder" "books" "LLeafOrder$Books;", Cond.methodLink RX5 146 yX4_prepare, Cond.instanceMethod yX4_prepare, Cond.selects RX4 yX4_prepare yX4_prepare, Cond.initialized RX4, Cond.code yX4_prepare cX4_prepare 5 none, Cond.fieldLink RX4 28 "LeafOrder$Scale" "pile" "LLeafOrder$Leaves;", Cond.fieldLink RX4 34 "LeafOrder$Leaves" "count" "I", Cond.fieldLink RX4 40 "LeafOrder$Search" "count" "I", Cond.fieldLink RX4 41 "LeafOrder$Scale" "sizes" "[I", Cond.constant RX4 44 (1000000), Cond.fieldLink RX4 45 "LeafOrder$Search" "turnCost" "I", Cond.fieldLink RX4 9 "LeafOrder$Search" "joins" "[I", Cond.methodLink RX4 48 yX3_joinCost]
def wsX5_best_r2 : List Cond := [Cond.instanceMethod yX3_joinCost, Cond.selects RX3 yX3_joinCost yX3_joinCost, Cond.initialized RX3, Cond.code yX3_joinCost cX3_joinCost 4 (some .int), Cond.fieldLink RX3 9 "LeafOrder$Scale" "sizes" "[I", Cond.methodLink RX3 19 yX3_fullCost, Cond.instanceMethod yX3_fullCost, Cond.selects RX3 yX3_fullCost yX3_fullCost, Cond.code yX3_fullCost cX3_fullCost 8 (some .int), Cond.fieldLink RX3 15 "LeafOrder$Scale" "pile" "LLeafOrder$Leaves;", Cond.fieldLink RX3 27 "LeafOrder$Leaves" "begins" "[I", Cond.fieldLink RX3 32 "LeafOrder$Leaves" "words" "[I", Cond.fieldLink RX3 35 "LeafOrder$Leaves" "ends" "[I", Cond.methodLink RX3 38 Lib.Math.abs.name, Cond.static Lib.Math.abs.name, Cond.initialized "java/lang/Math", Cond.code Lib.Math.abs.name Lib.Math.abs.code 1 (some .int), Cond.fieldLink RX3 44 "LeafOrder$Leaves" "cutEnds" "[I", Cond.fieldLink RX3 47 "LeafOrder$Leaves" "cutBegins" "[I", Cond.methodLink RX3 50 yX1_stainsApart, Cond.instanceMethod yX1_stainsApart, Cond.selects RX1 yX1_stainsApart yX1_stainsApart, Cond.initialized RX1, Cond.code yX1_stainsApart cX1_stainsApart 5 (some .int)]
def wsX5_best_r3 : List Cond := [Cond.fieldLink RX1 27 "LeafOrder$Leaves" "stains" "[I", Cond.methodLink RX1 42 Lib.Math.abs.name, Cond.methodLink RX3 23 yX3_isOverGap, Cond.instanceMethod yX3_isOverGap, Cond.selects RX3 yX3_isOverGap yX3_isOverGap, Cond.code yX3_isOverGap cX3_isOverGap 2 (some .boolean), Cond.methodLink RX5 150 yX4_solve, Cond.instanceMethod yX4_solve, Cond.selects RX4 yX4_solve yX4_solve, Cond.code yX4_solve cX4_solve 2 none, Cond.fieldLink RX4 18 "LeafOrder$Search" "setCosts" "[I", Cond.fieldLink RX4 64 "LeafOrder$Search" "bestCost" "I", Cond.fieldLink RX4 67 "LeafOrder$Search" "nextCost" "I", Cond.methodLink RX4 52 yX4_fill, Cond.instanceMethod yX4_fill, Cond.selects RX4 yX4_fill yX4_fill, Cond.code yX4_fill cX4_fill 7 none, Cond.fieldLink RX4 24 "LeafOrder$Search" "rules" "LLeafOrder$Rules;", Cond.methodLink RX4 56 yX4_all, Cond.instanceMethod yX4_all, Cond.selects RX4 yX4_all yX4_all, Cond.code yX4_all cX4_all 1 (some .int), Cond.methodLink RX4 77 yX2_neighboursOf, Cond.instanceMethod yX2_neighboursOf]
def wsX5_best_r4 : List Cond := [Cond.selects RX2 yX2_neighboursOf yX2_neighboursOf, Cond.initialized RX2, Cond.code yX2_neighboursOf cX2_neighboursOf 4 (some .int), Cond.fieldLink RX2 18 "LeafOrder$Rules" "rightAhead" "[I", Cond.methodLink RX2 25 yJ6_bitCount_0f7a4, Cond.static yJ6_bitCount_0f7a4, Cond.initialized RJ6, Cond.code yJ6_bitCount_0f7a4 cJ6_bitCount_0f7a4 1 (some .int), Cond.constant RJ6 265 (1431655765), Cond.constant RJ6 266 (858993459), Cond.constant RJ6 267 (252645135), Cond.methodLink RX4 82 yX4_fillLast, Cond.instanceMethod yX4_fillLast, Cond.selects RX4 yX4_fillLast yX4_fillLast, Cond.code yX4_fillLast cX4_fillLast 8 none, Cond.methodLink RX4 93 Lib.Math.min.name, Cond.static Lib.Math.min.name, Cond.code Lib.Math.min.name Lib.Math.min.code 2 (some .int), Cond.fieldLink RX4 15 "LeafOrder$Search" "least" "[I", Cond.methodLink RX4 86 yX2_mayComeAfter, Cond.instanceMethod yX2_mayComeAfter, Cond.selects RX2 yX2_mayComeAfter yX2_mayComeAfter, Cond.code yX2_mayComeAfter cX2_mayComeAfter 3 (some .boolean), Cond.fieldLink RX2 9 "LeafOrder$Rules" "behind" "[I"]
def wsX5_best_r5 : List Cond := [Cond.fieldLink RX2 15 "LeafOrder$Rules" "rightBehind" "[I", Cond.methodLink RX4 89 yX4_leastUpTo, Cond.instanceMethod yX4_leastUpTo, Cond.selects RX4 yX4_leastUpTo yX4_leastUpTo, Cond.code yX4_leastUpTo cX4_leastUpTo 9 (some .int), Cond.methodLink RX4 60 yX4_leastOf, Cond.instanceMethod yX4_leastOf, Cond.selects RX4 yX4_leastOf yX4_leastOf, Cond.code yX4_leastOf cX4_leastOf 4 (some .int), Cond.methodLink RX4 70 yX4_trace, Cond.instanceMethod yX4_trace, Cond.selects RX4 yX4_trace yX4_trace, Cond.code yX4_trace cX4_trace 6 none, Cond.fieldLink RX4 21 "LeafOrder$Search" "order" "[I", Cond.methodLink RX4 98 yX4_pick, Cond.instanceMethod yX4_pick, Cond.selects RX4 yX4_pick yX4_pick, Cond.code yX4_pick cX4_pick 9 (some .int), Cond.methodLink RX4 101 yX4_linkCost, Cond.instanceMethod yX4_linkCost, Cond.selects RX4 yX4_linkCost yX4_linkCost, Cond.code yX4_linkCost cX4_linkCost 3 (some .int), Cond.methodLink RX5 153 yX0_part, Cond.instanceMethod yX0_part]
def wsX5_best_r6 : List Cond := [Cond.selects RX0 yX0_part yX0_part, Cond.initialized RX0, Cond.code yX0_part cX0_part 3 none, Cond.constant RX0 15 (1000000), Cond.fieldLink RX0 16 "LeafOrder$Books" "cost" "I", Cond.fieldLink RX0 20 "LeafOrder$Books" "other" "I", Cond.fieldLink RX0 9 "LeafOrder$Books" "search" "LLeafOrder$Search;", Cond.methodLink RX0 23 yX4_all, Cond.methodLink RX0 29 yX0_costOf, Cond.instanceMethod yX0_costOf, Cond.selects RX0 yX0_costOf yX0_costOf, Cond.code yX0_costOf cX0_costOf 2 (some .int), Cond.fieldLink RX0 39 "LeafOrder$Search" "setCosts" "[I", Cond.methodLink RX5 119 yX5_costOrNone, Cond.static yX5_costOrNone, Cond.code yX5_costOrNone cX5_costOrNone 1 (some .int), Cond.constant RX5 123 (1000000)]
def wsX5_best : List Cond := .code yX5_best cX5_best 1 (some .int) :: ((wsX5_best_r1 ++ (wsX5_best_r2 ++ (wsX5_best_r3 ++ (wsX5_best_r4 ++ (wsX5_best_r5 ++ wsX5_best_r6))))) ++ wsX50 ++ wsX40 ++ wsX30 ++ wsX10 ++ wsX20 ++ wsX00)
def wsX5_at_r1 : List Cond := [Cond.fieldLink RX5 37 "LeafOrder" "search" "LLeafOrder$Search;", Cond.fieldLink RX5 116 "LeafOrder$Search" "bestCost" "I", Cond.constant RX5 123 (1000000), Cond.fieldLink RX5 12 "LeafOrder" "pile" "LLeafOrder$Leaves;", Cond.fieldLink RX5 61 "LeafOrder$Leaves" "count" "I", Cond.fieldLink RX5 124 "LeafOrder$Search" "order" "[I", Cond.fieldLink RX5 21 "LeafOrder" "scale" "LLeafOrder$Scale;", Cond.methodLink RX5 113 yX5_refresh, Cond.instanceMethod yX5_refresh, Cond.selects RX5 yX5_refresh yX5_refresh, Cond.initialized RX5, Cond.code yX5_refresh cX5_refresh 1 none, Cond.fieldLink RX5 54 "LeafOrder" "stale" "Z", Cond.fieldLink RX5 50 "LeafOrder" "mayTurn" "Z", Cond.fieldLink RX5 46 "LeafOrder" "books" "LLeafOrder$Books;", Cond.methodLink RX5 146 yX4_prepare, Cond.instanceMethod yX4_prepare, Cond.selects RX4 yX4_prepare yX4_prepare, Cond.initialized RX4, Cond.code yX4_prepare cX4_prepare 5 none, Cond.fieldLink RX4 28 "LeafOrder$Scale" "pile" "LLeafOrder$Leaves;", Cond.fieldLink RX4 34 "LeafOrder$Leaves" "count" "I", Cond.fieldLink RX4 40 "LeafOrder$Search" "count" "I", Cond.fieldLink RX4 41 "LeafOrder$Scale" "sizes" "[I"]
def wsX5_at_r2 : List Cond := [Cond.constant RX4 44 (1000000), Cond.fieldLink RX4 45 "LeafOrder$Search" "turnCost" "I", Cond.fieldLink RX4 9 "LeafOrder$Search" "joins" "[I", Cond.methodLink RX4 48 yX3_joinCost, Cond.instanceMethod yX3_joinCost, Cond.selects RX3 yX3_joinCost yX3_joinCost, Cond.initialized RX3, Cond.code yX3_joinCost cX3_joinCost 4 (some .int), Cond.fieldLink RX3 9 "LeafOrder$Scale" "sizes" "[I", Cond.methodLink RX3 19 yX3_fullCost, Cond.instanceMethod yX3_fullCost, Cond.selects RX3 yX3_fullCost yX3_fullCost, Cond.code yX3_fullCost cX3_fullCost 8 (some .int), Cond.fieldLink RX3 15 "LeafOrder$Scale" "pile" "LLeafOrder$Leaves;", Cond.fieldLink RX3 27 "LeafOrder$Leaves" "begins" "[I", Cond.fieldLink RX3 32 "LeafOrder$Leaves" "words" "[I", Cond.fieldLink RX3 35 "LeafOrder$Leaves" "ends" "[I", Cond.methodLink RX3 38 Lib.Math.abs.name, Cond.static Lib.Math.abs.name, Cond.initialized "java/lang/Math", Cond.code Lib.Math.abs.name Lib.Math.abs.code 1 (some .int), Cond.fieldLink RX3 44 "LeafOrder$Leaves" "cutEnds" "[I", Cond.fieldLink RX3 47 "LeafOrder$Leaves" "cutBegins" "[I", Cond.methodLink RX3 50 yX1_stainsApart]
def wsX5_at_r3 : List Cond := [Cond.instanceMethod yX1_stainsApart, Cond.selects RX1 yX1_stainsApart yX1_stainsApart, Cond.initialized RX1, Cond.code yX1_stainsApart cX1_stainsApart 5 (some .int), Cond.fieldLink RX1 27 "LeafOrder$Leaves" "stains" "[I", Cond.methodLink RX1 42 Lib.Math.abs.name, Cond.methodLink RX3 23 yX3_isOverGap, Cond.instanceMethod yX3_isOverGap, Cond.selects RX3 yX3_isOverGap yX3_isOverGap, Cond.code yX3_isOverGap cX3_isOverGap 2 (some .boolean), Cond.methodLink RX5 150 yX4_solve, Cond.instanceMethod yX4_solve, Cond.selects RX4 yX4_solve yX4_solve, Cond.code yX4_solve cX4_solve 2 none, Cond.fieldLink RX4 18 "LeafOrder$Search" "setCosts" "[I", Cond.fieldLink RX4 64 "LeafOrder$Search" "bestCost" "I", Cond.fieldLink RX4 67 "LeafOrder$Search" "nextCost" "I", Cond.methodLink RX4 52 yX4_fill, Cond.instanceMethod yX4_fill, Cond.selects RX4 yX4_fill yX4_fill, Cond.code yX4_fill cX4_fill 7 none, Cond.fieldLink RX4 24 "LeafOrder$Search" "rules" "LLeafOrder$Rules;", Cond.methodLink RX4 56 yX4_all, Cond.instanceMethod yX4_all]
def wsX5_at_r4 : List Cond := [Cond.selects RX4 yX4_all yX4_all, Cond.code yX4_all cX4_all 1 (some .int), Cond.methodLink RX4 77 yX2_neighboursOf, Cond.instanceMethod yX2_neighboursOf, Cond.selects RX2 yX2_neighboursOf yX2_neighboursOf, Cond.initialized RX2, Cond.code yX2_neighboursOf cX2_neighboursOf 4 (some .int), Cond.fieldLink RX2 18 "LeafOrder$Rules" "rightAhead" "[I", Cond.methodLink RX2 25 yJ6_bitCount_0f7a4, Cond.static yJ6_bitCount_0f7a4, Cond.initialized RJ6, Cond.code yJ6_bitCount_0f7a4 cJ6_bitCount_0f7a4 1 (some .int), Cond.constant RJ6 265 (1431655765), Cond.constant RJ6 266 (858993459), Cond.constant RJ6 267 (252645135), Cond.methodLink RX4 82 yX4_fillLast, Cond.instanceMethod yX4_fillLast, Cond.selects RX4 yX4_fillLast yX4_fillLast, Cond.code yX4_fillLast cX4_fillLast 8 none, Cond.methodLink RX4 93 Lib.Math.min.name, Cond.static Lib.Math.min.name, Cond.code Lib.Math.min.name Lib.Math.min.code 2 (some .int), Cond.fieldLink RX4 15 "LeafOrder$Search" "least" "[I", Cond.methodLink RX4 86 yX2_mayComeAfter]
def wsX5_at_r5 : List Cond := [Cond.instanceMethod yX2_mayComeAfter, Cond.selects RX2 yX2_mayComeAfter yX2_mayComeAfter, Cond.code yX2_mayComeAfter cX2_mayComeAfter 3 (some .boolean), Cond.fieldLink RX2 9 "LeafOrder$Rules" "behind" "[I", Cond.fieldLink RX2 15 "LeafOrder$Rules" "rightBehind" "[I", Cond.methodLink RX4 89 yX4_leastUpTo, Cond.instanceMethod yX4_leastUpTo, Cond.selects RX4 yX4_leastUpTo yX4_leastUpTo, Cond.code yX4_leastUpTo cX4_leastUpTo 9 (some .int), Cond.methodLink RX4 60 yX4_leastOf, Cond.instanceMethod yX4_leastOf, Cond.selects RX4 yX4_leastOf yX4_leastOf, Cond.code yX4_leastOf cX4_leastOf 4 (some .int), Cond.methodLink RX4 70 yX4_trace, Cond.instanceMethod yX4_trace, Cond.selects RX4 yX4_trace yX4_trace, Cond.code yX4_trace cX4_trace 6 none, Cond.fieldLink RX4 21 "LeafOrder$Search" "order" "[I", Cond.methodLink RX4 98 yX4_pick, Cond.instanceMethod yX4_pick, Cond.selects RX4 yX4_pick yX4_pick, Cond.code yX4_pick cX4_pick 9 (some .int), Cond.methodLink RX4 101 yX4_linkCost, Cond.instanceMethod yX4_linkCost]
def wsX5_at_r6 : List Cond := [Cond.selects RX4 yX4_linkCost yX4_linkCost, Cond.code yX4_linkCost cX4_linkCost 3 (some .int), Cond.methodLink RX5 153 yX0_part, Cond.instanceMethod yX0_part, Cond.selects RX0 yX0_part yX0_part, Cond.initialized RX0, Cond.code yX0_part cX0_part 3 none, Cond.constant RX0 15 (1000000), Cond.fieldLink RX0 16 "LeafOrder$Books" "cost" "I", Cond.fieldLink RX0 20 "LeafOrder$Books" "other" "I", Cond.fieldLink RX0 9 "LeafOrder$Books" "search" "LLeafOrder$Search;", Cond.methodLink RX0 23 yX4_all, Cond.methodLink RX0 29 yX0_costOf, Cond.instanceMethod yX0_costOf, Cond.selects RX0 yX0_costOf yX0_costOf, Cond.code yX0_costOf cX0_costOf 2 (some .int), Cond.fieldLink RX0 39 "LeafOrder$Search" "setCosts" "[I", Cond.methodLink RX5 127 yX3_isMissing, Cond.instanceMethod yX3_isMissing, Cond.selects RX3 yX3_isMissing yX3_isMissing, Cond.code yX3_isMissing cX3_isMissing 3 (some .boolean)]
def wsX5_at : List Cond := .code yX5_at cX5_at 4 (some .int) :: ((wsX5_at_r1 ++ (wsX5_at_r2 ++ (wsX5_at_r3 ++ (wsX5_at_r4 ++ (wsX5_at_r5 ++ wsX5_at_r6))))) ++ wsX50 ++ wsX40 ++ wsX10 ++ wsX30 ++ wsX20 ++ wsX00)
def wsX5_next_r1 : List Cond := [Cond.fieldLink RX5 37 "LeafOrder" "search" "LLeafOrder$Search;", Cond.fieldLink RX5 130 "LeafOrder$Search" "nextCost" "I", Cond.methodLink RX5 113 yX5_refresh, Cond.instanceMethod yX5_refresh, Cond.selects RX5 yX5_refresh yX5_refresh, Cond.initialized RX5, Cond.code yX5_refresh cX5_refresh 1 none, Cond.fieldLink RX5 54 "LeafOrder" "stale" "Z", Cond.fieldLink RX5 21 "LeafOrder" "scale" "LLeafOrder$Scale;", Cond.fieldLink RX5 50 "LeafOrder" "mayTurn" "Z", Cond.fieldLink RX5 46 "LeafOrder" "books" "LLeafOrder$Books;", Cond.methodLink RX5 146 yX4_prepare, Cond.instanceMethod yX4_prepare, Cond.selects RX4 yX4_prepare yX4_prepare, Cond.initialized RX4, Cond.code yX4_prepare cX4_prepare 5 none, Cond.fieldLink RX4 28 "LeafOrder$Scale" "pile" "LLeafOrder$Leaves;", Cond.fieldLink RX4 34 "LeafOrder$Leaves" "count" "I", Cond.fieldLink RX4 40 "LeafOrder$Search" "count" "I", Cond.fieldLink RX4 41 "LeafOrder$Scale" "sizes" "[I", Cond.constant RX4 44 (1000000), Cond.fieldLink RX4 45 "LeafOrder$Search" "turnCost" "I", Cond.fieldLink RX4 9 "LeafOrder$Search" "joins" "[I", Cond.methodLink RX4 48 yX3_joinCost]
def wsX5_next_r2 : List Cond := [Cond.instanceMethod yX3_joinCost, Cond.selects RX3 yX3_joinCost yX3_joinCost, Cond.initialized RX3, Cond.code yX3_joinCost cX3_joinCost 4 (some .int), Cond.fieldLink RX3 9 "LeafOrder$Scale" "sizes" "[I", Cond.methodLink RX3 19 yX3_fullCost, Cond.instanceMethod yX3_fullCost, Cond.selects RX3 yX3_fullCost yX3_fullCost, Cond.code yX3_fullCost cX3_fullCost 8 (some .int), Cond.fieldLink RX3 15 "LeafOrder$Scale" "pile" "LLeafOrder$Leaves;", Cond.fieldLink RX3 27 "LeafOrder$Leaves" "begins" "[I", Cond.fieldLink RX3 32 "LeafOrder$Leaves" "words" "[I", Cond.fieldLink RX3 35 "LeafOrder$Leaves" "ends" "[I", Cond.methodLink RX3 38 Lib.Math.abs.name, Cond.static Lib.Math.abs.name, Cond.initialized "java/lang/Math", Cond.code Lib.Math.abs.name Lib.Math.abs.code 1 (some .int), Cond.fieldLink RX3 44 "LeafOrder$Leaves" "cutEnds" "[I", Cond.fieldLink RX3 47 "LeafOrder$Leaves" "cutBegins" "[I", Cond.methodLink RX3 50 yX1_stainsApart, Cond.instanceMethod yX1_stainsApart, Cond.selects RX1 yX1_stainsApart yX1_stainsApart, Cond.initialized RX1, Cond.code yX1_stainsApart cX1_stainsApart 5 (some .int)]
def wsX5_next_r3 : List Cond := [Cond.fieldLink RX1 27 "LeafOrder$Leaves" "stains" "[I", Cond.methodLink RX1 42 Lib.Math.abs.name, Cond.methodLink RX3 23 yX3_isOverGap, Cond.instanceMethod yX3_isOverGap, Cond.selects RX3 yX3_isOverGap yX3_isOverGap, Cond.code yX3_isOverGap cX3_isOverGap 2 (some .boolean), Cond.methodLink RX5 150 yX4_solve, Cond.instanceMethod yX4_solve, Cond.selects RX4 yX4_solve yX4_solve, Cond.code yX4_solve cX4_solve 2 none, Cond.fieldLink RX4 18 "LeafOrder$Search" "setCosts" "[I", Cond.fieldLink RX4 64 "LeafOrder$Search" "bestCost" "I", Cond.fieldLink RX4 67 "LeafOrder$Search" "nextCost" "I", Cond.methodLink RX4 52 yX4_fill, Cond.instanceMethod yX4_fill, Cond.selects RX4 yX4_fill yX4_fill, Cond.code yX4_fill cX4_fill 7 none, Cond.fieldLink RX4 24 "LeafOrder$Search" "rules" "LLeafOrder$Rules;", Cond.methodLink RX4 56 yX4_all, Cond.instanceMethod yX4_all, Cond.selects RX4 yX4_all yX4_all, Cond.code yX4_all cX4_all 1 (some .int), Cond.methodLink RX4 77 yX2_neighboursOf, Cond.instanceMethod yX2_neighboursOf]
def wsX5_next_r4 : List Cond := [Cond.selects RX2 yX2_neighboursOf yX2_neighboursOf, Cond.initialized RX2, Cond.code yX2_neighboursOf cX2_neighboursOf 4 (some .int), Cond.fieldLink RX2 18 "LeafOrder$Rules" "rightAhead" "[I", Cond.methodLink RX2 25 yJ6_bitCount_0f7a4, Cond.static yJ6_bitCount_0f7a4, Cond.initialized RJ6, Cond.code yJ6_bitCount_0f7a4 cJ6_bitCount_0f7a4 1 (some .int), Cond.constant RJ6 265 (1431655765), Cond.constant RJ6 266 (858993459), Cond.constant RJ6 267 (252645135), Cond.methodLink RX4 82 yX4_fillLast, Cond.instanceMethod yX4_fillLast, Cond.selects RX4 yX4_fillLast yX4_fillLast, Cond.code yX4_fillLast cX4_fillLast 8 none, Cond.methodLink RX4 93 Lib.Math.min.name, Cond.static Lib.Math.min.name, Cond.code Lib.Math.min.name Lib.Math.min.code 2 (some .int), Cond.fieldLink RX4 15 "LeafOrder$Search" "least" "[I", Cond.methodLink RX4 86 yX2_mayComeAfter, Cond.instanceMethod yX2_mayComeAfter, Cond.selects RX2 yX2_mayComeAfter yX2_mayComeAfter, Cond.code yX2_mayComeAfter cX2_mayComeAfter 3 (some .boolean), Cond.fieldLink RX2 9 "LeafOrder$Rules" "behind" "[I"]
def wsX5_next_r5 : List Cond := [Cond.fieldLink RX2 15 "LeafOrder$Rules" "rightBehind" "[I", Cond.methodLink RX4 89 yX4_leastUpTo, Cond.instanceMethod yX4_leastUpTo, Cond.selects RX4 yX4_leastUpTo yX4_leastUpTo, Cond.code yX4_leastUpTo cX4_leastUpTo 9 (some .int), Cond.methodLink RX4 60 yX4_leastOf, Cond.instanceMethod yX4_leastOf, Cond.selects RX4 yX4_leastOf yX4_leastOf, Cond.code yX4_leastOf cX4_leastOf 4 (some .int), Cond.methodLink RX4 70 yX4_trace, Cond.instanceMethod yX4_trace, Cond.selects RX4 yX4_trace yX4_trace, Cond.code yX4_trace cX4_trace 6 none, Cond.fieldLink RX4 21 "LeafOrder$Search" "order" "[I", Cond.methodLink RX4 98 yX4_pick, Cond.instanceMethod yX4_pick, Cond.selects RX4 yX4_pick yX4_pick, Cond.code yX4_pick cX4_pick 9 (some .int), Cond.methodLink RX4 101 yX4_linkCost, Cond.instanceMethod yX4_linkCost, Cond.selects RX4 yX4_linkCost yX4_linkCost, Cond.code yX4_linkCost cX4_linkCost 3 (some .int), Cond.methodLink RX5 153 yX0_part, Cond.instanceMethod yX0_part]
def wsX5_next_r6 : List Cond := [Cond.selects RX0 yX0_part yX0_part, Cond.initialized RX0, Cond.code yX0_part cX0_part 3 none, Cond.constant RX0 15 (1000000), Cond.fieldLink RX0 16 "LeafOrder$Books" "cost" "I", Cond.fieldLink RX0 20 "LeafOrder$Books" "other" "I", Cond.fieldLink RX0 9 "LeafOrder$Books" "search" "LLeafOrder$Search;", Cond.methodLink RX0 23 yX4_all, Cond.methodLink RX0 29 yX0_costOf, Cond.instanceMethod yX0_costOf, Cond.selects RX0 yX0_costOf yX0_costOf, Cond.code yX0_costOf cX0_costOf 2 (some .int), Cond.fieldLink RX0 39 "LeafOrder$Search" "setCosts" "[I", Cond.methodLink RX5 119 yX5_costOrNone, Cond.static yX5_costOrNone, Cond.code yX5_costOrNone cX5_costOrNone 1 (some .int), Cond.constant RX5 123 (1000000)]
def wsX5_next : List Cond := .code yX5_next cX5_next 1 (some .int) :: ((wsX5_next_r1 ++ (wsX5_next_r2 ++ (wsX5_next_r3 ++ (wsX5_next_r4 ++ (wsX5_next_r5 ++ wsX5_next_r6))))) ++ wsX50 ++ wsX40 ++ wsX30 ++ wsX10 ++ wsX20 ++ wsX00)
def wsX5_sure_r1 : List Cond := [Cond.fieldLink RX5 37 "LeafOrder" "search" "LLeafOrder$Search;", Cond.fieldLink RX5 116 "LeafOrder$Search" "bestCost" "I", Cond.constant RX5 123 (1000000), Cond.methodLink RX5 95 yX5_areTwo, Cond.instanceMethod yX5_areTwo, Cond.selects RX5 yX5_areTwo yX5_areTwo, Cond.initialized RX5, Cond.code yX5_areTwo cX5_areTwo 3 (some .boolean), Cond.fieldLink RX5 12 "LeafOrder" "pile" "LLeafOrder$Leaves;", Cond.methodLink RX5 83 yX1_has, Cond.instanceMethod yX1_has, Cond.selects RX1 yX1_has yX1_has, Cond.initialized RX1, Cond.code yX1_has cX1_has 2 (some .boolean), Cond.fieldLink RX1 30 "LeafOrder$Leaves" "count" "I", Cond.methodLink RX5 86 yX5_isWithin, Cond.static yX5_isWithin, Cond.code yX5_isWithin cX5_isWithin 2 (some .boolean), Cond.methodLink RX5 113 yX5_refresh, Cond.instanceMethod yX5_refresh, Cond.selects RX5 yX5_refresh yX5_refresh, Cond.code yX5_refresh cX5_refresh 1 none, Cond.fieldLink RX5 54 "LeafOrder" "stale" "Z", Cond.fieldLink RX5 21 "LeafOrder" "scale" "LLeafOrder$Scale;"]
def wsX5_sure_r2 : List Cond := [Cond.fieldLink RX5 50 "LeafOrder" "mayTurn" "Z", Cond.fieldLink RX5 46 "LeafOrder" "books" "LLeafOrder$Books;", Cond.methodLink RX5 146 yX4_prepare, Cond.instanceMethod yX4_prepare, Cond.selects RX4 yX4_prepare yX4_prepare, Cond.initialized RX4, Cond.code yX4_prepare cX4_prepare 5 none, Cond.fieldLink RX4 28 "LeafOrder$Scale" "pile" "LLeafOrder$Leaves;", Cond.fieldLink RX4 34 "LeafOrder$Leaves" "count" "I", Cond.fieldLink RX4 40 "LeafOrder$Search" "count" "I", Cond.fieldLink RX4 41 "LeafOrder$Scale" "sizes" "[I", Cond.constant RX4 44 (1000000), Cond.fieldLink RX4 45 "LeafOrder$Search" "turnCost" "I", Cond.fieldLink RX4 9 "LeafOrder$Search" "joins" "[I", Cond.methodLink RX4 48 yX3_joinCost, Cond.instanceMethod yX3_joinCost, Cond.selects RX3 yX3_joinCost yX3_joinCost, Cond.initialized RX3, Cond.code yX3_joinCost cX3_joinCost 4 (some .int), Cond.fieldLink RX3 9 "LeafOrder$Scale" "sizes" "[I", Cond.methodLink RX3 19 yX3_fullCost, Cond.instanceMethod yX3_fullCost, Cond.selects RX3 yX3_fullCost yX3_fullCost, Cond.code yX3_fullCost cX3_fullCost 8 (some .int)]
def wsX5_sure_r3 : List Cond := [Cond.fieldLink RX3 15 "LeafOrder$Scale" "pile" "LLeafOrder$Leaves;", Cond.fieldLink RX3 27 "LeafOrder$Leaves" "begins" "[I", Cond.fieldLink RX3 32 "LeafOrder$Leaves" "words" "[I", Cond.fieldLink RX3 35 "LeafOrder$Leaves" "ends" "[I", Cond.methodLink RX3 38 Lib.Math.abs.name, Cond.static Lib.Math.abs.name, Cond.initialized "java/lang/Math", Cond.code Lib.Math.abs.name Lib.Math.abs.code 1 (some .int), Cond.fieldLink RX3 44 "LeafOrder$Leaves" "cutEnds" "[I", Cond.fieldLink RX3 47 "LeafOrder$Leaves" "cutBegins" "[I", Cond.methodLink RX3 50 yX1_stainsApart, Cond.instanceMethod yX1_stainsApart, Cond.selects RX1 yX1_stainsApart yX1_stainsApart, Cond.code yX1_stainsApart cX1_stainsApart 5 (some .int), Cond.fieldLink RX1 27 "LeafOrder$Leaves" "stains" "[I", Cond.methodLink RX1 42 Lib.Math.abs.name, Cond.methodLink RX3 23 yX3_isOverGap, Cond.instanceMethod yX3_isOverGap, Cond.selects RX3 yX3_isOverGap yX3_isOverGap, Cond.code yX3_isOverGap cX3_isOverGap 2 (some .boolean), Cond.methodLink RX5 150 yX4_solve, Cond.instanceMethod yX4_solve, Cond.selects RX4 yX4_solve yX4_solve, Cond.code yX4_solve cX4_solve 2 none]
def wsX5_sure_r4 : List Cond := [Cond.fieldLink RX4 18 "LeafOrder$Search" "setCosts" "[I", Cond.fieldLink RX4 64 "LeafOrder$Search" "bestCost" "I", Cond.fieldLink RX4 67 "LeafOrder$Search" "nextCost" "I", Cond.methodLink RX4 52 yX4_fill, Cond.instanceMethod yX4_fill, Cond.selects RX4 yX4_fill yX4_fill, Cond.code yX4_fill cX4_fill 7 none, Cond.fieldLink RX4 24 "LeafOrder$Search" "rules" "LLeafOrder$Rules;", Cond.methodLink RX4 56 yX4_all, Cond.instanceMethod yX4_all, Cond.selects RX4 yX4_all yX4_all, Cond.code yX4_all cX4_all 1 (some .int), Cond.methodLink RX4 77 yX2_neighboursOf, Cond.instanceMethod yX2_neighboursOf, Cond.selects RX2 yX2_neighboursOf yX2_neighboursOf, Cond.initialized RX2, Cond.code yX2_neighboursOf cX2_neighboursOf 4 (some .int), Cond.fieldLink RX2 18 "LeafOrder$Rules" "rightAhead" "[I", Cond.methodLink RX2 25 yJ6_bitCount_0f7a4, Cond.static yJ6_bitCount_0f7a4, Cond.initialized RJ6, Cond.code yJ6_bitCount_0f7a4 cJ6_bitCount_0f7a4 1 (some .int), Cond.constant RJ6 265 (1431655765), Cond.constant RJ6 266 (858993459)]
def wsX5_sure_r5 : List Cond := [Cond.constant RJ6 267 (252645135), Cond.methodLink RX4 82 yX4_fillLast, Cond.instanceMethod yX4_fillLast, Cond.selects RX4 yX4_fillLast yX4_fillLast, Cond.code yX4_fillLast cX4_fillLast 8 none, Cond.methodLink RX4 93 Lib.Math.min.name, Cond.static Lib.Math.min.name, Cond.code Lib.Math.min.name Lib.Math.min.code 2 (some .int), Cond.fieldLink RX4 15 "LeafOrder$Search" "least" "[I", Cond.methodLink RX4 86 yX2_mayComeAfter, Cond.instanceMethod yX2_mayComeAfter, Cond.selects RX2 yX2_mayComeAfter yX2_mayComeAfter, Cond.code yX2_mayComeAfter cX2_mayComeAfter 3 (some .boolean), Cond.fieldLink RX2 9 "LeafOrder$Rules" "behind" "[I", Cond.fieldLink RX2 15 "LeafOrder$Rules" "rightBehind" "[I", Cond.methodLink RX4 89 yX4_leastUpTo, Cond.instanceMethod yX4_leastUpTo, Cond.selects RX4 yX4_leastUpTo yX4_leastUpTo, Cond.code yX4_leastUpTo cX4_leastUpTo 9 (some .int), Cond.methodLink RX4 60 yX4_leastOf, Cond.instanceMethod yX4_leastOf, Cond.selects RX4 yX4_leastOf yX4_leastOf, Cond.code yX4_leastOf cX4_leastOf 4 (some .int), Cond.methodLink RX4 70 yX4_trace]
def wsX5_sure_r6 : List Cond := [Cond.instanceMethod yX4_trace, Cond.selects RX4 yX4_trace yX4_trace, Cond.code yX4_trace cX4_trace 6 none, Cond.fieldLink RX4 21 "LeafOrder$Search" "order" "[I", Cond.methodLink RX4 98 yX4_pick, Cond.instanceMethod yX4_pick, Cond.selects RX4 yX4_pick yX4_pick, Cond.code yX4_pick cX4_pick 9 (some .int), Cond.methodLink RX4 101 yX4_linkCost, Cond.instanceMethod yX4_linkCost, Cond.selects RX4 yX4_linkCost yX4_linkCost, Cond.code yX4_linkCost cX4_linkCost 3 (some .int), Cond.methodLink RX5 153 yX0_part, Cond.instanceMethod yX0_part, Cond.selects RX0 yX0_part yX0_part, Cond.initialized RX0, Cond.code yX0_part cX0_part 3 none, Cond.constant RX0 15 (1000000), Cond.fieldLink RX0 16 "LeafOrder$Books" "cost" "I", Cond.fieldLink RX0 20 "LeafOrder$Books" "other" "I", Cond.fieldLink RX0 9 "LeafOrder$Books" "search" "LLeafOrder$Search;", Cond.methodLink RX0 23 yX4_all, Cond.methodLink RX0 29 yX0_costOf, Cond.instanceMethod yX0_costOf]
def wsX5_sure_r7 : List Cond := [Cond.selects RX0 yX0_costOf yX0_costOf, Cond.code yX0_costOf cX0_costOf 2 (some .int), Cond.fieldLink RX0 39 "LeafOrder$Search" "setCosts" "[I", Cond.methodLink RX5 133 yX4_isSure, Cond.instanceMethod yX4_isSure, Cond.selects RX4 yX4_isSure yX4_isSure, Cond.code yX4_isSure cX4_isSure 4 (some .boolean), Cond.methodLink RX4 73 yX4_isInBest, Cond.instanceMethod yX4_isInBest, Cond.selects RX4 yX4_isInBest yX4_isInBest, Cond.code yX4_isInBest cX4_isInBest 4 (some .boolean)]
def wsX5_sure : List Cond := .code yX5_sure cX5_sure 4 (some .int) :: ((wsX5_sure_r1 ++ (wsX5_sure_r2 ++ (wsX5_sure_r3 ++ (wsX5_sure_r4 ++ (wsX5_sure_r5 ++ (wsX5_sure_r6 ++ wsX5_sure_r7)))))) ++ wsX50 ++ wsX40 ++ wsX10 ++ wsX30 ++ wsX20 ++ wsX00)
def wsX5_two_r1 : List Cond := [Cond.fieldLink RX5 46 "LeafOrder" "books" "LLeafOrder$Books;", Cond.fieldLink RX5 137 "LeafOrder$Books" "cost" "I", Cond.methodLink RX5 113 yX5_refresh, Cond.instanceMethod yX5_refresh, Cond.selects RX5 yX5_refresh yX5_refresh, Cond.initialized RX5, Cond.code yX5_refresh cX5_refresh 1 none, Cond.fieldLink RX5 54 "LeafOrder" "stale" "Z", Cond.fieldLink RX5 37 "LeafOrder" "search" "LLeafOrder$Search;", Cond.fieldLink RX5 21 "LeafOrder" "scale" "LLeafOrder$Scale;", Cond.fieldLink RX5 50 "LeafOrder" "mayTurn" "Z", Cond.methodLink RX5 146 yX4_prepare, Cond.instanceMethod yX4_prepare, Cond.selects RX4 yX4_prepare yX4_prepare, Cond.initialized RX4, Cond.code yX4_prepare cX4_prepare 5 none, Cond.fieldLink RX4 28 "LeafOrder$Scale" "pile" "LLeafOrder$Leaves;", Cond.fieldLink RX4 34 "LeafOrder$Leaves" "count" "I", Cond.fieldLink RX4 40 "LeafOrder$Search" "count" "I", Cond.fieldLink RX4 41 "LeafOrder$Scale" "sizes" "[I", Cond.constant RX4 44 (1000000), Cond.fieldLink RX4 45 "LeafOrder$Search" "turnCost" "I", Cond.fieldLink RX4 9 "LeafOrder$Search" "joins" "[I", Cond.methodLink RX4 48 yX3_joinCost]
def wsX5_two_r2 : List Cond := [Cond.instanceMethod yX3_joinCost, Cond.selects RX3 yX3_joinCost yX3_joinCost, Cond.initialized RX3, Cond.code yX3_joinCost cX3_joinCost 4 (some .int), Cond.fieldLink RX3 9 "LeafOrder$Scale" "sizes" "[I", Cond.methodLink RX3 19 yX3_fullCost, Cond.instanceMethod yX3_fullCost, Cond.selects RX3 yX3_fullCost yX3_fullCost, Cond.code yX3_fullCost cX3_fullCost 8 (some .int), Cond.fieldLink RX3 15 "LeafOrder$Scale" "pile" "LLeafOrder$Leaves;", Cond.fieldLink RX3 27 "LeafOrder$Leaves" "begins" "[I", Cond.fieldLink RX3 32 "LeafOrder$Leaves" "words" "[I", Cond.fieldLink RX3 35 "LeafOrder$Leaves" "ends" "[I", Cond.methodLink RX3 38 Lib.Math.abs.name, Cond.static Lib.Math.abs.name, Cond.initialized "java/lang/Math", Cond.code Lib.Math.abs.name Lib.Math.abs.code 1 (some .int), Cond.fieldLink RX3 44 "LeafOrder$Leaves" "cutEnds" "[I", Cond.fieldLink RX3 47 "LeafOrder$Leaves" "cutBegins" "[I", Cond.methodLink RX3 50 yX1_stainsApart, Cond.instanceMethod yX1_stainsApart, Cond.selects RX1 yX1_stainsApart yX1_stainsApart, Cond.initialized RX1, Cond.code yX1_stainsApart cX1_stainsApart 5 (some .int)]
def wsX5_two_r3 : List Cond := [Cond.fieldLink RX1 27 "LeafOrder$Leaves" "stains" "[I", Cond.methodLink RX1 42 Lib.Math.abs.name, Cond.methodLink RX3 23 yX3_isOverGap, Cond.instanceMethod yX3_isOverGap, Cond.selects RX3 yX3_isOverGap yX3_isOverGap, Cond.code yX3_isOverGap cX3_isOverGap 2 (some .boolean), Cond.methodLink RX5 150 yX4_solve, Cond.instanceMethod yX4_solve, Cond.selects RX4 yX4_solve yX4_solve, Cond.code yX4_solve cX4_solve 2 none, Cond.fieldLink RX4 18 "LeafOrder$Search" "setCosts" "[I", Cond.fieldLink RX4 64 "LeafOrder$Search" "bestCost" "I", Cond.fieldLink RX4 67 "LeafOrder$Search" "nextCost" "I", Cond.methodLink RX4 52 yX4_fill, Cond.instanceMethod yX4_fill, Cond.selects RX4 yX4_fill yX4_fill, Cond.code yX4_fill cX4_fill 7 none, Cond.fieldLink RX4 24 "LeafOrder$Search" "rules" "LLeafOrder$Rules;", Cond.methodLink RX4 56 yX4_all, Cond.instanceMethod yX4_all, Cond.selects RX4 yX4_all yX4_all, Cond.code yX4_all cX4_all 1 (some .int), Cond.methodLink RX4 77 yX2_neighboursOf, Cond.instanceMethod yX2_neighboursOf]
def wsX5_two_r4 : List Cond := [Cond.selects RX2 yX2_neighboursOf yX2_neighboursOf, Cond.initialized RX2, Cond.code yX2_neighboursOf cX2_neighboursOf 4 (some .int), Cond.fieldLink RX2 18 "LeafOrder$Rules" "rightAhead" "[I", Cond.methodLink RX2 25 yJ6_bitCount_0f7a4, Cond.static yJ6_bitCount_0f7a4, Cond.initialized RJ6, Cond.code yJ6_bitCount_0f7a4 cJ6_bitCount_0f7a4 1 (some .int), Cond.constant RJ6 265 (1431655765), Cond.constant RJ6 266 (858993459), Cond.constant RJ6 267 (252645135), Cond.methodLink RX4 82 yX4_fillLast, Cond.instanceMethod yX4_fillLast, Cond.selects RX4 yX4_fillLast yX4_fillLast, Cond.code yX4_fillLast cX4_fillLast 8 none, Cond.methodLink RX4 93 Lib.Math.min.name, Cond.static Lib.Math.min.name, Cond.code Lib.Math.min.name Lib.Math.min.code 2 (some .int), Cond.fieldLink RX4 15 "LeafOrder$Search" "least" "[I", Cond.methodLink RX4 86 yX2_mayComeAfter, Cond.instanceMethod yX2_mayComeAfter, Cond.selects RX2 yX2_mayComeAfter yX2_mayComeAfter, Cond.code yX2_mayComeAfter cX2_mayComeAfter 3 (some .boolean), Cond.fieldLink RX2 9 "LeafOrder$Rules" "behind" "[I"]
def wsX5_two_r5 : List Cond := [Cond.fieldLink RX2 15 "LeafOrder$Rules" "rightBehind" "[I", Cond.methodLink RX4 89 yX4_leastUpTo, Cond.instanceMethod yX4_leastUpTo, Cond.selects RX4 yX4_leastUpTo yX4_leastUpTo, Cond.code yX4_leastUpTo cX4_leastUpTo 9 (some .int), Cond.methodLink RX4 60 yX4_leastOf, Cond.instanceMethod yX4_leastOf, Cond.selects RX4 yX4_leastOf yX4_leastOf, Cond.code yX4_leastOf cX4_leastOf 4 (some .int), Cond.methodLink RX4 70 yX4_trace, Cond.instanceMethod yX4_trace, Cond.selects RX4 yX4_trace yX4_trace, Cond.code yX4_trace cX4_trace 6 none, Cond.fieldLink RX4 21 "LeafOrder$Search" "order" "[I", Cond.methodLink RX4 98 yX4_pick, Cond.instanceMethod yX4_pick, Cond.selects RX4 yX4_pick yX4_pick, Cond.code yX4_pick cX4_pick 9 (some .int), Cond.methodLink RX4 101 yX4_linkCost, Cond.instanceMethod yX4_linkCost, Cond.selects RX4 yX4_linkCost yX4_linkCost, Cond.code yX4_linkCost cX4_linkCost 3 (some .int), Cond.methodLink RX5 153 yX0_part, Cond.instanceMethod yX0_part]
def wsX5_two_r6 : List Cond := [Cond.selects RX0 yX0_part yX0_part, Cond.initialized RX0, Cond.code yX0_part cX0_part 3 none, Cond.constant RX0 15 (1000000), Cond.fieldLink RX0 16 "LeafOrder$Books" "cost" "I", Cond.fieldLink RX0 20 "LeafOrder$Books" "other" "I", Cond.fieldLink RX0 9 "LeafOrder$Books" "search" "LLeafOrder$Search;", Cond.methodLink RX0 23 yX4_all, Cond.methodLink RX0 29 yX0_costOf, Cond.instanceMethod yX0_costOf, Cond.selects RX0 yX0_costOf yX0_costOf, Cond.code yX0_costOf cX0_costOf 2 (some .int), Cond.fieldLink RX0 39 "LeafOrder$Search" "setCosts" "[I", Cond.methodLink RX5 119 yX5_costOrNone, Cond.static yX5_costOrNone, Cond.code yX5_costOrNone cX5_costOrNone 1 (some .int), Cond.constant RX5 123 (1000000)]
def wsX5_two : List Cond := .code yX5_two cX5_two 1 (some .int) :: ((wsX5_two_r1 ++ (wsX5_two_r2 ++ (wsX5_two_r3 ++ (wsX5_two_r4 ++ (wsX5_two_r5 ++ wsX5_two_r6))))) ++ wsX50 ++ wsX00 ++ wsX30 ++ wsX10 ++ wsX40 ++ wsX20)
def wsX5_book_r1 : List Cond := [Cond.fieldLink RX5 12 "LeafOrder" "pile" "LLeafOrder$Leaves;", Cond.fieldLink RX5 46 "LeafOrder" "books" "LLeafOrder$Books;", Cond.fieldLink RX5 137 "LeafOrder$Books" "cost" "I", Cond.constant RX5 123 (1000000), Cond.fieldLink RX5 140 "LeafOrder$Books" "other" "I", Cond.methodLink RX5 113 yX5_refresh, Cond.instanceMethod yX5_refresh, Cond.selects RX5 yX5_refresh yX5_refresh, Cond.initialized RX5, Cond.code yX5_refresh cX5_refresh 1 none, Cond.fieldLink RX5 54 "LeafOrder" "stale" "Z", Cond.fieldLink RX5 37 "LeafOrder" "search" "LLeafOrder$Search;", Cond.fieldLink RX5 21 "LeafOrder" "scale" "LLeafOrder$Scale;", Cond.fieldLink RX5 50 "LeafOrder" "mayTurn" "Z", Cond.methodLink RX5 146 yX4_prepare, Cond.instanceMethod yX4_prepare, Cond.selects RX4 yX4_prepare yX4_prepare, Cond.initialized RX4, Cond.code yX4_prepare cX4_prepare 5 none, Cond.fieldLink RX4 28 "LeafOrder$Scale" "pile" "LLeafOrder$Leaves;", Cond.fieldLink RX4 34 "LeafOrder$Leaves" "count" "I", Cond.fieldLink RX4 40 "LeafOrder$Search" "count" "I", Cond.fieldLink RX4 41 "LeafOrder$Scale" "sizes" "[I", Cond.constant RX4 44 (1000000)]
def wsX5_book_r2 : List Cond := [Cond.fieldLink RX4 45 "LeafOrder$Search" "turnCost" "I", Cond.fieldLink RX4 9 "LeafOrder$Search" "joins" "[I", Cond.methodLink RX4 48 yX3_joinCost, Cond.instanceMethod yX3_joinCost, Cond.selects RX3 yX3_joinCost yX3_joinCost, Cond.initialized RX3, Cond.code yX3_joinCost cX3_joinCost 4 (some .int), Cond.fieldLink RX3 9 "LeafOrder$Scale" "sizes" "[I", Cond.methodLink RX3 19 yX3_fullCost, Cond.instanceMethod yX3_fullCost, Cond.selects RX3 yX3_fullCost yX3_fullCost, Cond.code yX3_fullCost cX3_fullCost 8 (some .int), Cond.fieldLink RX3 15 "LeafOrder$Scale" "pile" "LLeafOrder$Leaves;", Cond.fieldLink RX3 27 "LeafOrder$Leaves" "begins" "[I", Cond.fieldLink RX3 32 "LeafOrder$Leaves" "words" "[I", Cond.fieldLink RX3 35 "LeafOrder$Leaves" "ends" "[I", Cond.methodLink RX3 38 Lib.Math.abs.name, Cond.static Lib.Math.abs.name, Cond.initialized "java/lang/Math", Cond.code Lib.Math.abs.name Lib.Math.abs.code 1 (some .int), Cond.fieldLink RX3 44 "LeafOrder$Leaves" "cutEnds" "[I", Cond.fieldLink RX3 47 "LeafOrder$Leaves" "cutBegins" "[I", Cond.methodLink RX3 50 yX1_stainsApart, Cond.instanceMethod yX1_stainsApart]
def wsX5_book_r3 : List Cond := [Cond.selects RX1 yX1_stainsApart yX1_stainsApart, Cond.initialized RX1, Cond.code yX1_stainsApart cX1_stainsApart 5 (some .int), Cond.fieldLink RX1 27 "LeafOrder$Leaves" "stains" "[I", Cond.methodLink RX1 42 Lib.Math.abs.name, Cond.methodLink RX3 23 yX3_isOverGap, Cond.instanceMethod yX3_isOverGap, Cond.selects RX3 yX3_isOverGap yX3_isOverGap, Cond.code yX3_isOverGap cX3_isOverGap 2 (some .boolean), Cond.methodLink RX5 150 yX4_solve, Cond.instanceMethod yX4_solve, Cond.selects RX4 yX4_solve yX4_solve, Cond.code yX4_solve cX4_solve 2 none, Cond.fieldLink RX4 18 "LeafOrder$Search" "setCosts" "[I", Cond.fieldLink RX4 64 "LeafOrder$Search" "bestCost" "I", Cond.fieldLink RX4 67 "LeafOrder$Search" "nextCost" "I", Cond.methodLink RX4 52 yX4_fill, Cond.instanceMethod yX4_fill, Cond.selects RX4 yX4_fill yX4_fill, Cond.code yX4_fill cX4_fill 7 none, Cond.fieldLink RX4 24 "LeafOrder$Search" "rules" "LLeafOrder$Rules;", Cond.methodLink RX4 56 yX4_all, Cond.instanceMethod yX4_all, Cond.selects RX4 yX4_all yX4_all]
def wsX5_book_r4 : List Cond := [Cond.code yX4_all cX4_all 1 (some .int), Cond.methodLink RX4 77 yX2_neighboursOf, Cond.instanceMethod yX2_neighboursOf, Cond.selects RX2 yX2_neighboursOf yX2_neighboursOf, Cond.initialized RX2, Cond.code yX2_neighboursOf cX2_neighboursOf 4 (some .int), Cond.fieldLink RX2 18 "LeafOrder$Rules" "rightAhead" "[I", Cond.methodLink RX2 25 yJ6_bitCount_0f7a4, Cond.static yJ6_bitCount_0f7a4, Cond.initialized RJ6, Cond.code yJ6_bitCount_0f7a4 cJ6_bitCount_0f7a4 1 (some .int), Cond.constant RJ6 265 (1431655765), Cond.constant RJ6 266 (858993459), Cond.constant RJ6 267 (252645135), Cond.methodLink RX4 82 yX4_fillLast, Cond.instanceMethod yX4_fillLast, Cond.selects RX4 yX4_fillLast yX4_fillLast, Cond.code yX4_fillLast cX4_fillLast 8 none, Cond.methodLink RX4 93 Lib.Math.min.name, Cond.static Lib.Math.min.name, Cond.code Lib.Math.min.name Lib.Math.min.code 2 (some .int), Cond.fieldLink RX4 15 "LeafOrder$Search" "least" "[I", Cond.methodLink RX4 86 yX2_mayComeAfter, Cond.instanceMethod yX2_mayComeAfter]
def wsX5_book_r5 : List Cond := [Cond.selects RX2 yX2_mayComeAfter yX2_mayComeAfter, Cond.code yX2_mayComeAfter cX2_mayComeAfter 3 (some .boolean), Cond.fieldLink RX2 9 "LeafOrder$Rules" "behind" "[I", Cond.fieldLink RX2 15 "LeafOrder$Rules" "rightBehind" "[I", Cond.methodLink RX4 89 yX4_leastUpTo, Cond.instanceMethod yX4_leastUpTo, Cond.selects RX4 yX4_leastUpTo yX4_leastUpTo, Cond.code yX4_leastUpTo cX4_leastUpTo 9 (some .int), Cond.methodLink RX4 60 yX4_leastOf, Cond.instanceMethod yX4_leastOf, Cond.selects RX4 yX4_leastOf yX4_leastOf, Cond.code yX4_leastOf cX4_leastOf 4 (some .int), Cond.methodLink RX4 70 yX4_trace, Cond.instanceMethod yX4_trace, Cond.selects RX4 yX4_trace yX4_trace, Cond.code yX4_trace cX4_trace 6 none, Cond.fieldLink RX4 21 "LeafOrder$Search" "order" "[I", Cond.methodLink RX4 98 yX4_pick, Cond.instanceMethod yX4_pick, Cond.selects RX4 yX4_pick yX4_pick, Cond.code yX4_pick cX4_pick 9 (some .int), Cond.methodLink RX4 101 yX4_linkCost, Cond.instanceMethod yX4_linkCost, Cond.selects RX4 yX4_linkCost yX4_linkCost]
def wsX5_book_r6 : List Cond := [Cond.code yX4_linkCost cX4_linkCost 3 (some .int), Cond.methodLink RX5 153 yX0_part, Cond.instanceMethod yX0_part, Cond.selects RX0 yX0_part yX0_part, Cond.initialized RX0, Cond.code yX0_part cX0_part 3 none, Cond.constant RX0 15 (1000000), Cond.fieldLink RX0 16 "LeafOrder$Books" "cost" "I", Cond.fieldLink RX0 20 "LeafOrder$Books" "other" "I", Cond.fieldLink RX0 9 "LeafOrder$Books" "search" "LLeafOrder$Search;", Cond.methodLink RX0 23 yX4_all, Cond.methodLink RX0 29 yX0_costOf, Cond.instanceMethod yX0_costOf, Cond.selects RX0 yX0_costOf yX0_costOf, Cond.code yX0_costOf cX0_costOf 2 (some .int), Cond.fieldLink RX0 39 "LeafOrder$Search" "setCosts" "[I", Cond.methodLink RX5 83 yX1_has, Cond.instanceMethod yX1_has, Cond.selects RX1 yX1_has yX1_has, Cond.code yX1_has cX1_has 2 (some .boolean), Cond.fieldLink RX1 30 "LeafOrder$Leaves" "count" "I"]
def wsX5_book : List Cond := .code yX5_book cX5_book 2 (some .int) :: ((wsX5_book_r1 ++ (wsX5_book_r2 ++ (wsX5_book_r3 ++ (wsX5_book_r4 ++ (wsX5_book_r5 ++ wsX5_book_r6))))) ++ wsX50 ++ wsX00 ++ wsX30 ++ wsX10 ++ wsX40 ++ wsX20)
def wsX5_doubt_r1 : List Cond := [Cond.fieldLink RX5 12 "LeafOrder" "pile" "LLeafOrder$Leaves;", Cond.fieldLink RX5 46 "LeafOrder" "books" "LLeafOrder$Books;", Cond.fieldLink RX5 137 "LeafOrder$Books" "cost" "I", Cond.constant RX5 123 (1000000), Cond.methodLink RX5 83 yX1_has, Cond.instanceMethod yX1_has, Cond.selects RX1 yX1_has yX1_has, Cond.initialized RX1, Cond.code yX1_has cX1_has 2 (some .boolean), Cond.fieldLink RX1 30 "LeafOrder$Leaves" "count" "I", Cond.methodLink RX5 86 yX5_isWithin, Cond.static yX5_isWithin, Cond.initialized RX5, Cond.code yX5_isWithin cX5_isWithin 2 (some .boolean), Cond.methodLink RX5 113 yX5_refresh, Cond.instanceMethod yX5_refresh, Cond.selects RX5 yX5_refresh yX5_refresh, Cond.code yX5_refresh cX5_refresh 1 none, Cond.fieldLink RX5 54 "LeafOrder" "stale" "Z", Cond.fieldLink RX5 37 "LeafOrder" "search" "LLeafOrder$Search;", Cond.fieldLink RX5 21 "LeafOrder" "scale" "LLeafOrder$Scale;", Cond.fieldLink RX5 50 "LeafOrder" "mayTurn" "Z", Cond.methodLink RX5 146 yX4_prepare, Cond.instanceMethod yX4_prepare]
def wsX5_doubt_r2 : List Cond := [Cond.selects RX4 yX4_prepare yX4_prepare, Cond.initialized RX4, Cond.code yX4_prepare cX4_prepare 5 none, Cond.fieldLink RX4 28 "LeafOrder$Scale" "pile" "LLeafOrder$Leaves;", Cond.fieldLink RX4 34 "LeafOrder$Leaves" "count" "I", Cond.fieldLink RX4 40 "LeafOrder$Search" "count" "I", Cond.fieldLink RX4 41 "LeafOrder$Scale" "sizes" "[I", Cond.constant RX4 44 (1000000), Cond.fieldLink RX4 45 "LeafOrder$Search" "turnCost" "I", Cond.fieldLink RX4 9 "LeafOrder$Search" "joins" "[I", Cond.methodLink RX4 48 yX3_joinCost, Cond.instanceMethod yX3_joinCost, Cond.selects RX3 yX3_joinCost yX3_joinCost, Cond.initialized RX3, Cond.code yX3_joinCost cX3_joinCost 4 (some .int), Cond.fieldLink RX3 9 "LeafOrder$Scale" "sizes" "[I", Cond.methodLink RX3 19 yX3_fullCost, Cond.instanceMethod yX3_fullCost, Cond.selects RX3 yX3_fullCost yX3_fullCost, Cond.code yX3_fullCost cX3_fullCost 8 (some .int), Cond.fieldLink RX3 15 "LeafOrder$Scale" "pile" "LLeafOrder$Leaves;", Cond.fieldLink RX3 27 "LeafOrder$Leaves" "begins" "[I", Cond.fieldLink RX3 32 "LeafOrder$Leaves" "words" "[I", Cond.fieldLink RX3 35 "LeafOrder$Leaves" "ends" "[I"]
def wsX5_doubt_r3 : List Cond := [Cond.methodLink RX3 38 Lib.Math.abs.name, Cond.static Lib.Math.abs.name, Cond.initialized "java/lang/Math", Cond.code Lib.Math.abs.name Lib.Math.abs.code 1 (some .int), Cond.fieldLink RX3 44 "LeafOrder$Leaves" "cutEnds" "[I", Cond.fieldLink RX3 47 "LeafOrder$Leaves" "cutBegins" "[I", Cond.methodLink RX3 50 yX1_stainsApart, Cond.instanceMethod yX1_stainsApart, Cond.selects RX1 yX1_stainsApart yX1_stainsApart, Cond.code yX1_stainsApart cX1_stainsApart 5 (some .int), Cond.fieldLink RX1 27 "LeafOrder$Leaves" "stains" "[I", Cond.methodLink RX1 42 Lib.Math.abs.name, Cond.methodLink RX3 23 yX3_isOverGap, Cond.instanceMethod yX3_isOverGap, Cond.selects RX3 yX3_isOverGap yX3_isOverGap, Cond.code yX3_isOverGap cX3_isOverGap 2 (some .boolean), Cond.methodLink RX5 150 yX4_solve, Cond.instanceMethod yX4_solve, Cond.selects RX4 yX4_solve yX4_solve, Cond.code yX4_solve cX4_solve 2 none, Cond.fieldLink RX4 18 "LeafOrder$Search" "setCosts" "[I", Cond.fieldLink RX4 64 "LeafOrder$Search" "bestCost" "I", Cond.fieldLink RX4 67 "LeafOrder$Search" "nextCost" "I", Cond.methodLink RX4 52 yX4_fill]
def wsX5_doubt_r4 : List Cond := [Cond.instanceMethod yX4_fill, Cond.selects RX4 yX4_fill yX4_fill, Cond.code yX4_fill cX4_fill 7 none, Cond.fieldLink RX4 24 "LeafOrder$Search" "rules" "LLeafOrder$Rules;", Cond.methodLink RX4 56 yX4_all, Cond.instanceMethod yX4_all, Cond.selects RX4 yX4_all yX4_all, Cond.code yX4_all cX4_all 1 (some .int), Cond.methodLink RX4 77 yX2_neighboursOf, Cond.instanceMethod yX2_neighboursOf, Cond.selects RX2 yX2_neighboursOf yX2_neighboursOf, Cond.initialized RX2, Cond.code yX2_neighboursOf cX2_neighboursOf 4 (some .int), Cond.fieldLink RX2 18 "LeafOrder$Rules" "rightAhead" "[I", Cond.methodLink RX2 25 yJ6_bitCount_0f7a4, Cond.static yJ6_bitCount_0f7a4, Cond.initialized RJ6, Cond.code yJ6_bitCount_0f7a4 cJ6_bitCount_0f7a4 1 (some .int), Cond.constant RJ6 265 (1431655765), Cond.constant RJ6 266 (858993459), Cond.constant RJ6 267 (252645135), Cond.methodLink RX4 82 yX4_fillLast, Cond.instanceMethod yX4_fillLast, Cond.selects RX4 yX4_fillLast yX4_fillLast]
def wsX5_doubt_r5 : List Cond := [Cond.code yX4_fillLast cX4_fillLast 8 none, Cond.methodLink RX4 93 Lib.Math.min.name, Cond.static Lib.Math.min.name, Cond.code Lib.Math.min.name Lib.Math.min.code 2 (some .int), Cond.fieldLink RX4 15 "LeafOrder$Search" "least" "[I", Cond.methodLink RX4 86 yX2_mayComeAfter, Cond.instanceMethod yX2_mayComeAfter, Cond.selects RX2 yX2_mayComeAfter yX2_mayComeAfter, Cond.code yX2_mayComeAfter cX2_mayComeAfter 3 (some .boolean), Cond.fieldLink RX2 9 "LeafOrder$Rules" "behind" "[I", Cond.fieldLink RX2 15 "LeafOrder$Rules" "rightBehind" "[I", Cond.methodLink RX4 89 yX4_leastUpTo, Cond.instanceMethod yX4_leastUpTo, Cond.selects RX4 yX4_leastUpTo yX4_leastUpTo, Cond.code yX4_leastUpTo cX4_leastUpTo 9 (some .int), Cond.methodLink RX4 60 yX4_leastOf, Cond.instanceMethod yX4_leastOf, Cond.selects RX4 yX4_leastOf yX4_leastOf, Cond.code yX4_leastOf cX4_leastOf 4 (some .int), Cond.methodLink RX4 70 yX4_trace, Cond.instanceMethod yX4_trace, Cond.selects RX4 yX4_trace yX4_trace, Cond.code yX4_trace cX4_trace 6 none, Cond.fieldLink RX4 21 "LeafOrder$Search" "order" "[I"]
def wsX5_doubt_r6 : List Cond := [Cond.methodLink RX4 98 yX4_pick, Cond.instanceMethod yX4_pick, Cond.selects RX4 yX4_pick yX4_pick, Cond.code yX4_pick cX4_pick 9 (some .int), Cond.methodLink RX4 101 yX4_linkCost, Cond.instanceMethod yX4_linkCost, Cond.selects RX4 yX4_linkCost yX4_linkCost, Cond.code yX4_linkCost cX4_linkCost 3 (some .int), Cond.methodLink RX5 153 yX0_part, Cond.instanceMethod yX0_part, Cond.selects RX0 yX0_part yX0_part, Cond.initialized RX0, Cond.code yX0_part cX0_part 3 none, Cond.constant RX0 15 (1000000), Cond.fieldLink RX0 16 "LeafOrder$Books" "cost" "I", Cond.fieldLink RX0 20 "LeafOrder$Books" "other" "I", Cond.fieldLink RX0 9 "LeafOrder$Books" "search" "LLeafOrder$Search;", Cond.methodLink RX0 23 yX4_all, Cond.methodLink RX0 29 yX0_costOf, Cond.instanceMethod yX0_costOf, Cond.selects RX0 yX0_costOf yX0_costOf, Cond.code yX0_costOf cX0_costOf 2 (some .int), Cond.fieldLink RX0 39 "LeafOrder$Search" "setCosts" "[I", Cond.methodLink RX5 143 yX0_leastWithMoved]
def wsX5_doubt_r7 : List Cond := [Cond.instanceMethod yX0_leastWithMoved, Cond.selects RX0 yX0_leastWithMoved yX0_leastWithMoved, Cond.code yX0_leastWithMoved cX0_leastWithMoved 4 (some .int), Cond.methodLink RX0 33 Lib.Math.min.name]
def wsX5_doubt : List Cond := .code yX5_doubt cX5_doubt 3 (some .int) :: ((wsX5_doubt_r1 ++ (wsX5_doubt_r2 ++ (wsX5_doubt_r3 ++ (wsX5_doubt_r4 ++ (wsX5_doubt_r5 ++ (wsX5_doubt_r6 ++ wsX5_doubt_r7)))))) ++ wsX50 ++ wsX00 ++ wsX10 ++ wsX30 ++ wsX40 ++ wsX20)
def wsX5_about : List Cond := .code yX5_about cX5_about 2 (some .int) :: ([.fieldLink RX5 12 "LeafOrder" "pile" "LLeafOrder$Leaves;", .fieldLink RX5 61 "LeafOrder$Leaves" "count" "I", .fieldLink RX5 21 "LeafOrder" "scale" "LLeafOrder$Scale;", .fieldLink RX5 92 "LeafOrder$Scale" "sizes" "[I", .fieldLink RX5 50 "LeafOrder" "mayTurn" "Z"] ++ wsX50 ++ wsX10 ++ wsX30)
def wsX6_init : List Cond := .code yX6_init cX6_init 1 none :: ([.methodLink RX6 1 objectInit, .instanceMethod objectInit, .code objectInit ⟨#[0xb1]⟩ 1 none, .arrayClass .int, .fieldLink RX6 7 "LeafOrderModel" "begin" "[I", .fieldLink RX6 13 "LeafOrderModel" "end" "[I", .fieldLink RX6 16 "LeafOrderModel" "word" "[I", .fieldLink RX6 19 "LeafOrderModel" "cutBegin" "[I", .fieldLink RX6 22 "LeafOrderModel" "cutEnd" "[I", .fieldLink RX6 25 "LeafOrderModel" "stain" "[I", .fieldLink RX6 28 "LeafOrderModel" "weight" "[I", .fieldLink RX6 31 "LeafOrderModel" "mayTurn" "Z", .arrayClass .boolean, .fieldLink RX6 35 "LeafOrderModel" "isAhead" "[Z", .fieldLink RX6 39 "LeafOrderModel" "isJoined" "[Z", .fieldLink RX6 42 "LeafOrderModel" "least" "[I", .fieldLink RX6 45 "LeafOrderModel" "second" "[I", .fieldLink RX6 48 "LeafOrderModel" "barredA" "I", .fieldLink RX6 52 "LeafOrderModel" "barredB" "I", .fieldLink RX6 55 "LeafOrderModel" "place" "[I", .fieldLink RX6 58 "LeafOrderModel" "turned" "[I"] ++ wsX60)
def wsX6_in : List Cond := .code yX6_in cX6_in 3 (some .boolean) :: ([])
def wsX6_isLeaf : List Cond := .code yX6_isLeaf cX6_isLeaf 2 (some .boolean) :: ([.fieldLink RX6 61 "LeafOrderModel" "leaves" "I", .methodLink RX6 64 yX6_in, .static yX6_in, .initialized RX6, .code yX6_in cX6_in 3 (some .boolean)] ++ wsX60)
def wsX6_leaf : List Cond := .code yX6_leaf cX6_leaf 5 (some .int) :: ([.fieldLink RX6 61 "LeafOrderModel" "leaves" "I", .fieldLink RX6 7 "LeafOrderModel" "begin" "[I", .fieldLink RX6 13 "LeafOrderModel" "end" "[I", .fieldLink RX6 16 "LeafOrderModel" "word" "[I", .methodLink RX6 64 yX6_in, .static yX6_in, .initialized RX6, .code yX6_in cX6_in 3 (some .boolean)] ++ wsX60)
def wsX6_catchword : List Cond := .code yX6_catchword cX6_catchword 4 (some .boolean) :: ([.fieldLink RX6 16 "LeafOrderModel" "word" "[I", .methodLink RX6 68 yX6_isLeaf, .instanceMethod yX6_isLeaf, .selects RX6 yX6_isLeaf yX6_isLeaf, .initialized RX6, .code yX6_isLeaf cX6_isLeaf 2 (some .boolean), .fieldLink RX6 61 "LeafOrderModel" "leaves" "I", .methodLink RX6 64 yX6_in, .static yX6_in, .code yX6_in cX6_in 3 (some .boolean)] ++ wsX60)
def wsX6_cut : List Cond := .code yX6_cut cX6_cut 5 (some .boolean) :: ([.fieldLink RX6 19 "LeafOrderModel" "cutBegin" "[I", .fieldLink RX6 22 "LeafOrderModel" "cutEnd" "[I", .methodLink RX6 68 yX6_isLeaf, .instanceMethod yX6_isLeaf, .selects RX6 yX6_isLeaf yX6_isLeaf, .initialized RX6, .code yX6_isLeaf cX6_isLeaf 2 (some .boolean), .fieldLink RX6 61 "LeafOrderModel" "leaves" "I", .methodLink RX6 64 yX6_in, .static yX6_in, .code yX6_in cX6_in 3 (some .boolean)] ++ wsX60)
def wsX6_stain : List Cond := .code yX6_stain cX6_stain 4 (some .boolean) :: ([.fieldLink RX6 25 "LeafOrderModel" "stain" "[I", .methodLink RX6 68 yX6_isLeaf, .instanceMethod yX6_isLeaf, .selects RX6 yX6_isLeaf yX6_isLeaf, .initialized RX6, .code yX6_isLeaf cX6_isLeaf 2 (some .boolean), .fieldLink RX6 61 "LeafOrderModel" "leaves" "I", .methodLink RX6 64 yX6_in, .static yX6_in, .code yX6_in cX6_in 3 (some .boolean)] ++ wsX60)
def wsX6_weights : List Cond := .code yX6_weights cX6_weights 7 (some .boolean) :: ([.fieldLink RX6 28 "LeafOrderModel" "weight" "[I", .methodLink RX6 64 yX6_in, .static yX6_in, .initialized RX6, .code yX6_in cX6_in 3 (some .boolean)] ++ wsX60)
def wsX6_turnable : List Cond := .code yX6_turnable cX6_turnable 2 none :: ([.fieldLink RX6 31 "LeafOrderModel" "mayTurn" "Z"] ++ wsX60)
def wsX6_must : List Cond := .code yX6_must cX6_must 5 (some .boolean) :: ([.fieldLink RX6 39 "LeafOrderModel" "isJoined" "[Z", .fieldLink RX6 35 "LeafOrderModel" "isAhead" "[Z", .methodLink RX6 68 yX6_isLeaf, .instanceMethod yX6_isLeaf, .selects RX6 yX6_isLeaf yX6_isLeaf, .initialized RX6, .code yX6_isLeaf cX6_isLeaf 2 (some .boolean), .fieldLink RX6 61 "LeafOrderModel" "leaves" "I", .methodLink RX6 64 yX6_in, .static yX6_in, .code yX6_in cX6_in 3 (some .boolean)] ++ wsX60)
def wsX6_apart : List Cond := .code yX6_apart cX6_apart 2 (some .int) :: ([])
def wsX6_whole : List Cond := .code yX6_whole cX6_whole 9 (some .int) :: ([.fieldLink RX6 28 "LeafOrderModel" "weight" "[I", .fieldLink RX6 13 "LeafOrderModel" "end" "[I", .fieldLink RX6 7 "LeafOrderModel" "begin" "[I", .fieldLink RX6 16 "LeafOrderModel" "word" "[I", .fieldLink RX6 22 "LeafOrderModel" "cutEnd" "[I", .fieldLink RX6 19 "LeafOrderModel" "cutBegin" "[I", .fieldLink RX6 25 "LeafOrderModel" "stain" "[I", .methodLink RX6 72 yX6_apart, .static yX6_apart, .initialized RX6, .code yX6_apart cX6_apart 2 (some .int)] ++ wsX60)
def wsX6_isMissing : List Cond := .code yX6_isMissing cX6_isMissing 5 (some .boolean) :: ([.fieldLink RX6 28 "LeafOrderModel" "weight" "[I", .methodLink RX6 76 yX6_whole, .instanceMethod yX6_whole, .selects RX6 yX6_whole yX6_whole, .initialized RX6, .code yX6_whole cX6_whole 9 (some .int), .fieldLink RX6 13 "LeafOrderModel" "end" "[I", .fieldLink RX6 7 "LeafOrderModel" "begin" "[I", .fieldLink RX6 16 "LeafOrderModel" "word" "[I", .fieldLink RX6 22 "LeafOrderModel" "cutEnd" "[I", .fieldLink RX6 19 "LeafOrderModel" "cutBegin" "[I", .fieldLink RX6 25 "LeafOrderModel" "stain" "[I", .methodLink RX6 72 yX6_apart, .static yX6_apart, .code yX6_apart cX6_apart 2 (some .int)] ++ wsX60)
def wsX6_joins : List Cond := .code yX6_joins cX6_joins 5 (some .int) :: ([.fieldLink RX6 28 "LeafOrderModel" "weight" "[I", .methodLink RX6 80 yX6_isMissing, .instanceMethod yX6_isMissing, .selects RX6 yX6_isMissing yX6_isMissing, .initialized RX6, .code yX6_isMissing cX6_isMissing 5 (some .boolean), .methodLink RX6 76 yX6_whole, .instanceMethod yX6_whole, .selects RX6 yX6_whole yX6_whole, .code yX6_whole cX6_whole 9 (some .int), .fieldLink RX6 13 "LeafOrderModel" "end" "[I", .fieldLink RX6 7 "LeafOrderModel" "begin" "[I", .fieldLink RX6 16 "LeafOrderModel" "word" "[I", .fieldLink RX6 22 "LeafOrderModel" "cutEnd" "[I", .fieldLink RX6 19 "LeafOrderModel" "cutBegin" "[I", .fieldLink RX6 25 "LeafOrderModel" "stain" "[I", .methodLink RX6 72 yX6_apart, .static yX6_apart, .code yX6_apart cX6_apart 2 (some .int)] ++ wsX60)
def wsX6_join_r1 : List Cond := [Cond.fieldLink RX6 31 "LeafOrderModel" "mayTurn" "Z", Cond.methodLink RX6 68 yX6_isLeaf, Cond.instanceMethod yX6_isLeaf, Cond.selects RX6 yX6_isLeaf yX6_isLeaf, Cond.initialized RX6, Cond.code yX6_isLeaf cX6_isLeaf 2 (some .boolean), Cond.fieldLink RX6 61 "LeafOrderModel" "leaves" "I", Cond.methodLink RX6 64 yX6_in, Cond.static yX6_in, Cond.code yX6_in cX6_in 3 (some .boolean), Cond.methodLink RX6 84 yX6_joins, Cond.instanceMethod yX6_joins, Cond.selects RX6 yX6_joins yX6_joins, Cond.code yX6_joins cX6_joins 5 (some .int), Cond.fieldLink RX6 28 "LeafOrderModel" "weight" "[I", Cond.methodLink RX6 80 yX6_isMissing, Cond.instanceMethod yX6_isMissing, Cond.selects RX6 yX6_isMissing yX6_isMissing, Cond.code yX6_isMissing cX6_isMissing 5 (some .boolean), Cond.methodLink RX6 76 yX6_whole, Cond.instanceMethod yX6_whole, Cond.selects RX6 yX6_whole yX6_whole, Cond.code yX6_whole cX6_whole 9 (some .int), Cond.fieldLink RX6 13 "LeafOrderModel" "end" "[I"]
def wsX6_join_r2 : List Cond := [Cond.fieldLink RX6 7 "LeafOrderModel" "begin" "[I", Cond.fieldLink RX6 16 "LeafOrderModel" "word" "[I", Cond.fieldLink RX6 22 "LeafOrderModel" "cutEnd" "[I", Cond.fieldLink RX6 19 "LeafOrderModel" "cutBegin" "[I", Cond.fieldLink RX6 25 "LeafOrderModel" "stain" "[I", Cond.methodLink RX6 72 yX6_apart, Cond.static yX6_apart, Cond.code yX6_apart cX6_apart 2 (some .int)]
def wsX6_join : List Cond := .code yX6_join cX6_join 5 (some .int) :: ((wsX6_join_r1 ++ wsX6_join_r2) ++ wsX60)
def wsX6_mayFollow : List Cond := .code yX6_mayFollow cX6_mayFollow 5 (some .boolean) :: ([.fieldLink RX6 61 "LeafOrderModel" "leaves" "I", .fieldLink RX6 35 "LeafOrderModel" "isAhead" "[Z", .fieldLink RX6 39 "LeafOrderModel" "isJoined" "[Z", .fieldLink RX6 48 "LeafOrderModel" "barredA" "I", .fieldLink RX6 52 "LeafOrderModel" "barredB" "I"] ++ wsX60)
def wsX6_keeps : List Cond := .code yX6_keeps cX6_keeps 3 none :: ([.fieldLink RX6 42 "LeafOrderModel" "least" "[I", .fieldLink RX6 45 "LeafOrderModel" "second" "[I"] ++ wsX60)
def wsX6_stands : List Cond := .code yX6_stands cX6_stands 4 (some .int) :: ([])
def wsX6_goesOn_r1 : List Cond := [Cond.fieldLink RX6 61 "LeafOrderModel" "leaves" "I", Cond.fieldLink RX6 28 "LeafOrderModel" "weight" "[I", Cond.constant RX6 87 (1000000000), Cond.methodLink RX6 96 yX6_mayFollow, Cond.instanceMethod yX6_mayFollow, Cond.selects RX6 yX6_mayFollow yX6_mayFollow, Cond.initialized RX6, Cond.code yX6_mayFollow cX6_mayFollow 5 (some .boolean), Cond.fieldLink RX6 35 "LeafOrderModel" "isAhead" "[Z", Cond.fieldLink RX6 39 "LeafOrderModel" "isJoined" "[Z", Cond.fieldLink RX6 48 "LeafOrderModel" "barredA" "I", Cond.fieldLink RX6 52 "LeafOrderModel" "barredB" "I", Cond.methodLink RX6 84 yX6_joins, Cond.instanceMethod yX6_joins, Cond.selects RX6 yX6_joins yX6_joins, Cond.code yX6_joins cX6_joins 5 (some .int), Cond.methodLink RX6 80 yX6_isMissing, Cond.instanceMethod yX6_isMissing, Cond.selects RX6 yX6_isMissing yX6_isMissing, Cond.code yX6_isMissing cX6_isMissing 5 (some .boolean), Cond.methodLink RX6 76 yX6_whole, Cond.instanceMethod yX6_whole, Cond.selects RX6 yX6_whole yX6_whole, Cond.code yX6_whole cX6_whole 9 (some .int)]
def wsX6_goesOn_r2 : List Cond := [Cond.fieldLink RX6 13 "LeafOrderModel" "end" "[I", Cond.fieldLink RX6 7 "LeafOrderModel" "begin" "[I", Cond.fieldLink RX6 16 "LeafOrderModel" "word" "[I", Cond.fieldLink RX6 22 "LeafOrderModel" "cutEnd" "[I", Cond.fieldLink RX6 19 "LeafOrderModel" "cutBegin" "[I", Cond.fieldLink RX6 25 "LeafOrderModel" "stain" "[I", Cond.methodLink RX6 72 yX6_apart, Cond.static yX6_apart, Cond.code yX6_apart cX6_apart 2 (some .int), Cond.methodLink RX6 88 yX6_stands, Cond.instanceMethod yX6_stands, Cond.selects RX6 yX6_stands yX6_stands, Cond.code yX6_stands cX6_stands 4 (some .int), Cond.methodLink RX6 99 yX6_keeps, Cond.instanceMethod yX6_keeps, Cond.selects RX6 yX6_keeps yX6_keeps, Cond.code yX6_keeps cX6_keeps 3 none, Cond.fieldLink RX6 42 "LeafOrderModel" "least" "[I", Cond.fieldLink RX6 45 "LeafOrderModel" "second" "[I"]
def wsX6_goesOn : List Cond := .code yX6_goesOn cX6_goesOn 11 none :: ((wsX6_goesOn_r1 ++ wsX6_goesOn_r2) ++ wsX60)
def wsX6_orders_r1 : List Cond := [Cond.fieldLink RX6 61 "LeafOrderModel" "leaves" "I", Cond.fieldLink RX6 31 "LeafOrderModel" "mayTurn" "Z", Cond.fieldLink RX6 42 "LeafOrderModel" "least" "[I", Cond.constant RX6 87 (1000000000), Cond.fieldLink RX6 45 "LeafOrderModel" "second" "[I", Cond.fieldLink RX6 28 "LeafOrderModel" "weight" "[I", Cond.methodLink RX6 88 yX6_stands, Cond.instanceMethod yX6_stands, Cond.selects RX6 yX6_stands yX6_stands, Cond.initialized RX6, Cond.code yX6_stands cX6_stands 4 (some .int), Cond.methodLink RX6 92 yX6_goesOn, Cond.instanceMethod yX6_goesOn, Cond.selects RX6 yX6_goesOn yX6_goesOn, Cond.code yX6_goesOn cX6_goesOn 11 none, Cond.methodLink RX6 96 yX6_mayFollow, Cond.instanceMethod yX6_mayFollow, Cond.selects RX6 yX6_mayFollow yX6_mayFollow, Cond.code yX6_mayFollow cX6_mayFollow 5 (some .boolean), Cond.fieldLink RX6 35 "LeafOrderModel" "isAhead" "[Z", Cond.fieldLink RX6 39 "LeafOrderModel" "isJoined" "[Z", Cond.fieldLink RX6 48 "LeafOrderModel" "barredA" "I", Cond.fieldLink RX6 52 "LeafOrderModel" "barredB" "I", Cond.methodLink RX6 84 yX6_joins]
def wsX6_orders_r2 : List Cond := [Cond.instanceMethod yX6_joins, Cond.selects RX6 yX6_joins yX6_joins, Cond.code yX6_joins cX6_joins 5 (some .int), Cond.methodLink RX6 80 yX6_isMissing, Cond.instanceMethod yX6_isMissing, Cond.selects RX6 yX6_isMissing yX6_isMissing, Cond.code yX6_isMissing cX6_isMissing 5 (some .boolean), Cond.methodLink RX6 76 yX6_whole, Cond.instanceMethod yX6_whole, Cond.selects RX6 yX6_whole yX6_whole, Cond.code yX6_whole cX6_whole 9 (some .int), Cond.fieldLink RX6 13 "LeafOrderModel" "end" "[I", Cond.fieldLink RX6 7 "LeafOrderModel" "begin" "[I", Cond.fieldLink RX6 16 "LeafOrderModel" "word" "[I", Cond.fieldLink RX6 22 "LeafOrderModel" "cutEnd" "[I", Cond.fieldLink RX6 19 "LeafOrderModel" "cutBegin" "[I", Cond.fieldLink RX6 25 "LeafOrderModel" "stain" "[I", Cond.methodLink RX6 72 yX6_apart, Cond.static yX6_apart, Cond.code yX6_apart cX6_apart 2 (some .int), Cond.methodLink RX6 99 yX6_keeps, Cond.instanceMethod yX6_keeps, Cond.selects RX6 yX6_keeps yX6_keeps, Cond.code yX6_keeps cX6_keeps 3 none]
def wsX6_orders : List Cond := .code yX6_orders cX6_orders 7 none :: ((wsX6_orders_r1 ++ wsX6_orders_r2) ++ wsX60)
def wsX6_looks : List Cond := .code yX6_looks cX6_looks 3 none :: ([.constant RX6 87 (1000000000), .fieldLink RX6 103 "LeafOrderModel" "setLeast" "I", .fieldLink RX6 106 "LeafOrderModel" "setSecond" "I", .fieldLink RX6 42 "LeafOrderModel" "least" "[I", .fieldLink RX6 45 "LeafOrderModel" "second" "[I"] ++ wsX60)
def wsX6_told : List Cond := .code yX6_told cX6_told 2 (some .int) :: ([.constant RX6 87 (1000000000)])
def wsX6_all : List Cond := .code yX6_all cX6_all 1 (some .int) :: ([.fieldLink RX6 61 "LeafOrderModel" "leaves" "I"] ++ wsX60)
def wsX6_best_r1 : List Cond := [Cond.fieldLink RX6 103 "LeafOrderModel" "setLeast" "I", Cond.methodLink RX6 109 yX6_orders, Cond.instanceMethod yX6_orders, Cond.selects RX6 yX6_orders yX6_orders, Cond.initialized RX6, Cond.code yX6_orders cX6_orders 7 none, Cond.fieldLink RX6 61 "LeafOrderModel" "leaves" "I", Cond.fieldLink RX6 31 "LeafOrderModel" "mayTurn" "Z", Cond.fieldLink RX6 42 "LeafOrderModel" "least" "[I", Cond.constant RX6 87 (1000000000), Cond.fieldLink RX6 45 "LeafOrderModel" "second" "[I", Cond.fieldLink RX6 28 "LeafOrderModel" "weight" "[I", Cond.methodLink RX6 88 yX6_stands, Cond.instanceMethod yX6_stands, Cond.selects RX6 yX6_stands yX6_stands, Cond.code yX6_stands cX6_stands 4 (some .int), Cond.methodLink RX6 92 yX6_goesOn, Cond.instanceMethod yX6_goesOn, Cond.selects RX6 yX6_goesOn yX6_goesOn, Cond.code yX6_goesOn cX6_goesOn 11 none, Cond.methodLink RX6 96 yX6_mayFollow, Cond.instanceMethod yX6_mayFollow, Cond.selects RX6 yX6_mayFollow yX6_mayFollow, Cond.code yX6_mayFollow cX6_mayFollow 5 (some .boolean)]
def wsX6_best_r2 : List Cond := [Cond.fieldLink RX6 35 "LeafOrderModel" "isAhead" "[Z", Cond.fieldLink RX6 39 "LeafOrderModel" "isJoined" "[Z", Cond.fieldLink RX6 48 "LeafOrderModel" "barredA" "I", Cond.fieldLink RX6 52 "LeafOrderModel" "barredB" "I", Cond.methodLink RX6 84 yX6_joins, Cond.instanceMethod yX6_joins, Cond.selects RX6 yX6_joins yX6_joins, Cond.code yX6_joins cX6_joins 5 (some .int), Cond.methodLink RX6 80 yX6_isMissing, Cond.instanceMethod yX6_isMissing, Cond.selects RX6 yX6_isMissing yX6_isMissing, Cond.code yX6_isMissing cX6_isMissing 5 (some .boolean), Cond.methodLink RX6 76 yX6_whole, Cond.instanceMethod yX6_whole, Cond.selects RX6 yX6_whole yX6_whole, Cond.code yX6_whole cX6_whole 9 (some .int), Cond.fieldLink RX6 13 "LeafOrderModel" "end" "[I", Cond.fieldLink RX6 7 "LeafOrderModel" "begin" "[I", Cond.fieldLink RX6 16 "LeafOrderModel" "word" "[I", Cond.fieldLink RX6 22 "LeafOrderModel" "cutEnd" "[I", Cond.fieldLink RX6 19 "LeafOrderModel" "cutBegin" "[I", Cond.fieldLink RX6 25 "LeafOrderModel" "stain" "[I", Cond.methodLink RX6 72 yX6_apart, Cond.static yX6_apart]
def wsX6_best_r3 : List Cond := [Cond.code yX6_apart cX6_apart 2 (some .int), Cond.methodLink RX6 99 yX6_keeps, Cond.instanceMethod yX6_keeps, Cond.selects RX6 yX6_keeps yX6_keeps, Cond.code yX6_keeps cX6_keeps 3 none, Cond.methodLink RX6 112 yX6_all, Cond.instanceMethod yX6_all, Cond.selects RX6 yX6_all yX6_all, Cond.code yX6_all cX6_all 1 (some .int), Cond.methodLink RX6 116 yX6_looks, Cond.instanceMethod yX6_looks, Cond.selects RX6 yX6_looks yX6_looks, Cond.code yX6_looks cX6_looks 3 none, Cond.fieldLink RX6 106 "LeafOrderModel" "setSecond" "I", Cond.methodLink RX6 120 yX6_told, Cond.instanceMethod yX6_told, Cond.selects RX6 yX6_told yX6_told, Cond.code yX6_told cX6_told 2 (some .int)]
def wsX6_best : List Cond := .code yX6_best cX6_best 1 (some .int) :: ((wsX6_best_r1 ++ (wsX6_best_r2 ++ wsX6_best_r3)) ++ wsX60)
def wsX6_reads_r1 : List Cond := [Cond.fieldLink RX6 61 "LeafOrderModel" "leaves" "I", Cond.fieldLink RX6 42 "LeafOrderModel" "least" "[I", Cond.constant RX6 87 (1000000000), Cond.fieldLink RX6 58 "LeafOrderModel" "turned" "[I", Cond.fieldLink RX6 28 "LeafOrderModel" "weight" "[I", Cond.fieldLink RX6 55 "LeafOrderModel" "place" "[I", Cond.methodLink RX6 124 yX6_best, Cond.instanceMethod yX6_best, Cond.selects RX6 yX6_best yX6_best, Cond.initialized RX6, Cond.code yX6_best cX6_best 1 (some .int), Cond.fieldLink RX6 103 "LeafOrderModel" "setLeast" "I", Cond.methodLink RX6 109 yX6_orders, Cond.instanceMethod yX6_orders, Cond.selects RX6 yX6_orders yX6_orders, Cond.code yX6_orders cX6_orders 7 none, Cond.fieldLink RX6 31 "LeafOrderModel" "mayTurn" "Z", Cond.fieldLink RX6 45 "LeafOrderModel" "second" "[I", Cond.methodLink RX6 88 yX6_stands, Cond.instanceMethod yX6_stands, Cond.selects RX6 yX6_stands yX6_stands, Cond.code yX6_stands cX6_stands 4 (some .int), Cond.methodLink RX6 92 yX6_goesOn, Cond.instanceMethod yX6_goesOn]
def wsX6_reads_r2 : List Cond := [Cond.selects RX6 yX6_goesOn yX6_goesOn, Cond.code yX6_goesOn cX6_goesOn 11 none, Cond.methodLink RX6 96 yX6_mayFollow, Cond.instanceMethod yX6_mayFollow, Cond.selects RX6 yX6_mayFollow yX6_mayFollow, Cond.code yX6_mayFollow cX6_mayFollow 5 (some .boolean), Cond.fieldLink RX6 35 "LeafOrderModel" "isAhead" "[Z", Cond.fieldLink RX6 39 "LeafOrderModel" "isJoined" "[Z", Cond.fieldLink RX6 48 "LeafOrderModel" "barredA" "I", Cond.fieldLink RX6 52 "LeafOrderModel" "barredB" "I", Cond.methodLink RX6 84 yX6_joins, Cond.instanceMethod yX6_joins, Cond.selects RX6 yX6_joins yX6_joins, Cond.code yX6_joins cX6_joins 5 (some .int), Cond.methodLink RX6 80 yX6_isMissing, Cond.instanceMethod yX6_isMissing, Cond.selects RX6 yX6_isMissing yX6_isMissing, Cond.code yX6_isMissing cX6_isMissing 5 (some .boolean), Cond.methodLink RX6 76 yX6_whole, Cond.instanceMethod yX6_whole, Cond.selects RX6 yX6_whole yX6_whole, Cond.code yX6_whole cX6_whole 9 (some .int), Cond.fieldLink RX6 13 "LeafOrderModel" "end" "[I", Cond.fieldLink RX6 7 "LeafOrderModel" "begin" "[I"]
def wsX6_reads_r3 : List Cond := [Cond.fieldLink RX6 16 "LeafOrderModel" "word" "[I", Cond.fieldLink RX6 22 "LeafOrderModel" "cutEnd" "[I", Cond.fieldLink RX6 19 "LeafOrderModel" "cutBegin" "[I", Cond.fieldLink RX6 25 "LeafOrderModel" "stain" "[I", Cond.methodLink RX6 72 yX6_apart, Cond.static yX6_apart, Cond.code yX6_apart cX6_apart 2 (some .int), Cond.methodLink RX6 99 yX6_keeps, Cond.instanceMethod yX6_keeps, Cond.selects RX6 yX6_keeps yX6_keeps, Cond.code yX6_keeps cX6_keeps 3 none, Cond.methodLink RX6 112 yX6_all, Cond.instanceMethod yX6_all, Cond.selects RX6 yX6_all yX6_all, Cond.code yX6_all cX6_all 1 (some .int), Cond.methodLink RX6 116 yX6_looks, Cond.instanceMethod yX6_looks, Cond.selects RX6 yX6_looks yX6_looks, Cond.code yX6_looks cX6_looks 3 none, Cond.fieldLink RX6 106 "LeafOrderModel" "setSecond" "I", Cond.methodLink RX6 120 yX6_told, Cond.instanceMethod yX6_told, Cond.selects RX6 yX6_told yX6_told, Cond.code yX6_told cX6_told 2 (some .int)]
def wsX6_reads : List Cond := .code yX6_reads cX6_reads 9 (some .boolean) :: ((wsX6_reads_r1 ++ (wsX6_reads_r2 ++ wsX6_reads_r3)) ++ wsX60)
def wsX6_at_r1 : List Cond := [Cond.fieldLink RX6 61 "LeafOrderModel" "leaves" "I", Cond.fieldLink RX6 55 "LeafOrderModel" "place" "[I", Cond.fieldLink RX6 58 "LeafOrderModel" "turned" "[I", Cond.methodLink RX6 64 yX6_in, Cond.static yX6_in, Cond.initialized RX6, Cond.code yX6_in cX6_in 3 (some .boolean), Cond.methodLink RX6 127 yX6_reads, Cond.instanceMethod yX6_reads, Cond.selects RX6 yX6_reads yX6_reads, Cond.code yX6_reads cX6_reads 9 (some .boolean), Cond.fieldLink RX6 42 "LeafOrderModel" "least" "[I", Cond.constant RX6 87 (1000000000), Cond.fieldLink RX6 28 "LeafOrderModel" "weight" "[I", Cond.methodLink RX6 124 yX6_best, Cond.instanceMethod yX6_best, Cond.selects RX6 yX6_best yX6_best, Cond.code yX6_best cX6_best 1 (some .int), Cond.fieldLink RX6 103 "LeafOrderModel" "setLeast" "I", Cond.methodLink RX6 109 yX6_orders, Cond.instanceMethod yX6_orders, Cond.selects RX6 yX6_orders yX6_orders, Cond.code yX6_orders cX6_orders 7 none, Cond.fieldLink RX6 31 "LeafOrderModel" "mayTurn" "Z"]
def wsX6_at_r2 : List Cond := [Cond.fieldLink RX6 45 "LeafOrderModel" "second" "[I", Cond.methodLink RX6 88 yX6_stands, Cond.instanceMethod yX6_stands, Cond.selects RX6 yX6_stands yX6_stands, Cond.code yX6_stands cX6_stands 4 (some .int), Cond.methodLink RX6 92 yX6_goesOn, Cond.instanceMethod yX6_goesOn, Cond.selects RX6 yX6_goesOn yX6_goesOn, Cond.code yX6_goesOn cX6_goesOn 11 none, Cond.methodLink RX6 96 yX6_mayFollow, Cond.instanceMethod yX6_mayFollow, Cond.selects RX6 yX6_mayFollow yX6_mayFollow, Cond.code yX6_mayFollow cX6_mayFollow 5 (some .boolean), Cond.fieldLink RX6 35 "LeafOrderModel" "isAhead" "[Z", Cond.fieldLink RX6 39 "LeafOrderModel" "isJoined" "[Z", Cond.fieldLink RX6 48 "LeafOrderModel" "barredA" "I", Cond.fieldLink RX6 52 "LeafOrderModel" "barredB" "I", Cond.methodLink RX6 84 yX6_joins, Cond.instanceMethod yX6_joins, Cond.selects RX6 yX6_joins yX6_joins, Cond.code yX6_joins cX6_joins 5 (some .int), Cond.methodLink RX6 80 yX6_isMissing, Cond.instanceMethod yX6_isMissing, Cond.selects RX6 yX6_isMissing yX6_isMissing]
def wsX6_at_r3 : List Cond := [Cond.code yX6_isMissing cX6_isMissing 5 (some .boolean), Cond.methodLink RX6 76 yX6_whole, Cond.instanceMethod yX6_whole, Cond.selects RX6 yX6_whole yX6_whole, Cond.code yX6_whole cX6_whole 9 (some .int), Cond.fieldLink RX6 13 "LeafOrderModel" "end" "[I", Cond.fieldLink RX6 7 "LeafOrderModel" "begin" "[I", Cond.fieldLink RX6 16 "LeafOrderModel" "word" "[I", Cond.fieldLink RX6 22 "LeafOrderModel" "cutEnd" "[I", Cond.fieldLink RX6 19 "LeafOrderModel" "cutBegin" "[I", Cond.fieldLink RX6 25 "LeafOrderModel" "stain" "[I", Cond.methodLink RX6 72 yX6_apart, Cond.static yX6_apart, Cond.code yX6_apart cX6_apart 2 (some .int), Cond.methodLink RX6 99 yX6_keeps, Cond.instanceMethod yX6_keeps, Cond.selects RX6 yX6_keeps yX6_keeps, Cond.code yX6_keeps cX6_keeps 3 none, Cond.methodLink RX6 112 yX6_all, Cond.instanceMethod yX6_all, Cond.selects RX6 yX6_all yX6_all, Cond.code yX6_all cX6_all 1 (some .int), Cond.methodLink RX6 116 yX6_looks, Cond.instanceMethod yX6_looks]
def wsX6_at_r4 : List Cond := [Cond.selects RX6 yX6_looks yX6_looks, Cond.code yX6_looks cX6_looks 3 none, Cond.fieldLink RX6 106 "LeafOrderModel" "setSecond" "I", Cond.methodLink RX6 120 yX6_told, Cond.instanceMethod yX6_told, Cond.selects RX6 yX6_told yX6_told, Cond.code yX6_told cX6_told 2 (some .int)]
def wsX6_at : List Cond := .code yX6_at cX6_at 3 (some .int) :: ((wsX6_at_r1 ++ (wsX6_at_r2 ++ (wsX6_at_r3 ++ wsX6_at_r4))) ++ wsX60)
def wsX6_next_r1 : List Cond := [Cond.fieldLink RX6 106 "LeafOrderModel" "setSecond" "I", Cond.methodLink RX6 109 yX6_orders, Cond.instanceMethod yX6_orders, Cond.selects RX6 yX6_orders yX6_orders, Cond.initialized RX6, Cond.code yX6_orders cX6_orders 7 none, Cond.fieldLink RX6 61 "LeafOrderModel" "leaves" "I", Cond.fieldLink RX6 31 "LeafOrderModel" "mayTurn" "Z", Cond.fieldLink RX6 42 "LeafOrderModel" "least" "[I", Cond.constant RX6 87 (1000000000), Cond.fieldLink RX6 45 "LeafOrderModel" "second" "[I", Cond.fieldLink RX6 28 "LeafOrderModel" "weight" "[I", Cond.methodLink RX6 88 yX6_stands, Cond.instanceMethod yX6_stands, Cond.selects RX6 yX6_stands yX6_stands, Cond.code yX6_stands cX6_stands 4 (some .int), Cond.methodLink RX6 92 yX6_goesOn, Cond.instanceMethod yX6_goesOn, Cond.selects RX6 yX6_goesOn yX6_goesOn, Cond.code yX6_goesOn cX6_goesOn 11 none, Cond.methodLink RX6 96 yX6_mayFollow, Cond.instanceMethod yX6_mayFollow, Cond.selects RX6 yX6_mayFollow yX6_mayFollow, Cond.code yX6_mayFollow cX6_mayFollow 5 (some .boolean)]
def wsX6_next_r2 : List Cond := [Cond.fieldLink RX6 35 "LeafOrderModel" "isAhead" "[Z", Cond.fieldLink RX6 39 "LeafOrderModel" "isJoined" "[Z", Cond.fieldLink RX6 48 "LeafOrderModel" "barredA" "I", Cond.fieldLink RX6 52 "LeafOrderModel" "barredB" "I", Cond.methodLink RX6 84 yX6_joins, Cond.instanceMethod yX6_joins, Cond.selects RX6 yX6_joins yX6_joins, Cond.code yX6_joins cX6_joins 5 (some .int), Cond.methodLink RX6 80 yX6_isMissing, Cond.instanceMethod yX6_isMissing, Cond.selects RX6 yX6_isMissing yX6_isMissing, Cond.code yX6_isMissing cX6_isMissing 5 (some .boolean), Cond.methodLink RX6 76 yX6_whole, Cond.instanceMethod yX6_whole, Cond.selects RX6 yX6_whole yX6_whole, Cond.code yX6_whole cX6_whole 9 (some .int), Cond.fieldLink RX6 13 "LeafOrderModel" "end" "[I", Cond.fieldLink RX6 7 "LeafOrderModel" "begin" "[I", Cond.fieldLink RX6 16 "LeafOrderModel" "word" "[I", Cond.fieldLink RX6 22 "LeafOrderModel" "cutEnd" "[I", Cond.fieldLink RX6 19 "LeafOrderModel" "cutBegin" "[I", Cond.fieldLink RX6 25 "LeafOrderModel" "stain" "[I", Cond.methodLink RX6 72 yX6_apart, Cond.static yX6_apart]
def wsX6_next_r3 : List Cond := [Cond.code yX6_apart cX6_apart 2 (some .int), Cond.methodLink RX6 99 yX6_keeps, Cond.instanceMethod yX6_keeps, Cond.selects RX6 yX6_keeps yX6_keeps, Cond.code yX6_keeps cX6_keeps 3 none, Cond.methodLink RX6 112 yX6_all, Cond.instanceMethod yX6_all, Cond.selects RX6 yX6_all yX6_all, Cond.code yX6_all cX6_all 1 (some .int), Cond.methodLink RX6 116 yX6_looks, Cond.instanceMethod yX6_looks, Cond.selects RX6 yX6_looks yX6_looks, Cond.code yX6_looks cX6_looks 3 none, Cond.fieldLink RX6 103 "LeafOrderModel" "setLeast" "I", Cond.methodLink RX6 120 yX6_told, Cond.instanceMethod yX6_told, Cond.selects RX6 yX6_told yX6_told, Cond.code yX6_told cX6_told 2 (some .int)]
def wsX6_next : List Cond := .code yX6_next cX6_next 1 (some .int) :: ((wsX6_next_r1 ++ (wsX6_next_r2 ++ wsX6_next_r3)) ++ wsX60)
def wsX6_sure_r1 : List Cond := [Cond.fieldLink RX6 48 "LeafOrderModel" "barredA" "I", Cond.fieldLink RX6 52 "LeafOrderModel" "barredB" "I", Cond.methodLink RX6 68 yX6_isLeaf, Cond.instanceMethod yX6_isLeaf, Cond.selects RX6 yX6_isLeaf yX6_isLeaf, Cond.initialized RX6, Cond.code yX6_isLeaf cX6_isLeaf 2 (some .boolean), Cond.fieldLink RX6 61 "LeafOrderModel" "leaves" "I", Cond.methodLink RX6 64 yX6_in, Cond.static yX6_in, Cond.code yX6_in cX6_in 3 (some .boolean), Cond.methodLink RX6 124 yX6_best, Cond.instanceMethod yX6_best, Cond.selects RX6 yX6_best yX6_best, Cond.code yX6_best cX6_best 1 (some .int), Cond.fieldLink RX6 103 "LeafOrderModel" "setLeast" "I", Cond.methodLink RX6 109 yX6_orders, Cond.instanceMethod yX6_orders, Cond.selects RX6 yX6_orders yX6_orders, Cond.code yX6_orders cX6_orders 7 none, Cond.fieldLink RX6 31 "LeafOrderModel" "mayTurn" "Z", Cond.fieldLink RX6 42 "LeafOrderModel" "least" "[I", Cond.constant RX6 87 (1000000000), Cond.fieldLink RX6 45 "LeafOrderModel" "second" "[I"]
def wsX6_sure_r2 : List Cond := [Cond.fieldLink RX6 28 "LeafOrderModel" "weight" "[I", Cond.methodLink RX6 88 yX6_stands, Cond.instanceMethod yX6_stands, Cond.selects RX6 yX6_stands yX6_stands, Cond.code yX6_stands cX6_stands 4 (some .int), Cond.methodLink RX6 92 yX6_goesOn, Cond.instanceMethod yX6_goesOn, Cond.selects RX6 yX6_goesOn yX6_goesOn, Cond.code yX6_goesOn cX6_goesOn 11 none, Cond.methodLink RX6 96 yX6_mayFollow, Cond.instanceMethod yX6_mayFollow, Cond.selects RX6 yX6_mayFollow yX6_mayFollow, Cond.code yX6_mayFollow cX6_mayFollow 5 (some .boolean), Cond.fieldLink RX6 35 "LeafOrderModel" "isAhead" "[Z", Cond.fieldLink RX6 39 "LeafOrderModel" "isJoined" "[Z", Cond.methodLink RX6 84 yX6_joins, Cond.instanceMethod yX6_joins, Cond.selects RX6 yX6_joins yX6_joins, Cond.code yX6_joins cX6_joins 5 (some .int), Cond.methodLink RX6 80 yX6_isMissing, Cond.instanceMethod yX6_isMissing, Cond.selects RX6 yX6_isMissing yX6_isMissing, Cond.code yX6_isMissing cX6_isMissing 5 (some .boolean), Cond.methodLink RX6 76 yX6_whole]
def wsX6_sure_r3 : List Cond := [Cond.instanceMethod yX6_whole, Cond.selects RX6 yX6_whole yX6_whole, Cond.code yX6_whole cX6_whole 9 (some .int), Cond.fieldLink RX6 13 "LeafOrderModel" "end" "[I", Cond.fieldLink RX6 7 "LeafOrderModel" "begin" "[I", Cond.fieldLink RX6 16 "LeafOrderModel" "word" "[I", Cond.fieldLink RX6 22 "LeafOrderModel" "cutEnd" "[I", Cond.fieldLink RX6 19 "LeafOrderModel" "cutBegin" "[I", Cond.fieldLink RX6 25 "LeafOrderModel" "stain" "[I", Cond.methodLink RX6 72 yX6_apart, Cond.static yX6_apart, Cond.code yX6_apart cX6_apart 2 (some .int), Cond.methodLink RX6 99 yX6_keeps, Cond.instanceMethod yX6_keeps, Cond.selects RX6 yX6_keeps yX6_keeps, Cond.code yX6_keeps cX6_keeps 3 none, Cond.methodLink RX6 112 yX6_all, Cond.instanceMethod yX6_all, Cond.selects RX6 yX6_all yX6_all, Cond.code yX6_all cX6_all 1 (some .int), Cond.methodLink RX6 116 yX6_looks, Cond.instanceMethod yX6_looks, Cond.selects RX6 yX6_looks yX6_looks, Cond.code yX6_looks cX6_looks 3 none]
def wsX6_sure_r4 : List Cond := [Cond.fieldLink RX6 106 "LeafOrderModel" "setSecond" "I", Cond.methodLink RX6 120 yX6_told, Cond.instanceMethod yX6_told, Cond.selects RX6 yX6_told yX6_told, Cond.code yX6_told cX6_told 2 (some .int)]
def wsX6_sure : List Cond := .code yX6_sure cX6_sure 6 (some .int) :: ((wsX6_sure_r1 ++ (wsX6_sure_r2 ++ (wsX6_sure_r3 ++ wsX6_sure_r4))) ++ wsX60)
def wsX6_parts : List Cond := .code yX6_parts cX6_parts 6 (some .int) :: ([.constant RX6 87 (1000000000), .fieldLink RX6 103 "LeafOrderModel" "setLeast" "I", .fieldLink RX6 131 "LeafOrderModel" "parted" "I", .methodLink RX6 112 yX6_all, .instanceMethod yX6_all, .selects RX6 yX6_all yX6_all, .initialized RX6, .code yX6_all cX6_all 1 (some .int), .fieldLink RX6 61 "LeafOrderModel" "leaves" "I", .methodLink RX6 116 yX6_looks, .instanceMethod yX6_looks, .selects RX6 yX6_looks yX6_looks, .code yX6_looks cX6_looks 3 none, .fieldLink RX6 106 "LeafOrderModel" "setSecond" "I", .fieldLink RX6 42 "LeafOrderModel" "least" "[I", .fieldLink RX6 45 "LeafOrderModel" "second" "[I"] ++ wsX60)
def wsX6_two_r1 : List Cond := [Cond.fieldLink RX6 61 "LeafOrderModel" "leaves" "I", Cond.methodLink RX6 109 yX6_orders, Cond.instanceMethod yX6_orders, Cond.selects RX6 yX6_orders yX6_orders, Cond.initialized RX6, Cond.code yX6_orders cX6_orders 7 none, Cond.fieldLink RX6 31 "LeafOrderModel" "mayTurn" "Z", Cond.fieldLink RX6 42 "LeafOrderModel" "least" "[I", Cond.constant RX6 87 (1000000000), Cond.fieldLink RX6 45 "LeafOrderModel" "second" "[I", Cond.fieldLink RX6 28 "LeafOrderModel" "weight" "[I", Cond.methodLink RX6 88 yX6_stands, Cond.instanceMethod yX6_stands, Cond.selects RX6 yX6_stands yX6_stands, Cond.code yX6_stands cX6_stands 4 (some .int), Cond.methodLink RX6 92 yX6_goesOn, Cond.instanceMethod yX6_goesOn, Cond.selects RX6 yX6_goesOn yX6_goesOn, Cond.code yX6_goesOn cX6_goesOn 11 none, Cond.methodLink RX6 96 yX6_mayFollow, Cond.instanceMethod yX6_mayFollow, Cond.selects RX6 yX6_mayFollow yX6_mayFollow, Cond.code yX6_mayFollow cX6_mayFollow 5 (some .boolean), Cond.fieldLink RX6 35 "LeafOrderModel" "isAhead" "[Z"]
def wsX6_two_r2 : List Cond := [Cond.fieldLink RX6 39 "LeafOrderModel" "isJoined" "[Z", Cond.fieldLink RX6 48 "LeafOrderModel" "barredA" "I", Cond.fieldLink RX6 52 "LeafOrderModel" "barredB" "I", Cond.methodLink RX6 84 yX6_joins, Cond.instanceMethod yX6_joins, Cond.selects RX6 yX6_joins yX6_joins, Cond.code yX6_joins cX6_joins 5 (some .int), Cond.methodLink RX6 80 yX6_isMissing, Cond.instanceMethod yX6_isMissing, Cond.selects RX6 yX6_isMissing yX6_isMissing, Cond.code yX6_isMissing cX6_isMissing 5 (some .boolean), Cond.methodLink RX6 76 yX6_whole, Cond.instanceMethod yX6_whole, Cond.selects RX6 yX6_whole yX6_whole, Cond.code yX6_whole cX6_whole 9 (some .int), Cond.fieldLink RX6 13 "LeafOrderModel" "end" "[I", Cond.fieldLink RX6 7 "LeafOrderModel" "begin" "[I", Cond.fieldLink RX6 16 "LeafOrderModel" "word" "[I", Cond.fieldLink RX6 22 "LeafOrderModel" "cutEnd" "[I", Cond.fieldLink RX6 19 "LeafOrderModel" "cutBegin" "[I", Cond.fieldLink RX6 25 "LeafOrderModel" "stain" "[I", Cond.methodLink RX6 72 yX6_apart, Cond.static yX6_apart, Cond.code yX6_apart cX6_apart 2 (some .int)]
def wsX6_two_r3 : List Cond := [Cond.methodLink RX6 99 yX6_keeps, Cond.instanceMethod yX6_keeps, Cond.selects RX6 yX6_keeps yX6_keeps, Cond.code yX6_keeps cX6_keeps 3 none, Cond.methodLink RX6 134 yX6_parts, Cond.instanceMethod yX6_parts, Cond.selects RX6 yX6_parts yX6_parts, Cond.code yX6_parts cX6_parts 6 (some .int), Cond.fieldLink RX6 103 "LeafOrderModel" "setLeast" "I", Cond.fieldLink RX6 131 "LeafOrderModel" "parted" "I", Cond.methodLink RX6 112 yX6_all, Cond.instanceMethod yX6_all, Cond.selects RX6 yX6_all yX6_all, Cond.code yX6_all cX6_all 1 (some .int), Cond.methodLink RX6 116 yX6_looks, Cond.instanceMethod yX6_looks, Cond.selects RX6 yX6_looks yX6_looks, Cond.code yX6_looks cX6_looks 3 none, Cond.fieldLink RX6 106 "LeafOrderModel" "setSecond" "I", Cond.methodLink RX6 120 yX6_told, Cond.instanceMethod yX6_told, Cond.selects RX6 yX6_told yX6_told, Cond.code yX6_told cX6_told 2 (some .int)]
def wsX6_two : List Cond := .code yX6_two cX6_two 1 (some .int) :: ((wsX6_two_r1 ++ (wsX6_two_r2 ++ wsX6_two_r3)) ++ wsX60)
def wsX6_book_r1 : List Cond := [Cond.fieldLink RX6 131 "LeafOrderModel" "parted" "I", Cond.methodLink RX6 68 yX6_isLeaf, Cond.instanceMethod yX6_isLeaf, Cond.selects RX6 yX6_isLeaf yX6_isLeaf, Cond.initialized RX6, Cond.code yX6_isLeaf cX6_isLeaf 2 (some .boolean), Cond.fieldLink RX6 61 "LeafOrderModel" "leaves" "I", Cond.methodLink RX6 64 yX6_in, Cond.static yX6_in, Cond.code yX6_in cX6_in 3 (some .boolean), Cond.methodLink RX6 137 yX6_two, Cond.instanceMethod yX6_two, Cond.selects RX6 yX6_two yX6_two, Cond.code yX6_two cX6_two 1 (some .int), Cond.methodLink RX6 109 yX6_orders, Cond.instanceMethod yX6_orders, Cond.selects RX6 yX6_orders yX6_orders, Cond.code yX6_orders cX6_orders 7 none, Cond.fieldLink RX6 31 "LeafOrderModel" "mayTurn" "Z", Cond.fieldLink RX6 42 "LeafOrderModel" "least" "[I", Cond.constant RX6 87 (1000000000), Cond.fieldLink RX6 45 "LeafOrderModel" "second" "[I", Cond.fieldLink RX6 28 "LeafOrderModel" "weight" "[I", Cond.methodLink RX6 88 yX6_stands]
def wsX6_book_r2 : List Cond := [Cond.instanceMethod yX6_stands, Cond.selects RX6 yX6_stands yX6_stands, Cond.code yX6_stands cX6_stands 4 (some .int), Cond.methodLink RX6 92 yX6_goesOn, Cond.instanceMethod yX6_goesOn, Cond.selects RX6 yX6_goesOn yX6_goesOn, Cond.code yX6_goesOn cX6_goesOn 11 none, Cond.methodLink RX6 96 yX6_mayFollow, Cond.instanceMethod yX6_mayFollow, Cond.selects RX6 yX6_mayFollow yX6_mayFollow, Cond.code yX6_mayFollow cX6_mayFollow 5 (some .boolean), Cond.fieldLink RX6 35 "LeafOrderModel" "isAhead" "[Z", Cond.fieldLink RX6 39 "LeafOrderModel" "isJoined" "[Z", Cond.fieldLink RX6 48 "LeafOrderModel" "barredA" "I", Cond.fieldLink RX6 52 "LeafOrderModel" "barredB" "I", Cond.methodLink RX6 84 yX6_joins, Cond.instanceMethod yX6_joins, Cond.selects RX6 yX6_joins yX6_joins, Cond.code yX6_joins cX6_joins 5 (some .int), Cond.methodLink RX6 80 yX6_isMissing, Cond.instanceMethod yX6_isMissing, Cond.selects RX6 yX6_isMissing yX6_isMissing, Cond.code yX6_isMissing cX6_isMissing 5 (some .boolean), Cond.methodLink RX6 76 yX6_whole]
def wsX6_book_r3 : List Cond := [Cond.instanceMethod yX6_whole, Cond.selects RX6 yX6_whole yX6_whole, Cond.code yX6_whole cX6_whole 9 (some .int), Cond.fieldLink RX6 13 "LeafOrderModel" "end" "[I", Cond.fieldLink RX6 7 "LeafOrderModel" "begin" "[I", Cond.fieldLink RX6 16 "LeafOrderModel" "word" "[I", Cond.fieldLink RX6 22 "LeafOrderModel" "cutEnd" "[I", Cond.fieldLink RX6 19 "LeafOrderModel" "cutBegin" "[I", Cond.fieldLink RX6 25 "LeafOrderModel" "stain" "[I", Cond.methodLink RX6 72 yX6_apart, Cond.static yX6_apart, Cond.code yX6_apart cX6_apart 2 (some .int), Cond.methodLink RX6 99 yX6_keeps, Cond.instanceMethod yX6_keeps, Cond.selects RX6 yX6_keeps yX6_keeps, Cond.code yX6_keeps cX6_keeps 3 none, Cond.methodLink RX6 134 yX6_parts, Cond.instanceMethod yX6_parts, Cond.selects RX6 yX6_parts yX6_parts, Cond.code yX6_parts cX6_parts 6 (some .int), Cond.fieldLink RX6 103 "LeafOrderModel" "setLeast" "I", Cond.methodLink RX6 112 yX6_all, Cond.instanceMethod yX6_all, Cond.selects RX6 yX6_all yX6_all]
def wsX6_book_r4 : List Cond := [Cond.code yX6_all cX6_all 1 (some .int), Cond.methodLink RX6 116 yX6_looks, Cond.instanceMethod yX6_looks, Cond.selects RX6 yX6_looks yX6_looks, Cond.code yX6_looks cX6_looks 3 none, Cond.fieldLink RX6 106 "LeafOrderModel" "setSecond" "I", Cond.methodLink RX6 120 yX6_told, Cond.instanceMethod yX6_told, Cond.selects RX6 yX6_told yX6_told, Cond.code yX6_told cX6_told 2 (some .int)]
def wsX6_book : List Cond := .code yX6_book cX6_book 2 (some .int) :: ((wsX6_book_r1 ++ (wsX6_book_r2 ++ (wsX6_book_r3 ++ wsX6_book_r4))) ++ wsX60)
def wsX6_doubt_r1 : List Cond := [Cond.fieldLink RX6 131 "LeafOrderModel" "parted" "I", Cond.methodLink RX6 68 yX6_isLeaf, Cond.instanceMethod yX6_isLeaf, Cond.selects RX6 yX6_isLeaf yX6_isLeaf, Cond.initialized RX6, Cond.code yX6_isLeaf cX6_isLeaf 2 (some .boolean), Cond.fieldLink RX6 61 "LeafOrderModel" "leaves" "I", Cond.methodLink RX6 64 yX6_in, Cond.static yX6_in, Cond.code yX6_in cX6_in 3 (some .boolean), Cond.methodLink RX6 137 yX6_two, Cond.instanceMethod yX6_two, Cond.selects RX6 yX6_two yX6_two, Cond.code yX6_two cX6_two 1 (some .int), Cond.methodLink RX6 109 yX6_orders, Cond.instanceMethod yX6_orders, Cond.selects RX6 yX6_orders yX6_orders, Cond.code yX6_orders cX6_orders 7 none, Cond.fieldLink RX6 31 "LeafOrderModel" "mayTurn" "Z", Cond.fieldLink RX6 42 "LeafOrderModel" "least" "[I", Cond.constant RX6 87 (1000000000), Cond.fieldLink RX6 45 "LeafOrderModel" "second" "[I", Cond.fieldLink RX6 28 "LeafOrderModel" "weight" "[I", Cond.methodLink RX6 88 yX6_stands]
def wsX6_doubt_r2 : List Cond := [Cond.instanceMethod yX6_stands, Cond.selects RX6 yX6_stands yX6_stands, Cond.code yX6_stands cX6_stands 4 (some .int), Cond.methodLink RX6 92 yX6_goesOn, Cond.instanceMethod yX6_goesOn, Cond.selects RX6 yX6_goesOn yX6_goesOn, Cond.code yX6_goesOn cX6_goesOn 11 none, Cond.methodLink RX6 96 yX6_mayFollow, Cond.instanceMethod yX6_mayFollow, Cond.selects RX6 yX6_mayFollow yX6_mayFollow, Cond.code yX6_mayFollow cX6_mayFollow 5 (some .boolean), Cond.fieldLink RX6 35 "LeafOrderModel" "isAhead" "[Z", Cond.fieldLink RX6 39 "LeafOrderModel" "isJoined" "[Z", Cond.fieldLink RX6 48 "LeafOrderModel" "barredA" "I", Cond.fieldLink RX6 52 "LeafOrderModel" "barredB" "I", Cond.methodLink RX6 84 yX6_joins, Cond.instanceMethod yX6_joins, Cond.selects RX6 yX6_joins yX6_joins, Cond.code yX6_joins cX6_joins 5 (some .int), Cond.methodLink RX6 80 yX6_isMissing, Cond.instanceMethod yX6_isMissing, Cond.selects RX6 yX6_isMissing yX6_isMissing, Cond.code yX6_isMissing cX6_isMissing 5 (some .boolean), Cond.methodLink RX6 76 yX6_whole]
def wsX6_doubt_r3 : List Cond := [Cond.instanceMethod yX6_whole, Cond.selects RX6 yX6_whole yX6_whole, Cond.code yX6_whole cX6_whole 9 (some .int), Cond.fieldLink RX6 13 "LeafOrderModel" "end" "[I", Cond.fieldLink RX6 7 "LeafOrderModel" "begin" "[I", Cond.fieldLink RX6 16 "LeafOrderModel" "word" "[I", Cond.fieldLink RX6 22 "LeafOrderModel" "cutEnd" "[I", Cond.fieldLink RX6 19 "LeafOrderModel" "cutBegin" "[I", Cond.fieldLink RX6 25 "LeafOrderModel" "stain" "[I", Cond.methodLink RX6 72 yX6_apart, Cond.static yX6_apart, Cond.code yX6_apart cX6_apart 2 (some .int), Cond.methodLink RX6 99 yX6_keeps, Cond.instanceMethod yX6_keeps, Cond.selects RX6 yX6_keeps yX6_keeps, Cond.code yX6_keeps cX6_keeps 3 none, Cond.methodLink RX6 134 yX6_parts, Cond.instanceMethod yX6_parts, Cond.selects RX6 yX6_parts yX6_parts, Cond.code yX6_parts cX6_parts 6 (some .int), Cond.fieldLink RX6 103 "LeafOrderModel" "setLeast" "I", Cond.methodLink RX6 112 yX6_all, Cond.instanceMethod yX6_all, Cond.selects RX6 yX6_all yX6_all]
def wsX6_doubt_r4 : List Cond := [Cond.code yX6_all cX6_all 1 (some .int), Cond.methodLink RX6 116 yX6_looks, Cond.instanceMethod yX6_looks, Cond.selects RX6 yX6_looks yX6_looks, Cond.code yX6_looks cX6_looks 3 none, Cond.fieldLink RX6 106 "LeafOrderModel" "setSecond" "I", Cond.methodLink RX6 120 yX6_told, Cond.instanceMethod yX6_told, Cond.selects RX6 yX6_told yX6_told, Cond.code yX6_told cX6_told 2 (some .int)]
def wsX6_doubt : List Cond := .code yX6_doubt cX6_doubt 5 (some .int) :: ((wsX6_doubt_r1 ++ (wsX6_doubt_r2 ++ (wsX6_doubt_r3 ++ wsX6_doubt_r4))) ++ wsX60)
def wsX6_about : List Cond := .code yX6_about cX6_about 2 (some .int) :: ([.fieldLink RX6 61 "LeafOrderModel" "leaves" "I", .fieldLink RX6 28 "LeafOrderModel" "weight" "[I", .fieldLink RX6 31 "LeafOrderModel" "mayTurn" "Z", .methodLink RX6 64 yX6_in, .static yX6_in, .initialized RX6, .code yX6_in cX6_in 3 (some .boolean)] ++ wsX60)
def wsJ9_abs_0f7a4 : List Cond := .code yJ9_abs_0f7a4 cJ9_abs_0f7a4 1 (some .int) :: ([])
def wsJ9_min_7cf53 : List Cond := .code yJ9_min_7cf53 cJ9_min_7cf53 2 (some .int) :: ([])
def wsL_law_r1 : List Cond := [Cond.classLink RL 7 RX5, Cond.instantiable RX5 7, Cond.initialized RX5, Cond.classLink RL 10 RX6, Cond.instantiable RX6 20, Cond.initialized RX6, Cond.methodLink RL 9 yX5_init, Cond.instanceMethod yX5_init, Cond.code yX5_init cX5_init 1 none, Cond.methodLink RX5 3 objectInit, Cond.instanceMethod objectInit, Cond.code objectInit ⟨#[0xb1]⟩ 1 none, Cond.classLink RX5 9 RX1, Cond.instantiable RX1 7, Cond.initialized RX1, Cond.fieldLink RX5 12 "LeafOrder" "pile" "LLeafOrder$Leaves;", Cond.classLink RX5 16 RX3, Cond.instantiable RX3 2, Cond.initialized RX3, Cond.fieldLink RX5 21 "LeafOrder" "scale" "LLeafOrder$Scale;", Cond.classLink RX5 25 RX2, Cond.instantiable RX2 3, Cond.initialized RX2, Cond.fieldLink RX5 28 "LeafOrder" "rules" "LLeafOrder$Rules;"]
def wsL_law_r2 : List Cond := [Cond.classLink RX5 32 RX4, Cond.instantiable RX4 9, Cond.initialized RX4, Cond.fieldLink RX5 37 "LeafOrder" "search" "LLeafOrder$Search;", Cond.classLink RX5 41 RX0, Cond.instantiable RX0 3, Cond.initialized RX0, Cond.fieldLink RX5 46 "LeafOrder" "books" "LLeafOrder$Books;", Cond.fieldLink RX5 50 "LeafOrder" "mayTurn" "Z", Cond.fieldLink RX5 54 "LeafOrder" "stale" "Z", Cond.instanceMethod yX1_init, Cond.code yX1_init cX1_init 1 none, Cond.methodLink RX1 3 objectInit, Cond.arrayClass .int, Cond.fieldLink RX1 9 "LeafOrder$Leaves" "begins" "[I", Cond.fieldLink RX1 15 "LeafOrder$Leaves" "ends" "[I", Cond.fieldLink RX1 18 "LeafOrder$Leaves" "words" "[I", Cond.fieldLink RX1 21 "LeafOrder$Leaves" "cutBegins" "[I", Cond.fieldLink RX1 24 "LeafOrder$Leaves" "cutEnds" "[I", Cond.fieldLink RX1 27 "LeafOrder$Leaves" "stains" "[I", Cond.methodLink RX5 18 yX3_init, Cond.instanceMethod yX3_init, Cond.code yX3_init cX3_init 2 none, Cond.methodLink RX3 3 objectInit]
def wsL_law_r3 : List Cond := [Cond.fieldLink RX3 9 "LeafOrder$Scale" "sizes" "[I", Cond.fieldLink RX3 15 "LeafOrder$Scale" "pile" "LLeafOrder$Leaves;", Cond.instanceMethod yX2_init, Cond.code yX2_init cX2_init 1 none, Cond.methodLink RX2 3 objectInit, Cond.fieldLink RX2 9 "LeafOrder$Rules" "behind" "[I", Cond.fieldLink RX2 15 "LeafOrder$Rules" "rightBehind" "[I", Cond.fieldLink RX2 18 "LeafOrder$Rules" "rightAhead" "[I", Cond.methodLink RX5 34 yX4_init, Cond.instanceMethod yX4_init, Cond.code yX4_init cX4_init 2 none, Cond.methodLink RX4 3 objectInit, Cond.fieldLink RX4 9 "LeafOrder$Search" "joins" "[I", Cond.fieldLink RX4 15 "LeafOrder$Search" "least" "[I", Cond.fieldLink RX4 18 "LeafOrder$Search" "setCosts" "[I", Cond.fieldLink RX4 21 "LeafOrder$Search" "order" "[I", Cond.fieldLink RX4 24 "LeafOrder$Search" "rules" "LLeafOrder$Rules;", Cond.methodLink RX5 43 yX0_init, Cond.instanceMethod yX0_init, Cond.code yX0_init cX0_init 2 none, Cond.methodLink RX0 3 objectInit, Cond.fieldLink RX0 9 "LeafOrder$Books" "search" "LLeafOrder$Search;", Cond.methodLink RL 12 yX6_init, Cond.instanceMethod yX6_init]
def wsL_law_r4 : List Cond := [Cond.code yX6_init cX6_init 1 none, Cond.methodLink RX6 1 objectInit, Cond.fieldLink RX6 7 "LeafOrderModel" "begin" "[I", Cond.fieldLink RX6 13 "LeafOrderModel" "end" "[I", Cond.fieldLink RX6 16 "LeafOrderModel" "word" "[I", Cond.fieldLink RX6 19 "LeafOrderModel" "cutBegin" "[I", Cond.fieldLink RX6 22 "LeafOrderModel" "cutEnd" "[I", Cond.fieldLink RX6 25 "LeafOrderModel" "stain" "[I", Cond.fieldLink RX6 28 "LeafOrderModel" "weight" "[I", Cond.fieldLink RX6 31 "LeafOrderModel" "mayTurn" "Z", Cond.arrayClass .boolean, Cond.fieldLink RX6 35 "LeafOrderModel" "isAhead" "[Z", Cond.fieldLink RX6 39 "LeafOrderModel" "isJoined" "[Z", Cond.fieldLink RX6 42 "LeafOrderModel" "least" "[I", Cond.fieldLink RX6 45 "LeafOrderModel" "second" "[I", Cond.fieldLink RX6 48 "LeafOrderModel" "barredA" "I", Cond.fieldLink RX6 52 "LeafOrderModel" "barredB" "I", Cond.fieldLink RX6 55 "LeafOrderModel" "place" "[I", Cond.fieldLink RX6 58 "LeafOrderModel" "turned" "[I", Cond.methodLink RL 13 yX5_leaf, Cond.instanceMethod yX5_leaf, Cond.selects RX5 yX5_leaf yX5_leaf, Cond.code yX5_leaf cX5_leaf 6 (some .int), Cond.fieldLink RX5 61 "LeafOrder$Leaves" "count" "I"]
def wsL_law_r5 : List Cond := [Cond.methodLink RX5 57 yX5_isMark, Cond.static yX5_isMark, Cond.code yX5_isMark cX5_isMark 1 (some .boolean), Cond.methodLink RX5 86 yX5_isWithin, Cond.static yX5_isWithin, Cond.code yX5_isWithin cX5_isWithin 2 (some .boolean), Cond.methodLink RX5 65 yX1_add, Cond.instanceMethod yX1_add, Cond.selects RX1 yX1_add yX1_add, Cond.code yX1_add cX1_add 6 (some .int), Cond.fieldLink RX1 30 "LeafOrder$Leaves" "count" "I", Cond.methodLink RL 17 yX6_leaf, Cond.instanceMethod yX6_leaf, Cond.selects RX6 yX6_leaf yX6_leaf, Cond.code yX6_leaf cX6_leaf 5 (some .int), Cond.fieldLink RX6 61 "LeafOrderModel" "leaves" "I", Cond.methodLink RX6 64 yX6_in, Cond.static yX6_in, Cond.code yX6_in cX6_in 3 (some .boolean), Cond.methodLink RL 18 yX5_catchword, Cond.instanceMethod yX5_catchword, Cond.selects RX5 yX5_catchword yX5_catchword, Cond.code yX5_catchword cX5_catchword 4 (some .boolean), Cond.fieldLink RX5 73 "LeafOrder$Leaves" "words" "[I"]
def wsL_law_r6 : List Cond := [Cond.methodLink RX5 69 yX1_hasSide, Cond.instanceMethod yX1_hasSide, Cond.selects RX1 yX1_hasSide yX1_hasSide, Cond.code yX1_hasSide cX1_hasSide 3 (some .boolean), Cond.methodLink RX1 34 yX1_has, Cond.instanceMethod yX1_has, Cond.selects RX1 yX1_has yX1_has, Cond.code yX1_has cX1_has 2 (some .boolean), Cond.methodLink RL 22 yX6_catchword, Cond.instanceMethod yX6_catchword, Cond.selects RX6 yX6_catchword yX6_catchword, Cond.code yX6_catchword cX6_catchword 4 (some .boolean), Cond.methodLink RX6 68 yX6_isLeaf, Cond.instanceMethod yX6_isLeaf, Cond.selects RX6 yX6_isLeaf yX6_isLeaf, Cond.code yX6_isLeaf cX6_isLeaf 2 (some .boolean), Cond.methodLink RL 23 yX5_cut, Cond.instanceMethod yX5_cut, Cond.selects RX5 yX5_cut yX5_cut, Cond.code yX5_cut cX5_cut 5 (some .boolean), Cond.fieldLink RX5 77 "LeafOrder$Leaves" "cutBegins" "[I", Cond.fieldLink RX5 80 "LeafOrder$Leaves" "cutEnds" "[I", Cond.methodLink RL 27 yX6_cut, Cond.instanceMethod yX6_cut]
def wsL_law_r7 : List Cond := [Cond.selects RX6 yX6_cut yX6_cut, Cond.code yX6_cut cX6_cut 5 (some .boolean), Cond.methodLink RL 28 yX5_stain, Cond.instanceMethod yX5_stain, Cond.selects RX5 yX5_stain yX5_stain, Cond.code yX5_stain cX5_stain 4 (some .boolean), Cond.fieldLink RX5 89 "LeafOrder$Leaves" "stains" "[I", Cond.methodLink RX5 83 yX1_has, Cond.methodLink RL 31 yX6_stain, Cond.instanceMethod yX6_stain, Cond.selects RX6 yX6_stain yX6_stain, Cond.code yX6_stain cX6_stain 4 (some .boolean), Cond.methodLink RL 32 yX5_weights, Cond.instanceMethod yX5_weights, Cond.selects RX5 yX5_weights yX5_weights, Cond.code yX5_weights cX5_weights 8 (some .boolean), Cond.fieldLink RX5 92 "LeafOrder$Scale" "sizes" "[I", Cond.methodLink RL 36 yX6_weights, Cond.instanceMethod yX6_weights, Cond.selects RX6 yX6_weights yX6_weights, Cond.code yX6_weights cX6_weights 7 (some .boolean), Cond.methodLink RL 37 yX5_turnable, Cond.instanceMethod yX5_turnable, Cond.selects RX5 yX5_turnable yX5_turnable]
def wsL_law_r8 : List Cond := [Cond.code yX5_turnable cX5_turnable 2 none, Cond.methodLink RL 41 yX6_turnable, Cond.instanceMethod yX6_turnable, Cond.selects RX6 yX6_turnable yX6_turnable, Cond.code yX6_turnable cX6_turnable 2 none, Cond.methodLink RL 42 yX5_must, Cond.instanceMethod yX5_must, Cond.selects RX5 yX5_must yX5_must, Cond.code yX5_must cX5_must 5 (some .boolean), Cond.methodLink RX5 95 yX5_areTwo, Cond.instanceMethod yX5_areTwo, Cond.selects RX5 yX5_areTwo yX5_areTwo, Cond.code yX5_areTwo cX5_areTwo 3 (some .boolean), Cond.methodLink RX5 98 yX2_putJoined, Cond.instanceMethod yX2_putJoined, Cond.selects RX2 yX2_putJoined yX2_putJoined, Cond.code yX2_putJoined cX2_putJoined 4 none, Cond.methodLink RX2 21 yX2_withBit, Cond.static yX2_withBit, Cond.code yX2_withBit cX2_withBit 3 (some .int), Cond.methodLink RX5 102 yX2_putAhead, Cond.instanceMethod yX2_putAhead, Cond.selects RX2 yX2_putAhead yX2_putAhead, Cond.code yX2_putAhead cX2_putAhead 4 none]
def wsL_law_r9 : List Cond := [Cond.methodLink RL 46 yX6_must, Cond.instanceMethod yX6_must, Cond.selects RX6 yX6_must yX6_must, Cond.code yX6_must cX6_must 5 (some .boolean), Cond.methodLink RL 47 yX5_join, Cond.instanceMethod yX5_join, Cond.selects RX5 yX5_join yX5_join, Cond.code yX5_join cX5_join 5 (some .int), Cond.methodLink RX5 105 yX5_standOf, Cond.static yX5_standOf, Cond.code yX5_standOf cX5_standOf 2 (some .int), Cond.methodLink RX5 109 yX3_joinCost, Cond.instanceMethod yX3_joinCost, Cond.selects RX3 yX3_joinCost yX3_joinCost, Cond.code yX3_joinCost cX3_joinCost 4 (some .int), Cond.methodLink RX3 19 yX3_fullCost, Cond.instanceMethod yX3_fullCost, Cond.selects RX3 yX3_fullCost yX3_fullCost, Cond.code yX3_fullCost cX3_fullCost 8 (some .int), Cond.fieldLink RX3 27 "LeafOrder$Leaves" "begins" "[I", Cond.fieldLink RX3 32 "LeafOrder$Leaves" "words" "[I", Cond.fieldLink RX3 35 "LeafOrder$Leaves" "ends" "[I", Cond.methodLink RX3 38 Lib.Math.abs.name, Cond.static Lib.Math.abs.name]
def wsL_law_r10 : List Cond := [Cond.initialized "java/lang/Math", Cond.code Lib.Math.abs.name Lib.Math.abs.code 1 (some .int), Cond.fieldLink RX3 44 "LeafOrder$Leaves" "cutEnds" "[I", Cond.fieldLink RX3 47 "LeafOrder$Leaves" "cutBegins" "[I", Cond.methodLink RX3 50 yX1_stainsApart, Cond.instanceMethod yX1_stainsApart, Cond.selects RX1 yX1_stainsApart yX1_stainsApart, Cond.code yX1_stainsApart cX1_stainsApart 5 (some .int), Cond.methodLink RX1 42 Lib.Math.abs.name, Cond.methodLink RX3 23 yX3_isOverGap, Cond.instanceMethod yX3_isOverGap, Cond.selects RX3 yX3_isOverGap yX3_isOverGap, Cond.code yX3_isOverGap cX3_isOverGap 2 (some .boolean), Cond.methodLink RL 51 yX6_join, Cond.instanceMethod yX6_join, Cond.selects RX6 yX6_join yX6_join, Cond.code yX6_join cX6_join 5 (some .int), Cond.methodLink RX6 84 yX6_joins, Cond.instanceMethod yX6_joins, Cond.selects RX6 yX6_joins yX6_joins, Cond.code yX6_joins cX6_joins 5 (some .int), Cond.methodLink RX6 80 yX6_isMissing, Cond.instanceMethod yX6_isMissing, Cond.selects RX6 yX6_isMissing yX6_isMissing]
def wsL_law_r11 : List Cond := [Cond.code yX6_isMissing cX6_isMissing 5 (some .boolean), Cond.methodLink RX6 76 yX6_whole, Cond.instanceMethod yX6_whole, Cond.selects RX6 yX6_whole yX6_whole, Cond.code yX6_whole cX6_whole 9 (some .int), Cond.methodLink RX6 72 yX6_apart, Cond.static yX6_apart, Cond.code yX6_apart cX6_apart 2 (some .int), Cond.methodLink RL 52 yX5_best, Cond.instanceMethod yX5_best, Cond.selects RX5 yX5_best yX5_best, Cond.code yX5_best cX5_best 1 (some .int), Cond.fieldLink RX5 116 "LeafOrder$Search" "bestCost" "I", Cond.methodLink RX5 113 yX5_refresh, Cond.instanceMethod yX5_refresh, Cond.selects RX5 yX5_refresh yX5_refresh, Cond.code yX5_refresh cX5_refresh 1 none, Cond.methodLink RX5 146 yX4_prepare, Cond.instanceMethod yX4_prepare, Cond.selects RX4 yX4_prepare yX4_prepare, Cond.code yX4_prepare cX4_prepare 5 none, Cond.fieldLink RX4 28 "LeafOrder$Scale" "pile" "LLeafOrder$Leaves;", Cond.fieldLink RX4 34 "LeafOrder$Leaves" "count" "I", Cond.fieldLink RX4 40 "LeafOrder$Search" "count" "I"]
def wsL_law_r12 : List Cond := [Cond.fieldLink RX4 41 "LeafOrder$Scale" "sizes" "[I", Cond.constant RX4 44 (1000000), Cond.fieldLink RX4 45 "LeafOrder$Search" "turnCost" "I", Cond.methodLink RX4 48 yX3_joinCost, Cond.methodLink RX5 150 yX4_solve, Cond.instanceMethod yX4_solve, Cond.selects RX4 yX4_solve yX4_solve, Cond.code yX4_solve cX4_solve 2 none, Cond.fieldLink RX4 64 "LeafOrder$Search" "bestCost" "I", Cond.fieldLink RX4 67 "LeafOrder$Search" "nextCost" "I", Cond.methodLink RX4 52 yX4_fill, Cond.instanceMethod yX4_fill, Cond.selects RX4 yX4_fill yX4_fill, Cond.code yX4_fill cX4_fill 7 none, Cond.methodLink RX4 56 yX4_all, Cond.instanceMethod yX4_all, Cond.selects RX4 yX4_all yX4_all, Cond.code yX4_all cX4_all 1 (some .int), Cond.methodLink RX4 77 yX2_neighboursOf, Cond.instanceMethod yX2_neighboursOf, Cond.selects RX2 yX2_neighboursOf yX2_neighboursOf, Cond.code yX2_neighboursOf cX2_neighboursOf 4 (some .int), Cond.methodLink RX2 25 yJ6_bitCount_0f7a4, Cond.static yJ6_bitCount_0f7a4]
def wsL_law_r13 : List Cond := [Cond.initialized RJ6, Cond.code yJ6_bitCount_0f7a4 cJ6_bitCount_0f7a4 1 (some .int), Cond.constant RJ6 265 (1431655765), Cond.constant RJ6 266 (858993459), Cond.constant RJ6 267 (252645135), Cond.methodLink RX4 82 yX4_fillLast, Cond.instanceMethod yX4_fillLast, Cond.selects RX4 yX4_fillLast yX4_fillLast, Cond.code yX4_fillLast cX4_fillLast 8 none, Cond.methodLink RX4 93 Lib.Math.min.name, Cond.static Lib.Math.min.name, Cond.code Lib.Math.min.name Lib.Math.min.code 2 (some .int), Cond.methodLink RX4 86 yX2_mayComeAfter, Cond.instanceMethod yX2_mayComeAfter, Cond.selects RX2 yX2_mayComeAfter yX2_mayComeAfter, Cond.code yX2_mayComeAfter cX2_mayComeAfter 3 (some .boolean), Cond.methodLink RX4 89 yX4_leastUpTo, Cond.instanceMethod yX4_leastUpTo, Cond.selects RX4 yX4_leastUpTo yX4_leastUpTo, Cond.code yX4_leastUpTo cX4_leastUpTo 9 (some .int), Cond.methodLink RX4 60 yX4_leastOf, Cond.instanceMethod yX4_leastOf, Cond.selects RX4 yX4_leastOf yX4_leastOf, Cond.code yX4_leastOf cX4_leastOf 4 (some .int)]
def wsL_law_r14 : List Cond := [Cond.methodLink RX4 70 yX4_trace, Cond.instanceMethod yX4_trace, Cond.selects RX4 yX4_trace yX4_trace, Cond.code yX4_trace cX4_trace 6 none, Cond.methodLink RX4 98 yX4_pick, Cond.instanceMethod yX4_pick, Cond.selects RX4 yX4_pick yX4_pick, Cond.code yX4_pick cX4_pick 9 (some .int), Cond.methodLink RX4 101 yX4_linkCost, Cond.instanceMethod yX4_linkCost, Cond.selects RX4 yX4_linkCost yX4_linkCost, Cond.code yX4_linkCost cX4_linkCost 3 (some .int), Cond.methodLink RX5 153 yX0_part, Cond.instanceMethod yX0_part, Cond.selects RX0 yX0_part yX0_part, Cond.code yX0_part cX0_part 3 none, Cond.constant RX0 15 (1000000), Cond.fieldLink RX0 16 "LeafOrder$Books" "cost" "I", Cond.fieldLink RX0 20 "LeafOrder$Books" "other" "I", Cond.methodLink RX0 23 yX4_all, Cond.methodLink RX0 29 yX0_costOf, Cond.instanceMethod yX0_costOf, Cond.selects RX0 yX0_costOf yX0_costOf, Cond.code yX0_costOf cX0_costOf 2 (some .int)]
def wsL_law_r15 : List Cond := [Cond.fieldLink RX0 39 "LeafOrder$Search" "setCosts" "[I", Cond.methodLink RX5 119 yX5_costOrNone, Cond.static yX5_costOrNone, Cond.code yX5_costOrNone cX5_costOrNone 1 (some .int), Cond.constant RX5 123 (1000000), Cond.methodLink RL 56 yX6_best, Cond.instanceMethod yX6_best, Cond.selects RX6 yX6_best yX6_best, Cond.code yX6_best cX6_best 1 (some .int), Cond.fieldLink RX6 103 "LeafOrderModel" "setLeast" "I", Cond.methodLink RX6 109 yX6_orders, Cond.instanceMethod yX6_orders, Cond.selects RX6 yX6_orders yX6_orders, Cond.code yX6_orders cX6_orders 7 none, Cond.constant RX6 87 (1000000000), Cond.methodLink RX6 88 yX6_stands, Cond.instanceMethod yX6_stands, Cond.selects RX6 yX6_stands yX6_stands, Cond.code yX6_stands cX6_stands 4 (some .int), Cond.methodLink RX6 92 yX6_goesOn, Cond.instanceMethod yX6_goesOn, Cond.selects RX6 yX6_goesOn yX6_goesOn, Cond.code yX6_goesOn cX6_goesOn 11 none, Cond.methodLink RX6 96 yX6_mayFollow]
def wsL_law_r16 : List Cond := [Cond.instanceMethod yX6_mayFollow, Cond.selects RX6 yX6_mayFollow yX6_mayFollow, Cond.code yX6_mayFollow cX6_mayFollow 5 (some .boolean), Cond.methodLink RX6 99 yX6_keeps, Cond.instanceMethod yX6_keeps, Cond.selects RX6 yX6_keeps yX6_keeps, Cond.code yX6_keeps cX6_keeps 3 none, Cond.methodLink RX6 112 yX6_all, Cond.instanceMethod yX6_all, Cond.selects RX6 yX6_all yX6_all, Cond.code yX6_all cX6_all 1 (some .int), Cond.methodLink RX6 116 yX6_looks, Cond.instanceMethod yX6_looks, Cond.selects RX6 yX6_looks yX6_looks, Cond.code yX6_looks cX6_looks 3 none, Cond.fieldLink RX6 106 "LeafOrderModel" "setSecond" "I", Cond.methodLink RX6 120 yX6_told, Cond.instanceMethod yX6_told, Cond.selects RX6 yX6_told yX6_told, Cond.code yX6_told cX6_told 2 (some .int), Cond.methodLink RL 57 yX5_at, Cond.instanceMethod yX5_at, Cond.selects RX5 yX5_at yX5_at, Cond.code yX5_at cX5_at 4 (some .int)]
def wsL_law_r17 : List Cond := [Cond.fieldLink RX5 124 "LeafOrder$Search" "order" "[I", Cond.methodLink RX5 127 yX3_isMissing, Cond.instanceMethod yX3_isMissing, Cond.selects RX3 yX3_isMissing yX3_isMissing, Cond.code yX3_isMissing cX3_isMissing 3 (some .boolean), Cond.methodLink RL 61 yX6_at, Cond.instanceMethod yX6_at, Cond.selects RX6 yX6_at yX6_at, Cond.code yX6_at cX6_at 3 (some .int), Cond.methodLink RX6 127 yX6_reads, Cond.instanceMethod yX6_reads, Cond.selects RX6 yX6_reads yX6_reads, Cond.code yX6_reads cX6_reads 9 (some .boolean), Cond.methodLink RX6 124 yX6_best, Cond.methodLink RL 62 yX5_next, Cond.instanceMethod yX5_next, Cond.selects RX5 yX5_next yX5_next, Cond.code yX5_next cX5_next 1 (some .int), Cond.fieldLink RX5 130 "LeafOrder$Search" "nextCost" "I", Cond.methodLink RL 65 yX6_next, Cond.instanceMethod yX6_next, Cond.selects RX6 yX6_next yX6_next, Cond.code yX6_next cX6_next 1 (some .int), Cond.methodLink RL 66 yX5_sure]
def wsL_law_r18 : List Cond := [Cond.instanceMethod yX5_sure, Cond.selects RX5 yX5_sure yX5_sure, Cond.code yX5_sure cX5_sure 4 (some .int), Cond.methodLink RX5 133 yX4_isSure, Cond.instanceMethod yX4_isSure, Cond.selects RX4 yX4_isSure yX4_isSure, Cond.code yX4_isSure cX4_isSure 4 (some .boolean), Cond.methodLink RX4 73 yX4_isInBest, Cond.instanceMethod yX4_isInBest, Cond.selects RX4 yX4_isInBest yX4_isInBest, Cond.code yX4_isInBest cX4_isInBest 4 (some .boolean), Cond.methodLink RL 70 yX6_sure, Cond.instanceMethod yX6_sure, Cond.selects RX6 yX6_sure yX6_sure, Cond.code yX6_sure cX6_sure 6 (some .int), Cond.methodLink RL 71 yX5_two, Cond.instanceMethod yX5_two, Cond.selects RX5 yX5_two yX5_two, Cond.code yX5_two cX5_two 1 (some .int), Cond.fieldLink RX5 137 "LeafOrder$Books" "cost" "I", Cond.methodLink RL 74 yX6_two, Cond.instanceMethod yX6_two, Cond.selects RX6 yX6_two yX6_two, Cond.code yX6_two cX6_two 1 (some .int)]
def wsL_law_r19 : List Cond := [Cond.methodLink RX6 134 yX6_parts, Cond.instanceMethod yX6_parts, Cond.selects RX6 yX6_parts yX6_parts, Cond.code yX6_parts cX6_parts 6 (some .int), Cond.fieldLink RX6 131 "LeafOrderModel" "parted" "I", Cond.methodLink RL 75 yX5_book, Cond.instanceMethod yX5_book, Cond.selects RX5 yX5_book yX5_book, Cond.code yX5_book cX5_book 2 (some .int), Cond.fieldLink RX5 140 "LeafOrder$Books" "other" "I", Cond.methodLink RL 79 yX6_book, Cond.instanceMethod yX6_book, Cond.selects RX6 yX6_book yX6_book, Cond.code yX6_book cX6_book 2 (some .int), Cond.methodLink RX6 137 yX6_two, Cond.methodLink RL 80 yX5_doubt, Cond.instanceMethod yX5_doubt, Cond.selects RX5 yX5_doubt yX5_doubt, Cond.code yX5_doubt cX5_doubt 3 (some .int), Cond.methodLink RX5 143 yX0_leastWithMoved, Cond.instanceMethod yX0_leastWithMoved, Cond.selects RX0 yX0_leastWithMoved yX0_leastWithMoved, Cond.code yX0_leastWithMoved cX0_leastWithMoved 4 (some .int), Cond.methodLink RX0 33 Lib.Math.min.name]
def wsL_law_r20 : List Cond := [Cond.methodLink RL 83 yX6_doubt, Cond.instanceMethod yX6_doubt, Cond.selects RX6 yX6_doubt yX6_doubt, Cond.code yX6_doubt cX6_doubt 5 (some .int), Cond.methodLink RL 84 yX5_about, Cond.instanceMethod yX5_about, Cond.selects RX5 yX5_about yX5_about, Cond.code yX5_about cX5_about 2 (some .int), Cond.methodLink RL 87 yX6_about, Cond.instanceMethod yX6_about, Cond.selects RX6 yX6_about yX6_about, Cond.code yX6_about cX6_about 2 (some .int)]
def wsL_law : List Cond := (wsL_law_r1 ++ (wsL_law_r2 ++ (wsL_law_r3 ++ (wsL_law_r4 ++ (wsL_law_r5 ++ (wsL_law_r6 ++ (wsL_law_r7 ++ (wsL_law_r8 ++ (wsL_law_r9 ++ (wsL_law_r10 ++ (wsL_law_r11 ++ (wsL_law_r12 ++ (wsL_law_r13 ++ (wsL_law_r14 ++ (wsL_law_r15 ++ (wsL_law_r16 ++ (wsL_law_r17 ++ (wsL_law_r18 ++ (wsL_law_r19 ++ wsL_law_r20))))))))))))))))))) ++ wsX50 ++ wsX60 ++ wsX10 ++ wsX30 ++ wsX20 ++ wsX40 ++ wsX00 ++ ([] : List Cond)
set_option maxRecDepth 20000 in
theorem wsL_law_in : ∀ w ∈ wsL_law, w ∈ lw_tbl := fun w h => (goodIn_p wsL_law [41, 44, 49, 89, 105, 121, 159, 415, 198, 201, 204, 208, 482, 485, 212, 216, 220, 489, 493, 225, 497, 229, 501, 234, 505, 238, 509, 242, 246, 250, 253, 257, 513, 261, 264, 268, 272, 275, 279, 284, 517, 521, 525, 529, 532, 288, 292, 296, 302, 306, 310, 314, 317, 324, 335, 328, 332, 339, 343, 347, 351, 355, 361, 364, 536, 540, 545, 549, 553, 557, 561, 565, 569, 369, 373, 573, 577, 377, 582, 381, 385, 389, 586, 393, 590, 594, 397, 598, 401, 405, 603, 410, 607] (by decide +kernel) (by decide +kernel) w h).1
theorem inlX0 : ∀ w ∈ wsX00, w ∈ wsL_law := fun _ h => List.mem_append_left _ (List.mem_append_right _ h)
theorem inX0 : ∀ w ∈ wsX00, w ∈ lw_tbl := fun w h => wsL_law_in w (inlX0 w h)
theorem inlX1 : ∀ w ∈ wsX10, w ∈ wsL_law := fun _ h => List.mem_append_left _ (List.mem_append_left _ (List.mem_append_left _ (List.mem_append_left _ (List.mem_append_left _ (List.mem_append_right _ h)))))
theorem inX1 : ∀ w ∈ wsX10, w ∈ lw_tbl := fun w h => wsL_law_in w (inlX1 w h)
theorem inlX2 : ∀ w ∈ wsX20, w ∈ wsL_law := fun _ h => List.mem_append_left _ (List.mem_append_left _ (List.mem_append_left _ (List.mem_append_right _ h)))
theorem inX2 : ∀ w ∈ wsX20, w ∈ lw_tbl := fun w h => wsL_law_in w (inlX2 w h)
theorem inlX3 : ∀ w ∈ wsX30, w ∈ wsL_law := fun _ h => List.mem_append_left _ (List.mem_append_left _ (List.mem_append_left _ (List.mem_append_left _ (List.mem_append_right _ h))))
theorem inX3 : ∀ w ∈ wsX30, w ∈ lw_tbl := fun w h => wsL_law_in w (inlX3 w h)
theorem inlX4 : ∀ w ∈ wsX40, w ∈ wsL_law := fun _ h => List.mem_append_left _ (List.mem_append_left _ (List.mem_append_right _ h))
theorem inX4 : ∀ w ∈ wsX40, w ∈ lw_tbl := fun w h => wsL_law_in w (inlX4 w h)
theorem inlX5 : ∀ w ∈ wsX50, w ∈ wsL_law := fun _ h => List.mem_append_left _ (List.mem_append_left _ (List.mem_append_left _ (List.mem_append_left _ (List.mem_append_left _ (List.mem_append_left _ (List.mem_append_left _ (List.mem_append_right _ h)))))))
theorem inX5 : ∀ w ∈ wsX50, w ∈ lw_tbl := fun w h => wsL_law_in w (inlX5 w h)
theorem inlX6 : ∀ w ∈ wsX60, w ∈ wsL_law := fun _ h => List.mem_append_left _ (List.mem_append_left _ (List.mem_append_left _ (List.mem_append_left _ (List.mem_append_left _ (List.mem_append_left _ (List.mem_append_right _ h))))))
theorem inX6 : ∀ w ∈ wsX60, w ∈ lw_tbl := fun w h => wsL_law_in w (inlX6 w h)
theorem inJ6 : ∀ w ∈ wsJ60, w ∈ lw_tbl := by decide +kernel
theorem inJ9 : ∀ w ∈ wsJ90, w ∈ lw_tbl := by decide +kernel
theorem dX0_init_0 : decode cX0_init 0 = .ok (.aload_n 0, 1) := by decide +kernel
theorem dX0_init_1 : decode cX0_init 1 = .ok (.invokespecial 3, 3) := by decide +kernel
theorem dX0_init_4 : decode cX0_init 4 = .ok (.aload_n 0, 1) := by decide +kernel
theorem dX0_init_5 : decode cX0_init 5 = .ok (.aload_n 1, 1) := by decide +kernel
theorem dX0_init_6 : decode cX0_init 6 = .ok (.putfield 9, 3) := by decide +kernel
theorem dX0_init_9 : decode cX0_init 9 = .ok (.return_, 1) := by decide +kernel
set_option maxRecDepth 20000 in
theorem ggX0_part_X4_all : GoodIn wsX0_part wsX4_all := goodIn_r _ [9, 10, 20, 21, 22, 23, 24, 25, 26, 27, 28] (by decide +kernel) (by decide +kernel)
set_option maxRecDepth 20000 in
theorem gX0_part_X4_all : GoodIn wsX0_part (wsV RX0 23 RX4 yX4_all wsX4_all) := goodIn_app (goodIn_of _ (by decide +kernel)) ggX0_part_X4_all
set_option maxRecDepth 20000 in
theorem ggX0_part_X0_costOf : GoodIn wsX0_part wsX0_costOf := goodIn_r _ [15, 4, 16, 5, 6, 7, 8, 9, 10, 17, 18, 19, 20, 21, 22, 23, 24, 25, 26, 27, 28] (by decide +kernel) (by decide +kernel)
set_option maxRecDepth 20000 in
theorem gX0_part_X0_costOf : GoodIn wsX0_part (wsV RX0 29 RX0 yX0_costOf wsX0_costOf) := goodIn_app (goodIn_of _ (by decide +kernel)) ggX0_part_X0_costOf
theorem dX0_part_0 : decode cX0_part 0 = .ok (.aload_n 0, 1) := by decide +kernel
theorem dX0_part_1 : decode cX0_part 1 = .ok (.ldc 15, 2) := by decide +kernel
theorem dX0_part_3 : decode cX0_part 3 = .ok (.putfield 16, 3) := by decide +kernel
theorem dX0_part_6 : decode cX0_part 6 = .ok (.aload_n 0, 1) := by decide +kernel
theorem dX0_part_7 : decode cX0_part 7 = .ok (.iconst 0, 1) := by decide +kernel
theorem dX0_part_8 : decode cX0_part 8 = .ok (.putfield 20, 3) := by decide +kernel
theorem dX0_part_11 : decode cX0_part 11 = .ok (.iconst 2, 1) := by decide +kernel
theorem dX0_part_12 : decode cX0_part 12 = .ok (.istore_n 1, 1) := by decide +kernel
theorem dX0_part_13 : decode cX0_part 13 = .ok (.iload_n 1, 1) := by decide +kernel
theorem dX0_part_14 : decode cX0_part 14 = .ok (.aload_n 0, 1) := by decide +kernel
theorem dX0_part_15 : decode cX0_part 15 = .ok (.getfield 9, 3) := by decide +kernel
theorem dX0_part_18 : decode cX0_part 18 = .ok (.invokevirtual 23, 3) := by decide +kernel
theorem dX0_part_21 : decode cX0_part 21 = .ok (.if_icmp .gt 33, 3) := by decide +kernel
theorem dX0_part_24 : decode cX0_part 24 = .ok (.aload_n 0, 1) := by decide +kernel
theorem dX0_part_25 : decode cX0_part 25 = .ok (.iload_n 1, 1) := by decide +kernel
theorem dX0_part_26 : decode cX0_part 26 = .ok (.invokevirtual 29, 3) := by decide +kernel
theorem dX0_part_29 : decode cX0_part 29 = .ok (.istore_n 2, 1) := by decide +kernel
theorem dX0_part_30 : decode cX0_part 30 = .ok (.iload_n 2, 1) := by decide +kernel
theorem dX0_part_31 : decode cX0_part 31 = .ok (.aload_n 0, 1) := by decide +kernel
theorem dX0_part_32 : decode cX0_part 32 = .ok (.getfield 16, 3) := by decide +kernel
theorem dX0_part_35 : decode cX0_part 35 = .ok (.if_icmp .ge 13, 3) := by decide +kernel
theorem dX0_part_38 : decode cX0_part 38 = .ok (.aload_n 0, 1) := by decide +kernel
theorem dX0_part_39 : decode cX0_part 39 = .ok (.iload_n 2, 1) := by decide +kernel
theorem dX0_part_40 : decode cX0_part 40 = .ok (.putfield 16, 3) := by decide +kernel
theorem dX0_part_43 : decode cX0_part 43 = .ok (.aload_n 0, 1) := by decide +kernel
theorem dX0_part_44 : decode cX0_part 44 = .ok (.iload_n 1, 1) := by decide +kernel
theorem dX0_part_45 : decode cX0_part 45 = .ok (.putfield 20, 3) := by decide +kernel
theorem dX0_part_48 : decode cX0_part 48 = .ok (.iinc 1 2, 3) := by decide +kernel
theorem dX0_part_51 : decode cX0_part 51 = .ok (.goto (-38), 3) := by decide +kernel
theorem dX0_part_54 : decode cX0_part 54 = .ok (.return_, 1) := by decide +kernel
set_option maxRecDepth 20000 in
theorem ggX0_leastWithMoved_X4_all : GoodIn wsX0_leastWithMoved wsX4_all := goodIn_r _ [12, 13, 23, 24, 25, 26, 27, 28, 29, 30, 31] (by decide +kernel) (by decide +kernel)
set_option maxRecDepth 20000 in
theorem gX0_leastWithMoved_X4_all : GoodIn wsX0_leastWithMoved (wsV RX0 23 RX4 yX4_all wsX4_all) := goodIn_app (goodIn_of _ (by decide +kernel)) ggX0_leastWithMoved_X4_all
set_option maxRecDepth 20000 in
theorem ggX0_leastWithMoved_X0_costOf : GoodIn wsX0_leastWithMoved wsX0_costOf := goodIn_r _ [18, 2, 19, 8, 9, 10, 11, 12, 13, 20, 21, 22, 23, 24, 25, 26, 27, 28, 29, 30, 31] (by decide +kernel) (by decide +kernel)
set_option maxRecDepth 20000 in
theorem gX0_leastWithMoved_X0_costOf : GoodIn wsX0_leastWithMoved (wsV RX0 29 RX0 yX0_costOf wsX0_costOf) := goodIn_app (goodIn_of _ (by decide +kernel)) ggX0_leastWithMoved_X0_costOf
theorem dX0_leastWithMoved_0 : decode cX0_leastWithMoved 0 = .ok (.ldc 15, 2) := by decide +kernel
theorem dX0_leastWithMoved_2 : decode cX0_leastWithMoved 2 = .ok (.istore_n 2, 1) := by decide +kernel
theorem dX0_leastWithMoved_3 : decode cX0_leastWithMoved 3 = .ok (.iconst 2, 1) := by decide +kernel
theorem dX0_leastWithMoved_4 : decode cX0_leastWithMoved 4 = .ok (.istore_n 3, 1) := by decide +kernel
theorem dX0_leastWithMoved_5 : decode cX0_leastWithMoved 5 = .ok (.iload_n 3, 1) := by decide +kernel
theorem dX0_leastWithMoved_6 : decode cX0_leastWithMoved 6 = .ok (.aload_n 0, 1) := by decide +kernel
theorem dX0_leastWithMoved_7 : decode cX0_leastWithMoved 7 = .ok (.getfield 9, 3) := by decide +kernel
theorem dX0_leastWithMoved_10 : decode cX0_leastWithMoved 10 = .ok (.invokevirtual 23, 3) := by decide +kernel
theorem dX0_leastWithMoved_13 : decode cX0_leastWithMoved 13 = .ok (.if_icmp .gt 32, 3) := by decide +kernel
theorem dX0_leastWithMoved_16 : decode cX0_leastWithMoved 16 = .ok (.iload_n 3, 1) := by decide +kernel
theorem dX0_leastWithMoved_17 : decode cX0_leastWithMoved 17 = .ok (.aload_n 0, 1) := by decide +kernel
theorem dX0_leastWithMoved_18 : decode cX0_leastWithMoved 18 = .ok (.getfield 20, 3) := by decide +kernel
theorem dX0_leastWithMoved_21 : decode cX0_leastWithMoved 21 = .ok (.ixor, 1) := by decide +kernel
theorem dX0_leastWithMoved_22 : decode cX0_leastWithMoved 22 = .ok (.iload_n 1, 1) := by decide +kernel
theorem dX0_leastWithMoved_23 : decode cX0_leastWithMoved 23 = .ok (.ishr, 1) := by decide +kernel
theorem dX0_leastWithMoved_24 : decode cX0_leastWithMoved 24 = .ok (.iconst 1, 1) := by decide +kernel
theorem dX0_leastWithMoved_25 : decode cX0_leastWithMoved 25 = .ok (.iand, 1) := by decide +kernel
theorem dX0_leastWithMoved_26 : decode cX0_leastWithMoved 26 = .ok (.ifCond .eq 13, 3) := by decide +kernel
theorem dX0_leastWithMoved_29 : decode cX0_leastWithMoved 29 = .ok (.iload_n 2, 1) := by decide +kernel
theorem dX0_leastWithMoved_30 : decode cX0_leastWithMoved 30 = .ok (.aload_n 0, 1) := by decide +kernel
theorem dX0_leastWithMoved_31 : decode cX0_leastWithMoved 31 = .ok (.iload_n 3, 1) := by decide +kernel
theorem dX0_leastWithMoved_32 : decode cX0_leastWithMoved 32 = .ok (.invokevirtual 29, 3) := by decide +kernel
theorem dX0_leastWithMoved_35 : decode cX0_leastWithMoved 35 = .ok (.invokestatic 33, 3) := by decide +kernel
theorem dX0_leastWithMoved_38 : decode cX0_leastWithMoved 38 = .ok (.istore_n 2, 1) := by decide +kernel
theorem dX0_leastWithMoved_39 : decode cX0_leastWithMoved 39 = .ok (.iinc 3 2, 3) := by decide +kernel
theorem dX0_leastWithMoved_42 : decode cX0_leastWithMoved 42 = .ok (.goto (-37), 3) := by decide +kernel
theorem dX0_leastWithMoved_45 : decode cX0_leastWithMoved 45 = .ok (.iload_n 2, 1) := by decide +kernel
theorem dX0_leastWithMoved_46 : decode cX0_leastWithMoved 46 = .ok (.ireturn, 1) := by decide +kernel
set_option maxRecDepth 20000 in
theorem ggX0_costOf_X4_all : GoodIn wsX0_costOf wsX4_all := goodIn_r _ [7, 8, 12, 13, 14, 15, 16, 17, 18, 19, 20] (by decide +kernel) (by decide +kernel)
set_option maxRecDepth 20000 in
theorem gX0_costOf_X4_all : GoodIn wsX0_costOf (wsV RX0 23 RX4 yX4_all wsX4_all) := goodIn_app (goodIn_of _ (by decide +kernel)) ggX0_costOf_X4_all
theorem dX0_costOf_0 : decode cX0_costOf 0 = .ok (.aload_n 0, 1) := by decide +kernel
theorem dX0_costOf_1 : decode cX0_costOf 1 = .ok (.getfield 9, 3) := by decide +kernel
theorem dX0_costOf_4 : decode cX0_costOf 4 = .ok (.getfield 39, 3) := by decide +kernel
theorem dX0_costOf_7 : decode cX0_costOf 7 = .ok (.iload_n 1, 1) := by decide +kernel
theorem dX0_costOf_8 : decode cX0_costOf 8 = .ok (.iaload, 1) := by decide +kernel
theorem dX0_costOf_9 : decode cX0_costOf 9 = .ok (.aload_n 0, 1) := by decide +kernel
theorem dX0_costOf_10 : decode cX0_costOf 10 = .ok (.getfield 9, 3) := by decide +kernel
theorem dX0_costOf_13 : decode cX0_costOf 13 = .ok (.getfield 39, 3) := by decide +kernel
theorem dX0_costOf_16 : decode cX0_costOf 16 = .ok (.aload_n 0, 1) := by decide +kernel
theorem dX0_costOf_17 : decode cX0_costOf 17 = .ok (.getfield 9, 3) := by decide +kernel
theorem dX0_costOf_20 : decode cX0_costOf 20 = .ok (.invokevirtual 23, 3) := by decide +kernel
theorem dX0_costOf_23 : decode cX0_costOf 23 = .ok (.iload_n 1, 1) := by decide +kernel
theorem dX0_costOf_24 : decode cX0_costOf 24 = .ok (.iconst (-1), 1) := by decide +kernel
theorem dX0_costOf_25 : decode cX0_costOf 25 = .ok (.ixor, 1) := by decide +kernel
theorem dX0_costOf_26 : decode cX0_costOf 26 = .ok (.iand, 1) := by decide +kernel
theorem dX0_costOf_27 : decode cX0_costOf 27 = .ok (.iaload, 1) := by decide +kernel
theorem dX0_costOf_28 : decode cX0_costOf 28 = .ok (.iadd, 1) := by decide +kernel
theorem dX0_costOf_29 : decode cX0_costOf 29 = .ok (.ireturn, 1) := by decide +kernel
theorem dX1_init_0 : decode cX1_init 0 = .ok (.aload_n 0, 1) := by decide +kernel
theorem dX1_init_1 : decode cX1_init 1 = .ok (.invokespecial 3, 3) := by decide +kernel
theorem dX1_init_4 : decode cX1_init 4 = .ok (.aload_n 0, 1) := by decide +kernel
theorem dX1_init_5 : decode cX1_init 5 = .ok (.bipush 18, 2) := by decide +kernel
theorem dX1_init_7 : decode cX1_init 7 = .ok (.newarray .int, 2) := by decide +kernel
theorem dX1_init_9 : decode cX1_init 9 = .ok (.putfield 9, 3) := by decide +kernel
theorem dX1_init_12 : decode cX1_init 12 = .ok (.aload_n 0, 1) := by decide +kernel
theorem dX1_init_13 : decode cX1_init 13 = .ok (.bipush 18, 2) := by decide +kernel
theorem dX1_init_15 : decode cX1_init 15 = .ok (.newarray .int, 2) := by decide +kernel
theorem dX1_init_17 : decode cX1_init 17 = .ok (.putfield 15, 3) := by decide +kernel
theorem dX1_init_20 : decode cX1_init 20 = .ok (.aload_n 0, 1) := by decide +kernel
theorem dX1_init_21 : decode cX1_init 21 = .ok (.bipush 18, 2) := by decide +kernel
theorem dX1_init_23 : decode cX1_init 23 = .ok (.newarray .int, 2) := by decide +kernel
theorem dX1_init_25 : decode cX1_init 25 = .ok (.putfield 18, 3) := by decide +kernel
theorem dX1_init_28 : decode cX1_init 28 = .ok (.aload_n 0, 1) := by decide +kernel
theorem dX1_init_29 : decode cX1_init 29 = .ok (.bipush 18, 2) := by decide +kernel
theorem dX1_init_31 : decode cX1_init 31 = .ok (.newarray .int, 2) := by decide +kernel
theorem dX1_init_33 : decode cX1_init 33 = .ok (.putfield 21, 3) := by decide +kernel
theorem dX1_init_36 : decode cX1_init 36 = .ok (.aload_n 0, 1) := by decide +kernel
theorem dX1_init_37 : decode cX1_init 37 = .ok (.bipush 18, 2) := by decide +kernel
theorem dX1_init_39 : decode cX1_init 39 = .ok (.newarray .int, 2) := by decide +kernel
theorem dX1_init_41 : decode cX1_init 41 = .ok (.putfield 24, 3) := by decide +kernel
theorem dX1_init_44 : decode cX1_init 44 = .ok (.aload_n 0, 1) := by decide +kernel
theorem dX1_init_45 : decode cX1_init 45 = .ok (.bipush 27, 2) := by decide +kernel
theorem dX1_init_47 : decode cX1_init 47 = .ok (.newarray .int, 2) := by decide +kernel
theorem dX1_init_49 : decode cX1_init 49 = .ok (.putfield 27, 3) := by decide +kernel
theorem dX1_init_52 : decode cX1_init 52 = .ok (.return_, 1) := by decide +kernel
theorem dX1_add_0 : decode cX1_add 0 = .ok (.iconst 2, 1) := by decide +kernel
theorem dX1_add_1 : decode cX1_add 1 = .ok (.aload_n 0, 1) := by decide +kernel
theorem dX1_add_2 : decode cX1_add 2 = .ok (.getfield 30, 3) := by decide +kernel
theorem dX1_add_5 : decode cX1_add 5 = .ok (.imul, 1) := by decide +kernel
theorem dX1_add_6 : decode cX1_add 6 = .ok (.istore 5, 2) := by decide +kernel
theorem dX1_add_8 : decode cX1_add 8 = .ok (.aload_n 0, 1) := by decide +kernel
theorem dX1_add_9 : decode cX1_add 9 = .ok (.getfield 9, 3) := by decide +kernel
theorem dX1_add_12 : decode cX1_add 12 = .ok (.iload 5, 2) := by decide +kernel
theorem dX1_add_14 : decode cX1_add 14 = .ok (.iload_n 1, 1) := by decide +kernel
theorem dX1_add_15 : decode cX1_add 15 = .ok (.iastore, 1) := by decide +kernel
theorem dX1_add_16 : decode cX1_add 16 = .ok (.aload_n 0, 1) := by decide +kernel
theorem dX1_add_17 : decode cX1_add 17 = .ok (.getfield 15, 3) := by decide +kernel
theorem dX1_add_20 : decode cX1_add 20 = .ok (.iload 5, 2) := by decide +kernel
theorem dX1_add_22 : decode cX1_add 22 = .ok (.iload_n 2, 1) := by decide +kernel
theorem dX1_add_23 : decode cX1_add 23 = .ok (.iastore, 1) := by decide +kernel
theorem dX1_add_24 : decode cX1_add 24 = .ok (.aload_n 0, 1) := by decide +kernel
theorem dX1_add_25 : decode cX1_add 25 = .ok (.getfield 18, 3) := by decide +kernel
theorem dX1_add_28 : decode cX1_add 28 = .ok (.iload 5, 2) := by decide +kernel
theorem dX1_add_30 : decode cX1_add 30 = .ok (.iconst (-1), 1) := by decide +kernel
theorem dX1_add_31 : decode cX1_add 31 = .ok (.iastore, 1) := by decide +kernel
theorem dX1_add_32 : decode cX1_add 32 = .ok (.aload_n 0, 1) := by decide +kernel
theorem dX1_add_33 : decode cX1_add 33 = .ok (.getfield 9, 3) := by decide +kernel
theorem dX1_add_36 : decode cX1_add 36 = .ok (.iload 5, 2) := by decide +kernel
theorem dX1_add_38 : decode cX1_add 38 = .ok (.iconst 1, 1) := by decide +kernel
theorem dX1_add_39 : decode cX1_add 39 = .ok (.iadd, 1) := by decide +kernel
theorem dX1_add_40 : decode cX1_add 40 = .ok (.iload_n 3, 1) := by decide +kernel
theorem dX1_add_41 : decode cX1_add 41 = .ok (.iastore, 1) := by decide +kernel
theorem dX1_add_42 : decode cX1_add 42 = .ok (.aload_n 0, 1) := by decide +kernel
theorem dX1_add_43 : decode cX1_add 43 = .ok (.getfield 15, 3) := by decide +kernel
theorem dX1_add_46 : decode cX1_add 46 = .ok (.iload 5, 2) := by decide +kernel
theorem dX1_add_48 : decode cX1_add 48 = .ok (.iconst 1, 1) := by decide +kernel
theorem dX1_add_49 : decode cX1_add 49 = .ok (.iadd, 1) := by decide +kernel
theorem dX1_add_50 : decode cX1_add 50 = .ok (.iload 4, 2) := by decide +kernel
theorem dX1_add_52 : decode cX1_add 52 = .ok (.iastore, 1) := by decide +kernel
theorem dX1_add_53 : decode cX1_add 53 = .ok (.aload_n 0, 1) := by decide +kernel
theorem dX1_add_54 : decode cX1_add 54 = .ok (.getfield 18, 3) := by decide +kernel
theorem dX1_add_57 : decode cX1_add 57 = .ok (.iload 5, 2) := by decide +kernel
theorem dX1_add_59 : decode cX1_add 59 = .ok (.iconst 1, 1) := by decide +kernel
theorem dX1_add_60 : decode cX1_add 60 = .ok (.iadd, 1) := by decide +kernel
theorem dX1_add_61 : decode cX1_add 61 = .ok (.iconst (-1), 1) := by decide +kernel
theorem dX1_add_62 : decode cX1_add 62 = .ok (.iastore, 1) := by decide +kernel
theorem dX1_add_63 : decode cX1_add 63 = .ok (.aload_n 0, 1) := by decide +kernel
theorem dX1_add_64 : decode cX1_add 64 = .ok (.dup, 1) := by decide +kernel
theorem dX1_add_65 : decode cX1_add 65 = .ok (.getfield 30, 3) := by decide +kernel
theorem dX1_add_68 : decode cX1_add 68 = .ok (.iconst 1, 1) := by decide +kernel
theorem dX1_add_69 : decode cX1_add 69 = .ok (.iadd, 1) := by decide +kernel
theorem dX1_add_70 : decode cX1_add 70 = .ok (.putfield 30, 3) := by decide +kernel
theorem dX1_add_73 : decode cX1_add 73 = .ok (.aload_n 0, 1) := by decide +kernel
theorem dX1_add_74 : decode cX1_add 74 = .ok (.getfield 30, 3) := by decide +kernel
theorem dX1_add_77 : decode cX1_add 77 = .ok (.iconst 1, 1) := by decide +kernel
theorem dX1_add_78 : decode cX1_add 78 = .ok (.isub, 1) := by decide +kernel
theorem dX1_add_79 : decode cX1_add 79 = .ok (.ireturn, 1) := by decide +kernel
theorem dX1_has_0 : decode cX1_has 0 = .ok (.iload_n 1, 1) := by decide +kernel
theorem dX1_has_1 : decode cX1_has 1 = .ok (.ifCond .lt 15, 3) := by decide +kernel
theorem dX1_has_4 : decode cX1_has 4 = .ok (.iload_n 1, 1) := by decide +kernel
theorem dX1_has_5 : decode cX1_has 5 = .ok (.aload_n 0, 1) := by decide +kernel
theorem dX1_has_6 : decode cX1_has 6 = .ok (.getfield 30, 3) := by decide +kernel
theorem dX1_has_9 : decode cX1_has 9 = .ok (.if_icmp .ge 7, 3) := by decide +kernel
theorem dX1_has_12 : decode cX1_has 12 = .ok (.iconst 1, 1) := by decide +kernel
theorem dX1_has_13 : decode cX1_has 13 = .ok (.goto 4, 3) := by decide +kernel
theorem dX1_has_16 : decode cX1_has 16 = .ok (.iconst 0, 1) := by decide +kernel
theorem dX1_has_17 : decode cX1_has 17 = .ok (.ireturn, 1) := by decide +kernel
set_option maxRecDepth 20000 in
theorem ggX1_hasSide_X1_has : GoodIn wsX1_hasSide wsX1_has := goodIn_r _ [5, 6, 10, 11, 12, 13, 14, 15, 16] (by decide +kernel) (by decide +kernel)
set_option maxRecDepth 20000 in
theorem gX1_hasSide_X1_has : GoodIn wsX1_hasSide (wsV RX1 34 RX1 yX1_has wsX1_has) := goodIn_app (goodIn_of _ (by decide +kernel)) ggX1_hasSide_X1_has
set_option maxRecDepth 20000 in
theorem ggX1_hasSide_X5_isWithin : GoodIn wsX1_hasSide wsX5_isWithin := goodIn_r _ [9] (by decide +kernel) (by decide +kernel)
set_option maxRecDepth 20000 in
theorem gX1_hasSide_X5_isWithin_n38 : GoodIn wsX1_hasSide (wsX5_isWithin) := ggX1_hasSide_X5_isWithin
theorem dX1_hasSide_0 : decode cX1_hasSide 0 = .ok (.aload_n 0, 1) := by decide +kernel
theorem dX1_hasSide_1 : decode cX1_hasSide 1 = .ok (.iload_n 1, 1) := by decide +kernel
theorem dX1_hasSide_2 : decode cX1_hasSide 2 = .ok (.invokevirtual 34, 3) := by decide +kernel
theorem dX1_hasSide_5 : decode cX1_hasSide 5 = .ok (.ifCond .eq 15, 3) := by decide +kernel
theorem dX1_hasSide_8 : decode cX1_hasSide 8 = .ok (.iload_n 2, 1) := by decide +kernel
theorem dX1_hasSide_9 : decode cX1_hasSide 9 = .ok (.iconst 1, 1) := by decide +kernel
theorem dX1_hasSide_10 : decode cX1_hasSide 10 = .ok (.invokestatic 38, 3) := by decide +kernel
theorem dX1_hasSide_13 : decode cX1_hasSide 13 = .ok (.ifCond .eq 7, 3) := by decide +kernel
theorem dX1_hasSide_16 : decode cX1_hasSide 16 = .ok (.iconst 1, 1) := by decide +kernel
theorem dX1_hasSide_17 : decode cX1_hasSide 17 = .ok (.goto 4, 3) := by decide +kernel
theorem dX1_hasSide_20 : decode cX1_hasSide 20 = .ok (.iconst 0, 1) := by decide +kernel
theorem dX1_hasSide_21 : decode cX1_hasSide 21 = .ok (.ireturn, 1) := by decide +kernel
theorem dX1_stainsApart_0 : decode cX1_stainsApart 0 = .ok (.iconst 0, 1) := by decide +kernel
theorem dX1_stainsApart_1 : decode cX1_stainsApart 1 = .ok (.istore_n 3, 1) := by decide +kernel
theorem dX1_stainsApart_2 : decode cX1_stainsApart 2 = .ok (.iconst 0, 1) := by decide +kernel
theorem dX1_stainsApart_3 : decode cX1_stainsApart 3 = .ok (.istore 4, 2) := by decide +kernel
theorem dX1_stainsApart_5 : decode cX1_stainsApart 5 = .ok (.iload 4, 2) := by decide +kernel
theorem dX1_stainsApart_7 : decode cX1_stainsApart 7 = .ok (.iconst 3, 1) := by decide +kernel
theorem dX1_stainsApart_8 : decode cX1_stainsApart 8 = .ok (.if_icmp .ge 38, 3) := by decide +kernel
theorem dX1_stainsApart_11 : decode cX1_stainsApart 11 = .ok (.iload_n 3, 1) := by decide +kernel
theorem dX1_stainsApart_12 : decode cX1_stainsApart 12 = .ok (.aload_n 0, 1) := by decide +kernel
theorem dX1_stainsApart_13 : decode cX1_stainsApart 13 = .ok (.getfield 27, 3) := by decide +kernel
theorem dX1_stainsApart_16 : decode cX1_stainsApart 16 = .ok (.iconst 3, 1) := by decide +kernel
theorem dX1_stainsApart_17 : decode cX1_stainsApart 17 = .ok (.iload_n 1, 1) := by decide +kernel
theorem dX1_stainsApart_18 : decode cX1_stainsApart 18 = .ok (.imul, 1) := by decide +kernel
theorem dX1_stainsApart_19 : decode cX1_stainsApart 19 = .ok (.iload 4, 2) := by decide +kernel
theorem dX1_stainsApart_21 : decode cX1_stainsApart 21 = .ok (.iadd, 1) := by decide +kernel
theorem dX1_stainsApart_22 : decode cX1_stainsApart 22 = .ok (.iaload, 1) := by decide +kernel
theorem dX1_stainsApart_23 : decode cX1_stainsApart 23 = .ok (.aload_n 0, 1) := by decide +kernel
theorem dX1_stainsApart_24 : decode cX1_stainsApart 24 = .ok (.getfield 27, 3) := by decide +kernel
theorem dX1_stainsApart_27 : decode cX1_stainsApart 27 = .ok (.iconst 3, 1) := by decide +kernel
theorem dX1_stainsApart_28 : decode cX1_stainsApart 28 = .ok (.iload_n 2, 1) := by decide +kernel
theorem dX1_stainsApart_29 : decode cX1_stainsApart 29 = .ok (.imul, 1) := by decide +kernel
theorem dX1_stainsApart_30 : decode cX1_stainsApart 30 = .ok (.iload 4, 2) := by decide +kernel
theorem dX1_stainsApart_32 : decode cX1_stainsApart 32 = .ok (.iadd, 1) := by decide +kernel
theorem dX1_stainsApart_33 : decode cX1_stainsApart 33 = .ok (.iaload, 1) := by decide +kernel
theorem dX1_stainsApart_34 : decode cX1_stainsApart 34 = .ok (.isub, 1) := by decide +kernel
theorem dX1_stainsApart_35 : decode cX1_stainsApart 35 = .ok (.invokestatic 42, 3) := by decide +kernel
theorem dX1_stainsApart_38 : decode cX1_stainsApart 38 = .ok (.iadd, 1) := by decide +kernel
theorem dX1_stainsApart_39 : decode cX1_stainsApart 39 = .ok (.istore_n 3, 1) := by decide +kernel
theorem dX1_stainsApart_40 : decode cX1_stainsApart 40 = .ok (.iinc 4 1, 3) := by decide +kernel
theorem dX1_stainsApart_43 : decode cX1_stainsApart 43 = .ok (.goto (-38), 3) := by decide +kernel
theorem dX1_stainsApart_46 : decode cX1_stainsApart 46 = .ok (.iload_n 3, 1) := by decide +kernel
theorem dX1_stainsApart_47 : decode cX1_stainsApart 47 = .ok (.ireturn, 1) := by decide +kernel
theorem dX2_init_0 : decode cX2_init 0 = .ok (.aload_n 0, 1) := by decide +kernel
theorem dX2_init_1 : decode cX2_init 1 = .ok (.invokespecial 3, 3) := by decide +kernel
theorem dX2_init_4 : decode cX2_init 4 = .ok (.aload_n 0, 1) := by decide +kernel
theorem dX2_init_5 : decode cX2_init 5 = .ok (.bipush 9, 2) := by decide +kernel
theorem dX2_init_7 : decode cX2_init 7 = .ok (.newarray .int, 2) := by decide +kernel
theorem dX2_init_9 : decode cX2_init 9 = .ok (.putfield 9, 3) := by decide +kernel
theorem dX2_init_12 : decode cX2_init 12 = .ok (.aload_n 0, 1) := by decide +kernel
theorem dX2_init_13 : decode cX2_init 13 = .ok (.bipush 9, 2) := by decide +kernel
theorem dX2_init_15 : decode cX2_init 15 = .ok (.newarray .int, 2) := by decide +kernel
theorem dX2_init_17 : decode cX2_init 17 = .ok (.putfield 15, 3) := by decide +kernel
theorem dX2_init_20 : decode cX2_init 20 = .ok (.aload_n 0, 1) := by decide +kernel
theorem dX2_init_21 : decode cX2_init 21 = .ok (.bipush 9, 2) := by decide +kernel
theorem dX2_init_23 : decode cX2_init 23 = .ok (.newarray .int, 2) := by decide +kernel
theorem dX2_init_25 : decode cX2_init 25 = .ok (.putfield 18, 3) := by decide +kernel
theorem dX2_init_28 : decode cX2_init 28 = .ok (.return_, 1) := by decide +kernel
set_option maxRecDepth 20000 in
theorem ggX2_putAhead_X2_withBit : GoodIn wsX2_putAhead wsX2_withBit := goodIn_r _ [5] (by decide +kernel) (by decide +kernel)
set_option maxRecDepth 20000 in
theorem gX2_putAhead_X2_withBit : GoodIn wsX2_putAhead (va_wsS RX2 21 yX2_withBit wsX2_withBit) := goodIn_app (goodIn_of _ (by decide +kernel)) ggX2_putAhead_X2_withBit
theorem dX2_putAhead_0 : decode cX2_putAhead 0 = .ok (.aload_n 0, 1) := by decide +kernel
theorem dX2_putAhead_1 : decode cX2_putAhead 1 = .ok (.getfield 9, 3) := by decide +kernel
theorem dX2_putAhead_4 : decode cX2_putAhead 4 = .ok (.iload_n 1, 1) := by decide +kernel
theorem dX2_putAhead_5 : decode cX2_putAhead 5 = .ok (.aload_n 0, 1) := by decide +kernel
theorem dX2_putAhead_6 : decode cX2_putAhead 6 = .ok (.getfield 9, 3) := by decide +kernel
theorem dX2_putAhead_9 : decode cX2_putAhead 9 = .ok (.iload_n 1, 1) := by decide +kernel
theorem dX2_putAhead_10 : decode cX2_putAhead 10 = .ok (.iaload, 1) := by decide +kernel
theorem dX2_putAhead_11 : decode cX2_putAhead 11 = .ok (.iload_n 2, 1) := by decide +kernel
theorem dX2_putAhead_12 : decode cX2_putAhead 12 = .ok (.iload_n 3, 1) := by decide +kernel
theorem dX2_putAhead_13 : decode cX2_putAhead 13 = .ok (.invokestatic 21, 3) := by decide +kernel
theorem dX2_putAhead_16 : decode cX2_putAhead 16 = .ok (.iastore, 1) := by decide +kernel
theorem dX2_putAhead_17 : decode cX2_putAhead 17 = .ok (.return_, 1) := by decide +kernel
set_option maxRecDepth 20000 in
theorem ggX2_putJoined_X2_withBit : GoodIn wsX2_putJoined wsX2_withBit := goodIn_r _ [6] (by decide +kernel) (by decide +kernel)
set_option maxRecDepth 20000 in
theorem gX2_putJoined_X2_withBit : GoodIn wsX2_putJoined (va_wsS RX2 21 yX2_withBit wsX2_withBit) := goodIn_app (goodIn_of _ (by decide +kernel)) ggX2_putJoined_X2_withBit
theorem dX2_putJoined_0 : decode cX2_putJoined 0 = .ok (.aload_n 0, 1) := by decide +kernel
theorem dX2_putJoined_1 : decode cX2_putJoined 1 = .ok (.getfield 15, 3) := by decide +kernel
theorem dX2_putJoined_4 : decode cX2_putJoined 4 = .ok (.iload_n 1, 1) := by decide +kernel
theorem dX2_putJoined_5 : decode cX2_putJoined 5 = .ok (.aload_n 0, 1) := by decide +kernel
theorem dX2_putJoined_6 : decode cX2_putJoined 6 = .ok (.getfield 15, 3) := by decide +kernel
theorem dX2_putJoined_9 : decode cX2_putJoined 9 = .ok (.iload_n 1, 1) := by decide +kernel
theorem dX2_putJoined_10 : decode cX2_putJoined 10 = .ok (.iaload, 1) := by decide +kernel
theorem dX2_putJoined_11 : decode cX2_putJoined 11 = .ok (.iload_n 2, 1) := by decide +kernel
theorem dX2_putJoined_12 : decode cX2_putJoined 12 = .ok (.iload_n 3, 1) := by decide +kernel
theorem dX2_putJoined_13 : decode cX2_putJoined 13 = .ok (.invokestatic 21, 3) := by decide +kernel
theorem dX2_putJoined_16 : decode cX2_putJoined 16 = .ok (.iastore, 1) := by decide +kernel
theorem dX2_putJoined_17 : decode cX2_putJoined 17 = .ok (.aload_n 0, 1) := by decide +kernel
theorem dX2_putJoined_18 : decode cX2_putJoined 18 = .ok (.getfield 18, 3) := by decide +kernel
theorem dX2_putJoined_21 : decode cX2_putJoined 21 = .ok (.iload_n 2, 1) := by decide +kernel
theorem dX2_putJoined_22 : decode cX2_putJoined 22 = .ok (.aload_n 0, 1) := by decide +kernel
theorem dX2_putJoined_23 : decode cX2_putJoined 23 = .ok (.getfield 18, 3) := by decide +kernel
theorem dX2_putJoined_26 : decode cX2_putJoined 26 = .ok (.iload_n 2, 1) := by decide +kernel
theorem dX2_putJoined_27 : decode cX2_putJoined 27 = .ok (.iaload, 1) := by decide +kernel
theorem dX2_putJoined_28 : decode cX2_putJoined 28 = .ok (.iload_n 1, 1) := by decide +kernel
theorem dX2_putJoined_29 : decode cX2_putJoined 29 = .ok (.iload_n 3, 1) := by decide +kernel
theorem dX2_putJoined_30 : decode cX2_putJoined 30 = .ok (.invokestatic 21, 3) := by decide +kernel
theorem dX2_putJoined_33 : decode cX2_putJoined 33 = .ok (.iastore, 1) := by decide +kernel
theorem dX2_putJoined_34 : decode cX2_putJoined 34 = .ok (.return_, 1) := by decide +kernel
theorem dX2_mayComeAfter_0 : decode cX2_mayComeAfter 0 = .ok (.aload_n 0, 1) := by decide +kernel
theorem dX2_mayComeAfter_1 : decode cX2_mayComeAfter 1 = .ok (.getfield 9, 3) := by decide +kernel
theorem dX2_mayComeAfter_4 : decode cX2_mayComeAfter 4 = .ok (.iload_n 1, 1) := by decide +kernel
theorem dX2_mayComeAfter_5 : decode cX2_mayComeAfter 5 = .ok (.iaload, 1) := by decide +kernel
theorem dX2_mayComeAfter_6 : decode cX2_mayComeAfter 6 = .ok (.aload_n 0, 1) := by decide +kernel
theorem dX2_mayComeAfter_7 : decode cX2_mayComeAfter 7 = .ok (.getfield 15, 3) := by decide +kernel
theorem dX2_mayComeAfter_10 : decode cX2_mayComeAfter 10 = .ok (.iload_n 1, 1) := by decide +kernel
theorem dX2_mayComeAfter_11 : decode cX2_mayComeAfter 11 = .ok (.iaload, 1) := by decide +kernel
theorem dX2_mayComeAfter_12 : decode cX2_mayComeAfter 12 = .ok (.ior, 1) := by decide +kernel
theorem dX2_mayComeAfter_13 : decode cX2_mayComeAfter 13 = .ok (.iload_n 2, 1) := by decide +kernel
theorem dX2_mayComeAfter_14 : decode cX2_mayComeAfter 14 = .ok (.iand, 1) := by decide +kernel
theorem dX2_mayComeAfter_15 : decode cX2_mayComeAfter 15 = .ok (.ifCond .ne 7, 3) := by decide +kernel
theorem dX2_mayComeAfter_18 : decode cX2_mayComeAfter 18 = .ok (.iconst 1, 1) := by decide +kernel
theorem dX2_mayComeAfter_19 : decode cX2_mayComeAfter 19 = .ok (.goto 4, 3) := by decide +kernel
theorem dX2_mayComeAfter_22 : decode cX2_mayComeAfter 22 = .ok (.iconst 0, 1) := by decide +kernel
theorem dX2_mayComeAfter_23 : decode cX2_mayComeAfter 23 = .ok (.ireturn, 1) := by decide +kernel
set_option maxRecDepth 20000 in
theorem ggX2_neighboursOf_J6_bitCount_0f7a4 : GoodIn wsX2_neighboursOf wsJ6_bitCount_0f7a4 := goodIn_r _ [5, 6, 7, 8] (by decide +kernel) (by decide +kernel)
set_option maxRecDepth 20000 in
theorem gX2_neighboursOf_J6_bitCount_0f7a4 : GoodIn wsX2_neighboursOf (va_wsS RX2 25 yJ6_bitCount_0f7a4 wsJ6_bitCount_0f7a4) := goodIn_app (goodIn_of _ (by decide +kernel)) ggX2_neighboursOf_J6_bitCount_0f7a4
theorem dX2_neighboursOf_0 : decode cX2_neighboursOf 0 = .ok (.aload_n 0, 1) := by decide +kernel
theorem dX2_neighboursOf_1 : decode cX2_neighboursOf 1 = .ok (.getfield 18, 3) := by decide +kernel
theorem dX2_neighboursOf_4 : decode cX2_neighboursOf 4 = .ok (.iload_n 1, 1) := by decide +kernel
theorem dX2_neighboursOf_5 : decode cX2_neighboursOf 5 = .ok (.iaload, 1) := by decide +kernel
theorem dX2_neighboursOf_6 : decode cX2_neighboursOf 6 = .ok (.iload_n 2, 1) := by decide +kernel
theorem dX2_neighboursOf_7 : decode cX2_neighboursOf 7 = .ok (.iand, 1) := by decide +kernel
theorem dX2_neighboursOf_8 : decode cX2_neighboursOf 8 = .ok (.istore_n 3, 1) := by decide +kernel
theorem dX2_neighboursOf_9 : decode cX2_neighboursOf 9 = .ok (.iload_n 3, 1) := by decide +kernel
theorem dX2_neighboursOf_10 : decode cX2_neighboursOf 10 = .ok (.ifCond .ne 5, 3) := by decide +kernel
theorem dX2_neighboursOf_13 : decode cX2_neighboursOf 13 = .ok (.iload_n 2, 1) := by decide +kernel
theorem dX2_neighboursOf_14 : decode cX2_neighboursOf 14 = .ok (.ireturn, 1) := by decide +kernel
theorem dX2_neighboursOf_15 : decode cX2_neighboursOf 15 = .ok (.iload_n 3, 1) := by decide +kernel
theorem dX2_neighboursOf_16 : decode cX2_neighboursOf 16 = .ok (.invokestatic 25, 3) := by decide +kernel
theorem dX2_neighboursOf_19 : decode cX2_neighboursOf 19 = .ok (.iconst 1, 1) := by decide +kernel
theorem dX2_neighboursOf_20 : decode cX2_neighboursOf 20 = .ok (.if_icmp .ne 7, 3) := by decide +kernel
theorem dX2_neighboursOf_23 : decode cX2_neighboursOf 23 = .ok (.iload_n 3, 1) := by decide +kernel
theorem dX2_neighboursOf_24 : decode cX2_neighboursOf 24 = .ok (.goto 4, 3) := by decide +kernel
theorem dX2_neighboursOf_27 : decode cX2_neighboursOf 27 = .ok (.iconst 0, 1) := by decide +kernel
theorem dX2_neighboursOf_28 : decode cX2_neighboursOf 28 = .ok (.ireturn, 1) := by decide +kernel
theorem dX2_withBit_0 : decode cX2_withBit 0 = .ok (.iload_n 2, 1) := by decide +kernel
theorem dX2_withBit_1 : decode cX2_withBit 1 = .ok (.ifCond .eq 11, 3) := by decide +kernel
theorem dX2_withBit_4 : decode cX2_withBit 4 = .ok (.iload_n 0, 1) := by decide +kernel
theorem dX2_withBit_5 : decode cX2_withBit 5 = .ok (.iconst 1, 1) := by decide +kernel
theorem dX2_withBit_6 : decode cX2_withBit 6 = .ok (.iload_n 1, 1) := by decide +kernel
theorem dX2_withBit_7 : decode cX2_withBit 7 = .ok (.ishl, 1) := by decide +kernel
theorem dX2_withBit_8 : decode cX2_withBit 8 = .ok (.ior, 1) := by decide +kernel
theorem dX2_withBit_9 : decode cX2_withBit 9 = .ok (.goto 10, 3) := by decide +kernel
theorem dX2_withBit_12 : decode cX2_withBit 12 = .ok (.iload_n 0, 1) := by decide +kernel
theorem dX2_withBit_13 : decode cX2_withBit 13 = .ok (.iconst 1, 1) := by decide +kernel
theorem dX2_withBit_14 : decode cX2_withBit 14 = .ok (.iload_n 1, 1) := by decide +kernel
theorem dX2_withBit_15 : decode cX2_withBit 15 = .ok (.ishl, 1) := by decide +kernel
theorem dX2_withBit_16 : decode cX2_withBit 16 = .ok (.iconst (-1), 1) := by decide +kernel
theorem dX2_withBit_17 : decode cX2_withBit 17 = .ok (.ixor, 1) := by decide +kernel
theorem dX2_withBit_18 : decode cX2_withBit 18 = .ok (.iand, 1) := by decide +kernel
theorem dX2_withBit_19 : decode cX2_withBit 19 = .ok (.ireturn, 1) := by decide +kernel
theorem dX3_init_0 : decode cX3_init 0 = .ok (.aload_n 0, 1) := by decide +kernel
theorem dX3_init_1 : decode cX3_init 1 = .ok (.invokespecial 3, 3) := by decide +kernel
theorem dX3_init_4 : decode cX3_init 4 = .ok (.aload_n 0, 1) := by decide +kernel
theorem dX3_init_5 : decode cX3_init 5 = .ok (.bipush 6, 2) := by decide +kernel
theorem dX3_init_7 : decode cX3_init 7 = .ok (.newarray .int, 2) := by decide +kernel
theorem dX3_init_9 : decode cX3_init 9 = .ok (.dup, 1) := by decide +kernel
theorem dX3_init_10 : decode cX3_init 10 = .ok (.iconst 0, 1) := by decide +kernel
theorem dX3_init_11 : decode cX3_init 11 = .ok (.iconst 1, 1) := by decide +kernel
theorem dX3_init_12 : decode cX3_init 12 = .ok (.iastore, 1) := by decide +kernel
theorem dX3_init_13 : decode cX3_init 13 = .ok (.dup, 1) := by decide +kernel
theorem dX3_init_14 : decode cX3_init 14 = .ok (.iconst 1, 1) := by decide +kernel
theorem dX3_init_15 : decode cX3_init 15 = .ok (.iconst 0, 1) := by decide +kernel
theorem dX3_init_16 : decode cX3_init 16 = .ok (.iastore, 1) := by decide +kernel
theorem dX3_init_17 : decode cX3_init 17 = .ok (.dup, 1) := by decide +kernel
theorem dX3_init_18 : decode cX3_init 18 = .ok (.iconst 2, 1) := by decide +kernel
theorem dX3_init_19 : decode cX3_init 19 = .ok (.bipush 20, 2) := by decide +kernel
theorem dX3_init_21 : decode cX3_init 21 = .ok (.iastore, 1) := by decide +kernel
theorem dX3_init_22 : decode cX3_init 22 = .ok (.dup, 1) := by decide +kernel
theorem dX3_init_23 : decode cX3_init 23 = .ok (.iconst 3, 1) := by decide +kernel
theorem dX3_init_24 : decode cX3_init 24 = .ok (.bipush 10, 2) := by decide +kernel
theorem dX3_init_26 : decode cX3_init 26 = .ok (.iastore, 1) := by decide +kernel
theorem dX3_init_27 : decode cX3_init 27 = .ok (.dup, 1) := by decide +kernel
theorem dX3_init_28 : decode cX3_init 28 = .ok (.iconst 4, 1) := by decide +kernel
theorem dX3_init_29 : decode cX3_init 29 = .ok (.bipush 30, 2) := by decide +kernel
theorem dX3_init_31 : decode cX3_init 31 = .ok (.iastore, 1) := by decide +kernel
theorem dX3_init_32 : decode cX3_init 32 = .ok (.dup, 1) := by decide +kernel
theorem dX3_init_33 : decode cX3_init 33 = .ok (.iconst 5, 1) := by decide +kernel
theorem dX3_init_34 : decode cX3_init 34 = .ok (.iconst 0, 1) := by decide +kernel
theorem dX3_init_35 : decode cX3_init 35 = .ok (.iastore, 1) := by decide +kernel
theorem dX3_init_36 : decode cX3_init 36 = .ok (.putfield 9, 3) := by decide +kernel
theorem dX3_init_39 : decode cX3_init 39 = .ok (.aload_n 0, 1) := by decide +kernel
theorem dX3_init_40 : decode cX3_init 40 = .ok (.aload_n 1, 1) := by decide +kernel
theorem dX3_init_41 : decode cX3_init 41 = .ok (.putfield 15, 3) := by decide +kernel
theorem dX3_init_44 : decode cX3_init 44 = .ok (.return_, 1) := by decide +kernel
set_option maxRecDepth 20000 in
theorem ggX3_joinCost_X3_fullCost : GoodIn wsX3_joinCost wsX3_fullCost := goodIn_r _ [6, 7, 8, 9, 1, 10, 11, 12, 13, 14, 15, 16, 17, 18, 19, 20, 21, 22, 23, 28, 29, 30, 31, 32, 33, 34, 35, 36] (by decide +kernel) (by decide +kernel)
set_option maxRecDepth 20000 in
theorem gX3_joinCost_X3_fullCost : GoodIn wsX3_joinCost (wsV RX3 19 RX3 yX3_fullCost wsX3_fullCost) := goodIn_app (goodIn_of _ (by decide +kernel)) ggX3_joinCost_X3_fullCost
set_option maxRecDepth 20000 in
theorem ggX3_joinCost_X3_isOverGap : GoodIn wsX3_joinCost wsX3_isOverGap := goodIn_r _ [27, 1, 28, 29] (by decide +kernel) (by decide +kernel)
set_option maxRecDepth 20000 in
theorem gX3_joinCost_X3_isOverGap : GoodIn wsX3_joinCost (wsV RX3 23 RX3 yX3_isOverGap wsX3_isOverGap) := goodIn_app (goodIn_of _ (by decide +kernel)) ggX3_joinCost_X3_isOverGap
theorem dX3_joinCost_0 : decode cX3_joinCost 0 = .ok (.aload_n 0, 1) := by decide +kernel
theorem dX3_joinCost_1 : decode cX3_joinCost 1 = .ok (.iload_n 1, 1) := by decide +kernel
theorem dX3_joinCost_2 : decode cX3_joinCost 2 = .ok (.iload_n 2, 1) := by decide +kernel
theorem dX3_joinCost_3 : decode cX3_joinCost 3 = .ok (.invokevirtual 19, 3) := by decide +kernel
theorem dX3_joinCost_6 : decode cX3_joinCost 6 = .ok (.istore_n 3, 1) := by decide +kernel
theorem dX3_joinCost_7 : decode cX3_joinCost 7 = .ok (.aload_n 0, 1) := by decide +kernel
theorem dX3_joinCost_8 : decode cX3_joinCost 8 = .ok (.iload_n 3, 1) := by decide +kernel
theorem dX3_joinCost_9 : decode cX3_joinCost 9 = .ok (.invokevirtual 23, 3) := by decide +kernel
theorem dX3_joinCost_12 : decode cX3_joinCost 12 = .ok (.ifCond .eq 12, 3) := by decide +kernel
theorem dX3_joinCost_15 : decode cX3_joinCost 15 = .ok (.aload_n 0, 1) := by decide +kernel
theorem dX3_joinCost_16 : decode cX3_joinCost 16 = .ok (.getfield 9, 3) := by decide +kernel
theorem dX3_joinCost_19 : decode cX3_joinCost 19 = .ok (.iconst 5, 1) := by decide +kernel
theorem dX3_joinCost_20 : decode cX3_joinCost 20 = .ok (.iaload, 1) := by decide +kernel
theorem dX3_joinCost_21 : decode cX3_joinCost 21 = .ok (.goto 4, 3) := by decide +kernel
theorem dX3_joinCost_24 : decode cX3_joinCost 24 = .ok (.iload_n 3, 1) := by decide +kernel
theorem dX3_joinCost_25 : decode cX3_joinCost 25 = .ok (.ireturn, 1) := by decide +kernel
set_option maxRecDepth 20000 in
theorem ggX3_isMissing_X3_fullCost : GoodIn wsX3_isMissing wsX3_fullCost := goodIn_r _ [5, 6, 7, 8, 9, 10, 11, 12, 13, 14, 15, 16, 17, 18, 19, 20, 21, 22, 23, 28, 29, 30, 31, 32, 33, 34, 35, 36] (by decide +kernel) (by decide +kernel)
set_option maxRecDepth 20000 in
theorem gX3_isMissing_X3_fullCost : GoodIn wsX3_isMissing (wsV RX3 19 RX3 yX3_fullCost wsX3_fullCost) := goodIn_app (goodIn_of _ (by decide +kernel)) ggX3_isMissing_X3_fullCost
set_option maxRecDepth 20000 in
theorem ggX3_isMissing_X3_isOverGap : GoodIn wsX3_isMissing wsX3_isOverGap := goodIn_r _ [27, 9, 28, 29] (by decide +kernel) (by decide +kernel)
set_option maxRecDepth 20000 in
theorem gX3_isMissing_X3_isOverGap : GoodIn wsX3_isMissing (wsV RX3 23 RX3 yX3_isOverGap wsX3_isOverGap) := goodIn_app (goodIn_of _ (by decide +kernel)) ggX3_isMissing_X3_isOverGap
theorem dX3_isMissing_0 : decode cX3_isMissing 0 = .ok (.aload_n 0, 1) := by decide +kernel
theorem dX3_isMissing_1 : decode cX3_isMissing 1 = .ok (.aload_n 0, 1) := by decide +kernel
theorem dX3_isMissing_2 : decode cX3_isMissing 2 = .ok (.iload_n 1, 1) := by decide +kernel
theorem dX3_isMissing_3 : decode cX3_isMissing 3 = .ok (.iload_n 2, 1) := by decide +kernel
theorem dX3_isMissing_4 : decode cX3_isMissing 4 = .ok (.invokevirtual 19, 3) := by decide +kernel
theorem dX3_isMissing_7 : decode cX3_isMissing 7 = .ok (.invokevirtual 23, 3) := by decide +kernel
theorem dX3_isMissing_10 : decode cX3_isMissing 10 = .ok (.ireturn, 1) := by decide +kernel
theorem dX3_isOverGap_0 : decode cX3_isOverGap 0 = .ok (.aload_n 0, 1) := by decide +kernel
theorem dX3_isOverGap_1 : decode cX3_isOverGap 1 = .ok (.getfield 9, 3) := by decide +kernel
theorem dX3_isOverGap_4 : decode cX3_isOverGap 4 = .ok (.iconst 5, 1) := by decide +kernel
theorem dX3_isOverGap_5 : decode cX3_isOverGap 5 = .ok (.iaload, 1) := by decide +kernel
theorem dX3_isOverGap_6 : decode cX3_isOverGap 6 = .ok (.ifCond .le 17, 3) := by decide +kernel
theorem dX3_isOverGap_9 : decode cX3_isOverGap 9 = .ok (.iload_n 1, 1) := by decide +kernel
theorem dX3_isOverGap_10 : decode cX3_isOverGap 10 = .ok (.aload_n 0, 1) := by decide +kernel
theorem dX3_isOverGap_11 : decode cX3_isOverGap 11 = .ok (.getfield 9, 3) := by decide +kernel
theorem dX3_isOverGap_14 : decode cX3_isOverGap 14 = .ok (.iconst 5, 1) := by decide +kernel
theorem dX3_isOverGap_15 : decode cX3_isOverGap 15 = .ok (.iaload, 1) := by decide +kernel
theorem dX3_isOverGap_16 : decode cX3_isOverGap 16 = .ok (.if_icmp .le 7, 3) := by decide +kernel
theorem dX3_isOverGap_19 : decode cX3_isOverGap 19 = .ok (.iconst 1, 1) := by decide +kernel
theorem dX3_isOverGap_20 : decode cX3_isOverGap 20 = .ok (.goto 4, 3) := by decide +kernel
theorem dX3_isOverGap_23 : decode cX3_isOverGap 23 = .ok (.iconst 0, 1) := by decide +kernel
theorem dX3_isOverGap_24 : decode cX3_isOverGap 24 = .ok (.ireturn, 1) := by decide +kernel
set_option maxRecDepth 20000 in
theorem ggX3_fullCost_X1_stainsApart : GoodIn wsX3_fullCost wsX1_stainsApart := goodIn_r _ [16, 17, 18, 7, 8, 9, 21, 22, 23, 24, 25, 26, 27] (by decide +kernel) (by decide +kernel)
set_option maxRecDepth 20000 in
theorem gX3_fullCost_X1_stainsApart : GoodIn wsX3_fullCost (wsV RX3 50 RX1 yX1_stainsApart wsX1_stainsApart) := goodIn_app (goodIn_of _ (by decide +kernel)) ggX3_fullCost_X1_stainsApart
theorem dX3_fullCost_0 : decode cX3_fullCost 0 = .ok (.iload_n 1, 1) := by decide +kernel
theorem dX3_fullCost_1 : decode cX3_fullCost 1 = .ok (.iconst 1, 1) := by decide +kernel
theorem dX3_fullCost_2 : decode cX3_fullCost 2 = .ok (.ixor, 1) := by decide +kernel
theorem dX3_fullCost_3 : decode cX3_fullCost 3 = .ok (.istore_n 3, 1) := by decide +kernel
theorem dX3_fullCost_4 : decode cX3_fullCost 4 = .ok (.iload_n 2, 1) := by decide +kernel
theorem dX3_fullCost_5 : decode cX3_fullCost 5 = .ok (.istore 4, 2) := by decide +kernel
theorem dX3_fullCost_7 : decode cX3_fullCost 7 = .ok (.aload_n 0, 1) := by decide +kernel
theorem dX3_fullCost_8 : decode cX3_fullCost 8 = .ok (.getfield 15, 3) := by decide +kernel
theorem dX3_fullCost_11 : decode cX3_fullCost 11 = .ok (.getfield 27, 3) := by decide +kernel
theorem dX3_fullCost_14 : decode cX3_fullCost 14 = .ok (.iload 4, 2) := by decide +kernel
theorem dX3_fullCost_16 : decode cX3_fullCost 16 = .ok (.iaload, 1) := by decide +kernel
theorem dX3_fullCost_17 : decode cX3_fullCost 17 = .ok (.istore 5, 2) := by decide +kernel
theorem dX3_fullCost_19 : decode cX3_fullCost 19 = .ok (.aload_n 0, 1) := by decide +kernel
theorem dX3_fullCost_20 : decode cX3_fullCost 20 = .ok (.getfield 15, 3) := by decide +kernel
theorem dX3_fullCost_23 : decode cX3_fullCost 23 = .ok (.getfield 32, 3) := by decide +kernel
theorem dX3_fullCost_26 : decode cX3_fullCost 26 = .ok (.iload_n 3, 1) := by decide +kernel
theorem dX3_fullCost_27 : decode cX3_fullCost 27 = .ok (.iaload, 1) := by decide +kernel
theorem dX3_fullCost_28 : decode cX3_fullCost 28 = .ok (.istore 6, 2) := by decide +kernel
theorem dX3_fullCost_30 : decode cX3_fullCost 30 = .ok (.aload_n 0, 1) := by decide +kernel
theorem dX3_fullCost_31 : decode cX3_fullCost 31 = .ok (.getfield 9, 3) := by decide +kernel
theorem dX3_fullCost_34 : decode cX3_fullCost 34 = .ok (.iconst 0, 1) := by decide +kernel
theorem dX3_fullCost_35 : decode cX3_fullCost 35 = .ok (.iaload, 1) := by decide +kernel
theorem dX3_fullCost_36 : decode cX3_fullCost 36 = .ok (.iload 5, 2) := by decide +kernel
theorem dX3_fullCost_38 : decode cX3_fullCost 38 = .ok (.aload_n 0, 1) := by decide +kernel
theorem dX3_fullCost_39 : decode cX3_fullCost 39 = .ok (.getfield 15, 3) := by decide +kernel
theorem dX3_fullCost_42 : decode cX3_fullCost 42 = .ok (.getfield 35, 3) := by decide +kernel
theorem dX3_fullCost_45 : decode cX3_fullCost 45 = .ok (.iload_n 3, 1) := by decide +kernel
theorem dX3_fullCost_46 : decode cX3_fullCost 46 = .ok (.iaload, 1) := by decide +kernel
theorem dX3_fullCost_47 : decode cX3_fullCost 47 = .ok (.isub, 1) := by decide +kernel
theorem dX3_fullCost_48 : decode cX3_fullCost 48 = .ok (.invokestatic 38, 3) := by decide +kernel
theorem dX3_fullCost_51 : decode cX3_fullCost 51 = .ok (.imul, 1) := by decide +kernel
theorem dX3_fullCost_52 : decode cX3_fullCost 52 = .ok (.istore 7, 2) := by decide +kernel
theorem dX3_fullCost_54 : decode cX3_fullCost 54 = .ok (.iload 6, 2) := by decide +kernel
theorem dX3_fullCost_56 : decode cX3_fullCost 56 = .ok (.iconst (-1), 1) := by decide +kernel
theorem dX3_fullCost_57 : decode cX3_fullCost 57 = .ok (.if_icmp .eq 21, 3) := by decide +kernel
theorem dX3_fullCost_60 : decode cX3_fullCost 60 = .ok (.iload 6, 2) := by decide +kernel
theorem dX3_fullCost_62 : decode cX3_fullCost 62 = .ok (.iload 5, 2) := by decide +kernel
theorem dX3_fullCost_64 : decode cX3_fullCost 64 = .ok (.if_icmp .eq 14, 3) := by decide +kernel
theorem dX3_fullCost_67 : decode cX3_fullCost 67 = .ok (.iload 7, 2) := by decide +kernel
theorem dX3_fullCost_69 : decode cX3_fullCost 69 = .ok (.aload_n 0, 1) := by decide +kernel
theorem dX3_fullCost_70 : decode cX3_fullCost 70 = .ok (.getfield 9, 3) := by decide +kernel
theorem dX3_fullCost_73 : decode cX3_fullCost 73 = .ok (.iconst 2, 1) := by decide +kernel
theorem dX3_fullCost_74 : decode cX3_fullCost 74 = .ok (.iaload, 1) := by decide +kernel
theorem dX3_fullCost_75 : decode cX3_fullCost 75 = .ok (.iadd, 1) := by decide +kernel
theorem dX3_fullCost_76 : decode cX3_fullCost 76 = .ok (.istore 7, 2) := by decide +kernel
theorem dX3_fullCost_78 : decode cX3_fullCost 78 = .ok (.aload_n 0, 1) := by decide +kernel
theorem dX3_fullCost_79 : decode cX3_fullCost 79 = .ok (.getfield 15, 3) := by decide +kernel
theorem dX3_fullCost_82 : decode cX3_fullCost 82 = .ok (.getfield 44, 3) := by decide +kernel
theorem dX3_fullCost_85 : decode cX3_fullCost 85 = .ok (.iload_n 3, 1) := by decide +kernel
theorem dX3_fullCost_86 : decode cX3_fullCost 86 = .ok (.iaload, 1) := by decide +kernel
theorem dX3_fullCost_87 : decode cX3_fullCost 87 = .ok (.aload_n 0, 1) := by decide +kernel
theorem dX3_fullCost_88 : decode cX3_fullCost 88 = .ok (.getfield 15, 3) := by decide +kernel
theorem dX3_fullCost_91 : decode cX3_fullCost 91 = .ok (.getfield 47, 3) := by decide +kernel
theorem dX3_fullCost_94 : decode cX3_fullCost 94 = .ok (.iload 4, 2) := by decide +kernel
theorem dX3_fullCost_96 : decode cX3_fullCost 96 = .ok (.iaload, 1) := by decide +kernel
theorem dX3_fullCost_97 : decode cX3_fullCost 97 = .ok (.if_icmp .eq 14, 3) := by decide +kernel
theorem dX3_fullCost_100 : decode cX3_fullCost 100 = .ok (.iload 7, 2) := by decide +kernel
theorem dX3_fullCost_102 : decode cX3_fullCost 102 = .ok (.aload_n 0, 1) := by decide +kernel
theorem dX3_fullCost_103 : decode cX3_fullCost 103 = .ok (.getfield 9, 3) := by decide +kernel
theorem dX3_fullCost_106 : decode cX3_fullCost 106 = .ok (.iconst 3, 1) := by decide +kernel
theorem dX3_fullCost_107 : decode cX3_fullCost 107 = .ok (.iaload, 1) := by decide +kernel
theorem dX3_fullCost_108 : decode cX3_fullCost 108 = .ok (.iadd, 1) := by decide +kernel
theorem dX3_fullCost_109 : decode cX3_fullCost 109 = .ok (.istore 7, 2) := by decide +kernel
theorem dX3_fullCost_111 : decode cX3_fullCost 111 = .ok (.iload 7, 2) := by decide +kernel
theorem dX3_fullCost_113 : decode cX3_fullCost 113 = .ok (.aload_n 0, 1) := by decide +kernel
theorem dX3_fullCost_114 : decode cX3_fullCost 114 = .ok (.getfield 9, 3) := by decide +kernel
theorem dX3_fullCost_117 : decode cX3_fullCost 117 = .ok (.iconst 1, 1) := by decide +kernel
theorem dX3_fullCost_118 : decode cX3_fullCost 118 = .ok (.iaload, 1) := by decide +kernel
theorem dX3_fullCost_119 : decode cX3_fullCost 119 = .ok (.aload_n 0, 1) := by decide +kernel
theorem dX3_fullCost_120 : decode cX3_fullCost 120 = .ok (.getfield 15, 3) := by decide +kernel
theorem dX3_fullCost_123 : decode cX3_fullCost 123 = .ok (.iload_n 1, 1) := by decide +kernel
theorem dX3_fullCost_124 : decode cX3_fullCost 124 = .ok (.iconst 1, 1) := by decide +kernel
theorem dX3_fullCost_125 : decode cX3_fullCost 125 = .ok (.ishr, 1) := by decide +kernel
theorem dX3_fullCost_126 : decode cX3_fullCost 126 = .ok (.iload_n 2, 1) := by decide +kernel
theorem dX3_fullCost_127 : decode cX3_fullCost 127 = .ok (.iconst 1, 1) := by decide +kernel
theorem dX3_fullCost_128 : decode cX3_fullCost 128 = .ok (.ishr, 1) := by decide +kernel
theorem dX3_fullCost_129 : decode cX3_fullCost 129 = .ok (.invokevirtual 50, 3) := by decide +kernel
theorem dX3_fullCost_132 : decode cX3_fullCost 132 = .ok (.imul, 1) := by decide +kernel
theorem dX3_fullCost_133 : decode cX3_fullCost 133 = .ok (.iadd, 1) := by decide +kernel
theorem dX3_fullCost_134 : decode cX3_fullCost 134 = .ok (.ireturn, 1) := by decide +kernel
theorem dX4_init_0 : decode cX4_init 0 = .ok (.aload_n 0, 1) := by decide +kernel
theorem dX4_init_1 : decode cX4_init 1 = .ok (.invokespecial 3, 3) := by decide +kernel
theorem dX4_init_4 : decode cX4_init 4 = .ok (.aload_n 0, 1) := by decide +kernel
theorem dX4_init_5 : decode cX4_init 5 = .ok (.sipush 324, 3) := by decide +kernel
theorem dX4_init_8 : decode cX4_init 8 = .ok (.newarray .int, 2) := by decide +kernel
theorem dX4_init_10 : decode cX4_init 10 = .ok (.putfield 9, 3) := by decide +kernel
theorem dX4_init_13 : decode cX4_init 13 = .ok (.aload_n 0, 1) := by decide +kernel
theorem dX4_init_14 : decode cX4_init 14 = .ok (.sipush 9216, 3) := by decide +kernel
theorem dX4_init_17 : decode cX4_init 17 = .ok (.newarray .int, 2) := by decide +kernel
theorem dX4_init_19 : decode cX4_init 19 = .ok (.putfield 15, 3) := by decide +kernel
theorem dX4_init_22 : decode cX4_init 22 = .ok (.aload_n 0, 1) := by decide +kernel
theorem dX4_init_23 : decode cX4_init 23 = .ok (.sipush 512, 3) := by decide +kernel
theorem dX4_init_26 : decode cX4_init 26 = .ok (.newarray .int, 2) := by decide +kernel
theorem dX4_init_28 : decode cX4_init 28 = .ok (.putfield 18, 3) := by decide +kernel
theorem dX4_init_31 : decode cX4_init 31 = .ok (.aload_n 0, 1) := by decide +kernel
theorem dX4_init_32 : decode cX4_init 32 = .ok (.bipush 9, 2) := by decide +kernel
theorem dX4_init_34 : decode cX4_init 34 = .ok (.newarray .int, 2) := by decide +kernel
theorem dX4_init_36 : decode cX4_init 36 = .ok (.putfield 21, 3) := by decide +kernel
theorem dX4_init_39 : decode cX4_init 39 = .ok (.aload_n 0, 1) := by decide +kernel
theorem dX4_init_40 : decode cX4_init 40 = .ok (.aload_n 1, 1) := by decide +kernel
theorem dX4_init_41 : decode cX4_init 41 = .ok (.putfield 24, 3) := by decide +kernel
theorem dX4_init_44 : decode cX4_init 44 = .ok (.return_, 1) := by decide +kernel
set_option maxRecDepth 20000 in
theorem ggX4_prepare_X3_joinCost : GoodIn wsX4_prepare wsX3_joinCost := goodIn_r _ [12, 13, 14, 15, 16, 11, 17, 18, 19, 20, 21, 22, 23, 24, 25, 26, 27, 28, 29, 30, 31, 32, 33, 34, 35, 36, 37, 38, 39, 40, 41, 42, 43, 44, 45, 46, 47] (by decide +kernel) (by decide +kernel)
set_option maxRecDepth 20000 in
theorem gX4_prepare_X3_joinCost : GoodIn wsX4_prepare (wsV RX4 48 RX3 yX3_joinCost wsX3_joinCost) := goodIn_app (goodIn_of _ (by decide +kernel)) ggX4_prepare_X3_joinCost
theorem dX4_prepare_0 : decode cX4_prepare 0 = .ok (.aload_n 0, 1) := by decide +kernel
theorem dX4_prepare_1 : decode cX4_prepare 1 = .ok (.aload_n 1, 1) := by decide +kernel
theorem dX4_prepare_2 : decode cX4_prepare 2 = .ok (.getfield 28, 3) := by decide +kernel
theorem dX4_prepare_5 : decode cX4_prepare 5 = .ok (.getfield 34, 3) := by decide +kernel
theorem dX4_prepare_8 : decode cX4_prepare 8 = .ok (.putfield 40, 3) := by decide +kernel
theorem dX4_prepare_11 : decode cX4_prepare 11 = .ok (.aload_n 0, 1) := by decide +kernel
theorem dX4_prepare_12 : decode cX4_prepare 12 = .ok (.iload_n 2, 1) := by decide +kernel
theorem dX4_prepare_13 : decode cX4_prepare 13 = .ok (.ifCond .eq 12, 3) := by decide +kernel
theorem dX4_prepare_16 : decode cX4_prepare 16 = .ok (.aload_n 1, 1) := by decide +kernel
theorem dX4_prepare_17 : decode cX4_prepare 17 = .ok (.getfield 41, 3) := by decide +kernel
theorem dX4_prepare_20 : decode cX4_prepare 20 = .ok (.iconst 4, 1) := by decide +kernel
theorem dX4_prepare_21 : decode cX4_prepare 21 = .ok (.iaload, 1) := by decide +kernel
theorem dX4_prepare_22 : decode cX4_prepare 22 = .ok (.goto 5, 3) := by decide +kernel
theorem dX4_prepare_25 : decode cX4_prepare 25 = .ok (.ldc 44, 2) := by decide +kernel
theorem dX4_prepare_27 : decode cX4_prepare 27 = .ok (.putfield 45, 3) := by decide +kernel
theorem dX4_prepare_30 : decode cX4_prepare 30 = .ok (.iconst 0, 1) := by decide +kernel
theorem dX4_prepare_31 : decode cX4_prepare 31 = .ok (.istore_n 3, 1) := by decide +kernel
theorem dX4_prepare_32 : decode cX4_prepare 32 = .ok (.iload_n 3, 1) := by decide +kernel
theorem dX4_prepare_33 : decode cX4_prepare 33 = .ok (.iconst 2, 1) := by decide +kernel
theorem dX4_prepare_34 : decode cX4_prepare 34 = .ok (.aload_n 0, 1) := by decide +kernel
theorem dX4_prepare_35 : decode cX4_prepare 35 = .ok (.getfield 40, 3) := by decide +kernel
theorem dX4_prepare_38 : decode cX4_prepare 38 = .ok (.imul, 1) := by decide +kernel
theorem dX4_prepare_39 : decode cX4_prepare 39 = .ok (.if_icmp .ge 48, 3) := by decide +kernel
theorem dX4_prepare_42 : decode cX4_prepare 42 = .ok (.iconst 0, 1) := by decide +kernel
theorem dX4_prepare_43 : decode cX4_prepare 43 = .ok (.istore 4, 2) := by decide +kernel
theorem dX4_prepare_45 : decode cX4_prepare 45 = .ok (.iload 4, 2) := by decide +kernel
theorem dX4_prepare_47 : decode cX4_prepare 47 = .ok (.iconst 2, 1) := by decide +kernel
theorem dX4_prepare_48 : decode cX4_prepare 48 = .ok (.aload_n 0, 1) := by decide +kernel
theorem dX4_prepare_49 : decode cX4_prepare 49 = .ok (.getfield 40, 3) := by decide +kernel
theorem dX4_prepare_52 : decode cX4_prepare 52 = .ok (.imul, 1) := by decide +kernel
theorem dX4_prepare_53 : decode cX4_prepare 53 = .ok (.if_icmp .ge 28, 3) := by decide +kernel
theorem dX4_prepare_56 : decode cX4_prepare 56 = .ok (.aload_n 0, 1) := by decide +kernel
theorem dX4_prepare_57 : decode cX4_prepare 57 = .ok (.getfield 9, 3) := by decide +kernel
theorem dX4_prepare_60 : decode cX4_prepare 60 = .ok (.iload_n 3, 1) := by decide +kernel
theorem dX4_prepare_61 : decode cX4_prepare 61 = .ok (.bipush 18, 2) := by decide +kernel
theorem dX4_prepare_63 : decode cX4_prepare 63 = .ok (.imul, 1) := by decide +kernel
theorem dX4_prepare_64 : decode cX4_prepare 64 = .ok (.iload 4, 2) := by decide +kernel
theorem dX4_prepare_66 : decode cX4_prepare 66 = .ok (.iadd, 1) := by decide +kernel
theorem dX4_prepare_67 : decode cX4_prepare 67 = .ok (.aload_n 1, 1) := by decide +kernel
theorem dX4_prepare_68 : decode cX4_prepare 68 = .ok (.iload_n 3, 1) := by decide +kernel
theorem dX4_prepare_69 : decode cX4_prepare 69 = .ok (.iload 4, 2) := by decide +kernel
theorem dX4_prepare_71 : decode cX4_prepare 71 = .ok (.invokevirtual 48, 3) := by decide +kernel
theorem dX4_prepare_74 : decode cX4_prepare 74 = .ok (.iastore, 1) := by decide +kernel
theorem dX4_prepare_75 : decode cX4_prepare 75 = .ok (.iinc 4 1, 3) := by decide +kernel
theorem dX4_prepare_78 : decode cX4_prepare 78 = .ok (.goto (-33), 3) := by decide +kernel
theorem dX4_prepare_81 : decode cX4_prepare 81 = .ok (.iinc 3 1, 3) := by decide +kernel
theorem dX4_prepare_84 : decode cX4_prepare 84 = .ok (.goto (-52), 3) := by decide +kernel
theorem dX4_prepare_87 : decode cX4_prepare 87 = .ok (.return_, 1) := by decide +kernel
set_option maxRecDepth 20000 in
theorem ggX4_solve_X4_fill : GoodIn wsX4_solve wsX4_fill := goodIn_r _ [9, 10, 11, 12, 13, 14, 8, 15, 16, 17, 18, 19, 20, 21, 22, 23, 24, 25, 26, 27, 28, 29, 30, 31, 32, 3, 33, 34, 35, 36, 37, 38, 39, 40, 41, 42, 43, 44, 45, 46, 47, 48, 49, 67, 68, 69, 70, 71, 72, 73, 74, 75, 76, 77, 78] (by decide +kernel) (by decide +kernel)
set_option maxRecDepth 20000 in
theorem gX4_solve_X4_fill : GoodIn wsX4_solve (wsV RX4 52 RX4 yX4_fill wsX4_fill) := goodIn_app (goodIn_of _ (by decide +kernel)) ggX4_solve_X4_fill
set_option maxRecDepth 20000 in
theorem ggX4_solve_X4_all : GoodIn wsX4_solve wsX4_all := goodIn_r _ [15, 10, 67, 68, 69, 70, 71, 72, 73, 74, 75] (by decide +kernel) (by decide +kernel)
set_option maxRecDepth 20000 in
theorem gX4_solve_X4_all : GoodIn wsX4_solve (wsV RX4 56 RX4 yX4_all wsX4_all) := goodIn_app (goodIn_of _ (by decide +kernel)) ggX4_solve_X4_all
set_option maxRecDepth 20000 in
theorem ggX4_solve_X4_leastOf : GoodIn wsX4_solve wsX4_leastOf := goodIn_r _ [53, 3, 10, 38, 34, 35, 36, 37, 67, 68, 69, 70, 71, 72, 73, 74, 75] (by decide +kernel) (by decide +kernel)
set_option maxRecDepth 20000 in
theorem gX4_solve_X4_leastOf : GoodIn wsX4_solve (wsV RX4 60 RX4 yX4_leastOf wsX4_leastOf) := goodIn_app (goodIn_of _ (by decide +kernel)) ggX4_solve_X4_leastOf
set_option maxRecDepth 20000 in
theorem ggX4_solve_X4_trace : GoodIn wsX4_solve wsX4_trace := goodIn_r _ [57, 10, 58, 33, 12, 13, 14, 8, 15, 59, 60, 61, 62, 11, 3, 38, 4, 34, 35, 36, 37, 16, 17, 18, 19, 20, 21, 22, 23, 24, 25, 26, 27, 28, 63, 64, 65, 66, 49, 67, 68, 69, 70, 71, 72, 73, 74, 75, 76, 77, 78] (by decide +kernel) (by decide +kernel)
set_option maxRecDepth 20000 in
theorem gX4_solve_X4_trace : GoodIn wsX4_solve (wsV RX4 70 RX4 yX4_trace wsX4_trace) := goodIn_app (goodIn_of _ (by decide +kernel)) ggX4_solve_X4_trace
theorem dX4_solve_0 : decode cX4_solve 0 = .ok (.aload_n 0, 1) := by decide +kernel
theorem dX4_solve_1 : decode cX4_solve 1 = .ok (.iconst (-1), 1) := by decide +kernel
theorem dX4_solve_2 : decode cX4_solve 2 = .ok (.iconst (-1), 1) := by decide +kernel
theorem dX4_solve_3 : decode cX4_solve 3 = .ok (.invokevirtual 52, 3) := by decide +kernel
theorem dX4_solve_6 : decode cX4_solve 6 = .ok (.aload_n 0, 1) := by decide +kernel
theorem dX4_solve_7 : decode cX4_solve 7 = .ok (.getfield 18, 3) := by decide +kernel
theorem dX4_solve_10 : decode cX4_solve 10 = .ok (.iconst 0, 1) := by decide +kernel
theorem dX4_solve_11 : decode cX4_solve 11 = .ok (.iconst 0, 1) := by decide +kernel
theorem dX4_solve_12 : decode cX4_solve 12 = .ok (.iastore, 1) := by decide +kernel
theorem dX4_solve_13 : decode cX4_solve 13 = .ok (.iconst 1, 1) := by decide +kernel
theorem dX4_solve_14 : decode cX4_solve 14 = .ok (.istore_n 1, 1) := by decide +kernel
theorem dX4_solve_15 : decode cX4_solve 15 = .ok (.iload_n 1, 1) := by decide +kernel
theorem dX4_solve_16 : decode cX4_solve 16 = .ok (.aload_n 0, 1) := by decide +kernel
theorem dX4_solve_17 : decode cX4_solve 17 = .ok (.invokevirtual 56, 3) := by decide +kernel
theorem dX4_solve_20 : decode cX4_solve 20 = .ok (.if_icmp .gt 20, 3) := by decide +kernel
theorem dX4_solve_23 : decode cX4_solve 23 = .ok (.aload_n 0, 1) := by decide +kernel
theorem dX4_solve_24 : decode cX4_solve 24 = .ok (.getfield 18, 3) := by decide +kernel
theorem dX4_solve_27 : decode cX4_solve 27 = .ok (.iload_n 1, 1) := by decide +kernel
theorem dX4_solve_28 : decode cX4_solve 28 = .ok (.aload_n 0, 1) := by decide +kernel
theorem dX4_solve_29 : decode cX4_solve 29 = .ok (.iload_n 1, 1) := by decide +kernel
theorem dX4_solve_30 : decode cX4_solve 30 = .ok (.invokevirtual 60, 3) := by decide +kernel
theorem dX4_solve_33 : decode cX4_solve 33 = .ok (.iastore, 1) := by decide +kernel
theorem dX4_solve_34 : decode cX4_solve 34 = .ok (.iinc 1 1, 3) := by decide +kernel
theorem dX4_solve_37 : decode cX4_solve 37 = .ok (.goto (-22), 3) := by decide +kernel
theorem dX4_solve_40 : decode cX4_solve 40 = .ok (.aload_n 0, 1) := by decide +kernel
theorem dX4_solve_41 : decode cX4_solve 41 = .ok (.aload_n 0, 1) := by decide +kernel
theorem dX4_solve_42 : decode cX4_solve 42 = .ok (.getfield 18, 3) := by decide +kernel
theorem dX4_solve_45 : decode cX4_solve 45 = .ok (.aload_n 0, 1) := by decide +kernel
theorem dX4_solve_46 : decode cX4_solve 46 = .ok (.invokevirtual 56, 3) := by decide +kernel
theorem dX4_solve_49 : decode cX4_solve 49 = .ok (.iaload, 1) := by decide +kernel
theorem dX4_solve_50 : decode cX4_solve 50 = .ok (.putfield 64, 3) := by decide +kernel
theorem dX4_solve_53 : decode cX4_solve 53 = .ok (.aload_n 0, 1) := by decide +kernel
theorem dX4_solve_54 : decode cX4_solve 54 = .ok (.ldc 44, 2) := by decide +kernel
theorem dX4_solve_56 : decode cX4_solve 56 = .ok (.putfield 67, 3) := by decide +kernel
theorem dX4_solve_59 : decode cX4_solve 59 = .ok (.aload_n 0, 1) := by decide +kernel
theorem dX4_solve_60 : decode cX4_solve 60 = .ok (.getfield 64, 3) := by decide +kernel
theorem dX4_solve_63 : decode cX4_solve 63 = .ok (.ldc 44, 2) := by decide +kernel
theorem dX4_solve_65 : decode cX4_solve 65 = .ok (.if_icmp .ge 7, 3) := by decide +kernel
theorem dX4_solve_68 : decode cX4_solve 68 = .ok (.aload_n 0, 1) := by decide +kernel
theorem dX4_solve_69 : decode cX4_solve 69 = .ok (.invokevirtual 70, 3) := by decide +kernel
theorem dX4_solve_72 : decode cX4_solve 72 = .ok (.return_, 1) := by decide +kernel
set_option maxRecDepth 20000 in
theorem ggX4_isSure_X4_isInBest : GoodIn wsX4_isSure wsX4_isInBest := goodIn_r _ [7, 8, 9, 58, 59, 60, 61, 62, 63, 64, 65, 66] (by decide +kernel) (by decide +kernel)
set_option maxRecDepth 20000 in
theorem gX4_isSure_X4_isInBest : GoodIn wsX4_isSure (wsV RX4 73 RX4 yX4_isInBest wsX4_isInBest) := goodIn_app (goodIn_of _ (by decide +kernel)) ggX4_isSure_X4_isInBest
set_option maxRecDepth 20000 in
theorem ggX4_isSure_X4_fill : GoodIn wsX4_isSure wsX4_fill := goodIn_r _ [13, 8, 14, 15, 16, 17, 6, 18, 19, 20, 21, 22, 23, 24, 25, 26, 27, 28, 29, 30, 31, 32, 33, 34, 35, 36, 37, 38, 39, 40, 41, 42, 43, 44, 45, 46, 47, 48, 49, 50, 51, 52, 53, 58, 59, 60, 61, 62, 63, 64, 65, 66, 67, 68, 69] (by decide +kernel) (by decide +kernel)
set_option maxRecDepth 20000 in
theorem gX4_isSure_X4_fill : GoodIn wsX4_isSure (wsV RX4 52 RX4 yX4_fill wsX4_fill) := goodIn_app (goodIn_of _ (by decide +kernel)) ggX4_isSure_X4_fill
set_option maxRecDepth 20000 in
theorem ggX4_isSure_X4_all : GoodIn wsX4_isSure wsX4_all := goodIn_r _ [18, 8, 58, 59, 60, 61, 62, 63, 64, 65, 66] (by decide +kernel) (by decide +kernel)
set_option maxRecDepth 20000 in
theorem gX4_isSure_X4_all : GoodIn wsX4_isSure (wsV RX4 56 RX4 yX4_all wsX4_all) := goodIn_app (goodIn_of _ (by decide +kernel)) ggX4_isSure_X4_all
set_option maxRecDepth 20000 in
theorem ggX4_isSure_X4_leastOf : GoodIn wsX4_isSure wsX4_leastOf := goodIn_r _ [57, 36, 8, 42, 38, 39, 40, 41, 58, 59, 60, 61, 62, 63, 64, 65, 66] (by decide +kernel) (by decide +kernel)
set_option maxRecDepth 20000 in
theorem gX4_isSure_X4_leastOf : GoodIn wsX4_isSure (wsV RX4 60 RX4 yX4_leastOf wsX4_leastOf) := goodIn_app (goodIn_of _ (by decide +kernel)) ggX4_isSure_X4_leastOf
theorem dX4_isSure_0 : decode cX4_isSure 0 = .ok (.aload_n 0, 1) := by decide +kernel
theorem dX4_isSure_1 : decode cX4_isSure 1 = .ok (.iload_n 1, 1) := by decide +kernel
theorem dX4_isSure_2 : decode cX4_isSure 2 = .ok (.iload_n 2, 1) := by decide +kernel
theorem dX4_isSure_3 : decode cX4_isSure 3 = .ok (.invokevirtual 73, 3) := by decide +kernel
theorem dX4_isSure_6 : decode cX4_isSure 6 = .ok (.ifCond .ne 5, 3) := by decide +kernel
theorem dX4_isSure_9 : decode cX4_isSure 9 = .ok (.iconst 0, 1) := by decide +kernel
theorem dX4_isSure_10 : decode cX4_isSure 10 = .ok (.ireturn, 1) := by decide +kernel
theorem dX4_isSure_11 : decode cX4_isSure 11 = .ok (.aload_n 0, 1) := by decide +kernel
theorem dX4_isSure_12 : decode cX4_isSure 12 = .ok (.getfield 67, 3) := by decide +kernel
theorem dX4_isSure_15 : decode cX4_isSure 15 = .ok (.aload_n 0, 1) := by decide +kernel
theorem dX4_isSure_16 : decode cX4_isSure 16 = .ok (.getfield 64, 3) := by decide +kernel
theorem dX4_isSure_19 : decode cX4_isSure 19 = .ok (.iload_n 3, 1) := by decide +kernel
theorem dX4_isSure_20 : decode cX4_isSure 20 = .ok (.iadd, 1) := by decide +kernel
theorem dX4_isSure_21 : decode cX4_isSure 21 = .ok (.if_icmp .le 5, 3) := by decide +kernel
theorem dX4_isSure_24 : decode cX4_isSure 24 = .ok (.iconst 1, 1) := by decide +kernel
theorem dX4_isSure_25 : decode cX4_isSure 25 = .ok (.ireturn, 1) := by decide +kernel
theorem dX4_isSure_26 : decode cX4_isSure 26 = .ok (.aload_n 0, 1) := by decide +kernel
theorem dX4_isSure_27 : decode cX4_isSure 27 = .ok (.iload_n 1, 1) := by decide +kernel
theorem dX4_isSure_28 : decode cX4_isSure 28 = .ok (.iload_n 2, 1) := by decide +kernel
theorem dX4_isSure_29 : decode cX4_isSure 29 = .ok (.invokevirtual 52, 3) := by decide +kernel
theorem dX4_isSure_32 : decode cX4_isSure 32 = .ok (.aload_n 0, 1) := by decide +kernel
theorem dX4_isSure_33 : decode cX4_isSure 33 = .ok (.aload_n 0, 1) := by decide +kernel
theorem dX4_isSure_34 : decode cX4_isSure 34 = .ok (.invokevirtual 56, 3) := by decide +kernel
theorem dX4_isSure_37 : decode cX4_isSure 37 = .ok (.invokevirtual 60, 3) := by decide +kernel
theorem dX4_isSure_40 : decode cX4_isSure 40 = .ok (.aload_n 0, 1) := by decide +kernel
theorem dX4_isSure_41 : decode cX4_isSure 41 = .ok (.getfield 64, 3) := by decide +kernel
theorem dX4_isSure_44 : decode cX4_isSure 44 = .ok (.iload_n 3, 1) := by decide +kernel
theorem dX4_isSure_45 : decode cX4_isSure 45 = .ok (.iadd, 1) := by decide +kernel
theorem dX4_isSure_46 : decode cX4_isSure 46 = .ok (.if_icmp .le 7, 3) := by decide +kernel
theorem dX4_isSure_49 : decode cX4_isSure 49 = .ok (.iconst 1, 1) := by decide +kernel
theorem dX4_isSure_50 : decode cX4_isSure 50 = .ok (.goto 4, 3) := by decide +kernel
theorem dX4_isSure_53 : decode cX4_isSure 53 = .ok (.iconst 0, 1) := by decide +kernel
theorem dX4_isSure_54 : decode cX4_isSure 54 = .ok (.ireturn, 1) := by decide +kernel
theorem dX4_all_0 : decode cX4_all 0 = .ok (.iconst 1, 1) := by decide +kernel
theorem dX4_all_1 : decode cX4_all 1 = .ok (.aload_n 0, 1) := by decide +kernel
theorem dX4_all_2 : decode cX4_all 2 = .ok (.getfield 40, 3) := by decide +kernel
theorem dX4_all_5 : decode cX4_all 5 = .ok (.ishl, 1) := by decide +kernel
theorem dX4_all_6 : decode cX4_all 6 = .ok (.iconst 1, 1) := by decide +kernel
theorem dX4_all_7 : decode cX4_all 7 = .ok (.isub, 1) := by decide +kernel
theorem dX4_all_8 : decode cX4_all 8 = .ok (.ireturn, 1) := by decide +kernel
set_option maxRecDepth 20000 in
theorem ggX4_fill_X4_all : GoodIn wsX4_fill wsX4_all := goodIn_r _ [7, 1, 43, 44, 45, 46, 47, 48, 49, 50, 51] (by decide +kernel) (by decide +kernel)
set_option maxRecDepth 20000 in
theorem gX4_fill_X4_all : GoodIn wsX4_fill (wsV RX4 56 RX4 yX4_all wsX4_all) := goodIn_app (goodIn_of _ (by decide +kernel)) ggX4_fill_X4_all
set_option maxRecDepth 20000 in
theorem ggX4_fill_X2_neighboursOf : GoodIn wsX4_fill wsX2_neighboursOf := goodIn_r _ [12, 13, 14, 15, 16, 17, 18, 19, 20, 52, 53, 54] (by decide +kernel) (by decide +kernel)
set_option maxRecDepth 20000 in
theorem gX4_fill_X2_neighboursOf : GoodIn wsX4_fill (wsV RX4 77 RX2 yX2_neighboursOf wsX2_neighboursOf) := goodIn_app (goodIn_of _ (by decide +kernel)) ggX4_fill_X2_neighboursOf
set_option maxRecDepth 20000 in
theorem ggX4_fill_X4_fillLast : GoodIn wsX4_fill wsX4_fillLast := goodIn_r _ [24, 25, 2, 26, 27, 28, 29, 30, 31, 32, 33, 34, 11, 35, 36, 37, 38, 39, 40, 6, 41, 1, 42, 43, 44, 45, 46, 47, 48, 49, 50, 51, 52, 53, 54] (by decide +kernel) (by decide +kernel)
set_option maxRecDepth 20000 in
theorem gX4_fill_X4_fillLast : GoodIn wsX4_fill (wsV RX4 82 RX4 yX4_fillLast wsX4_fillLast) := goodIn_app (goodIn_of _ (by decide +kernel)) ggX4_fill_X4_fillLast
theorem dX4_fill_0 : decode cX4_fill 0 = .ok (.iconst 1, 1) := by decide +kernel
theorem dX4_fill_1 : decode cX4_fill 1 = .ok (.istore_n 3, 1) := by decide +kernel
theorem dX4_fill_2 : decode cX4_fill 2 = .ok (.iload_n 3, 1) := by decide +kernel
theorem dX4_fill_3 : decode cX4_fill 3 = .ok (.aload_n 0, 1) := by decide +kernel
theorem dX4_fill_4 : decode cX4_fill 4 = .ok (.invokevirtual 56, 3) := by decide +kernel
theorem dX4_fill_7 : decode cX4_fill 7 = .ok (.if_icmp .gt 84, 3) := by decide +kernel
theorem dX4_fill_10 : decode cX4_fill 10 = .ok (.iconst 0, 1) := by decide +kernel
theorem dX4_fill_11 : decode cX4_fill 11 = .ok (.istore 4, 2) := by decide +kernel
theorem dX4_fill_13 : decode cX4_fill 13 = .ok (.iload 4, 2) := by decide +kernel
theorem dX4_fill_15 : decode cX4_fill 15 = .ok (.aload_n 0, 1) := by decide +kernel
theorem dX4_fill_16 : decode cX4_fill 16 = .ok (.getfield 40, 3) := by decide +kernel
theorem dX4_fill_19 : decode cX4_fill 19 = .ok (.if_icmp .ge 66, 3) := by decide +kernel
theorem dX4_fill_22 : decode cX4_fill 22 = .ok (.iload_n 3, 1) := by decide +kernel
theorem dX4_fill_23 : decode cX4_fill 23 = .ok (.iload 4, 2) := by decide +kernel
theorem dX4_fill_25 : decode cX4_fill 25 = .ok (.ishr, 1) := by decide +kernel
theorem dX4_fill_26 : decode cX4_fill 26 = .ok (.iconst 1, 1) := by decide +kernel
theorem dX4_fill_27 : decode cX4_fill 27 = .ok (.iand, 1) := by decide +kernel
theorem dX4_fill_28 : decode cX4_fill 28 = .ok (.ifCond .eq 51, 3) := by decide +kernel
theorem dX4_fill_31 : decode cX4_fill 31 = .ok (.iload_n 3, 1) := by decide +kernel
theorem dX4_fill_32 : decode cX4_fill 32 = .ok (.iconst 1, 1) := by decide +kernel
theorem dX4_fill_33 : decode cX4_fill 33 = .ok (.iload 4, 2) := by decide +kernel
theorem dX4_fill_35 : decode cX4_fill 35 = .ok (.ishl, 1) := by decide +kernel
theorem dX4_fill_36 : decode cX4_fill 36 = .ok (.iconst (-1), 1) := by decide +kernel
theorem dX4_fill_37 : decode cX4_fill 37 = .ok (.ixor, 1) := by decide +kernel
theorem dX4_fill_38 : decode cX4_fill 38 = .ok (.iand, 1) := by decide +kernel
theorem dX4_fill_39 : decode cX4_fill 39 = .ok (.istore 5, 2) := by decide +kernel
theorem dX4_fill_41 : decode cX4_fill 41 = .ok (.aload_n 0, 1) := by decide +kernel
theorem dX4_fill_42 : decode cX4_fill 42 = .ok (.getfield 24, 3) := by decide +kernel
theorem dX4_fill_45 : decode cX4_fill 45 = .ok (.iload 4, 2) := by decide +kernel
theorem dX4_fill_47 : decode cX4_fill 47 = .ok (.iload 5, 2) := by decide +kernel
theorem dX4_fill_49 : decode cX4_fill 49 = .ok (.invokevirtual 77, 3) := by decide +kernel
theorem dX4_fill_52 : decode cX4_fill 52 = .ok (.istore 6, 2) := by decide +kernel
theorem dX4_fill_54 : decode cX4_fill 54 = .ok (.iload 4, 2) := by decide +kernel
theorem dX4_fill_56 : decode cX4_fill 56 = .ok (.iload_n 2, 1) := by decide +kernel
theorem dX4_fill_57 : decode cX4_fill 57 = .ok (.if_icmp .ne 13, 3) := by decide +kernel
theorem dX4_fill_60 : decode cX4_fill 60 = .ok (.iload 6, 2) := by decide +kernel
theorem dX4_fill_62 : decode cX4_fill 62 = .ok (.iconst 1, 1) := by decide +kernel
theorem dX4_fill_63 : decode cX4_fill 63 = .ok (.iload_n 1, 1) := by decide +kernel
theorem dX4_fill_64 : decode cX4_fill 64 = .ok (.ishl, 1) := by decide +kernel
theorem dX4_fill_65 : decode cX4_fill 65 = .ok (.iconst (-1), 1) := by decide +kernel
theorem dX4_fill_66 : decode cX4_fill 66 = .ok (.ixor, 1) := by decide +kernel
theorem dX4_fill_67 : decode cX4_fill 67 = .ok (.iand, 1) := by decide +kernel
theorem dX4_fill_68 : decode cX4_fill 68 = .ok (.istore 6, 2) := by decide +kernel
theorem dX4_fill_70 : decode cX4_fill 70 = .ok (.aload_n 0, 1) := by decide +kernel
theorem dX4_fill_71 : decode cX4_fill 71 = .ok (.iload_n 3, 1) := by decide +kernel
theorem dX4_fill_72 : decode cX4_fill 72 = .ok (.iload 4, 2) := by decide +kernel
theorem dX4_fill_74 : decode cX4_fill 74 = .ok (.iload 6, 2) := by decide +kernel
theorem dX4_fill_76 : decode cX4_fill 76 = .ok (.invokevirtual 82, 3) := by decide +kernel
theorem dX4_fill_79 : decode cX4_fill 79 = .ok (.iinc 4 1, 3) := by decide +kernel
theorem dX4_fill_82 : decode cX4_fill 82 = .ok (.goto (-69), 3) := by decide +kernel
theorem dX4_fill_85 : decode cX4_fill 85 = .ok (.iinc 3 1, 3) := by decide +kernel
theorem dX4_fill_88 : decode cX4_fill 88 = .ok (.goto (-86), 3) := by decide +kernel
theorem dX4_fill_91 : decode cX4_fill 91 = .ok (.return_, 1) := by decide +kernel
set_option maxRecDepth 20000 in
theorem ggX4_fillLast_X2_mayComeAfter : GoodIn wsX4_fillLast wsX2_mayComeAfter := goodIn_r _ [13, 14, 15, 32, 33, 34] (by decide +kernel) (by decide +kernel)
set_option maxRecDepth 20000 in
theorem gX4_fillLast_X2_mayComeAfter : GoodIn wsX4_fillLast (wsV RX4 86 RX2 yX2_mayComeAfter wsX2_mayComeAfter) := goodIn_app (goodIn_of _ (by decide +kernel)) ggX4_fillLast_X2_mayComeAfter
set_option maxRecDepth 20000 in
theorem ggX4_fillLast_X4_leastUpTo : GoodIn wsX4_fillLast wsX4_leastUpTo := goodIn_r _ [20, 1, 21, 8, 22, 4, 5, 6, 7, 23, 24, 25, 26, 27, 28, 29, 30, 31] (by decide +kernel) (by decide +kernel)
set_option maxRecDepth 20000 in
theorem gX4_fillLast_X4_leastUpTo : GoodIn wsX4_fillLast (wsV RX4 89 RX4 yX4_leastUpTo wsX4_leastUpTo) := goodIn_app (goodIn_of _ (by decide +kernel)) ggX4_fillLast_X4_leastUpTo
theorem dX4_fillLast_0 : decode cX4_fillLast 0 = .ok (.iload_n 1, 1) := by decide +kernel
theorem dX4_fillLast_1 : decode cX4_fillLast 1 = .ok (.iconst 1, 1) := by decide +kernel
theorem dX4_fillLast_2 : decode cX4_fillLast 2 = .ok (.iload_n 2, 1) := by decide +kernel
theorem dX4_fillLast_3 : decode cX4_fillLast 3 = .ok (.ishl, 1) := by decide +kernel
theorem dX4_fillLast_4 : decode cX4_fillLast 4 = .ok (.iconst (-1), 1) := by decide +kernel
theorem dX4_fillLast_5 : decode cX4_fillLast 5 = .ok (.ixor, 1) := by decide +kernel
theorem dX4_fillLast_6 : decode cX4_fillLast 6 = .ok (.iand, 1) := by decide +kernel
theorem dX4_fillLast_7 : decode cX4_fillLast 7 = .ok (.istore 4, 2) := by decide +kernel
theorem dX4_fillLast_9 : decode cX4_fillLast 9 = .ok (.iconst 2, 1) := by decide +kernel
theorem dX4_fillLast_10 : decode cX4_fillLast 10 = .ok (.iload_n 2, 1) := by decide +kernel
theorem dX4_fillLast_11 : decode cX4_fillLast 11 = .ok (.imul, 1) := by decide +kernel
theorem dX4_fillLast_12 : decode cX4_fillLast 12 = .ok (.istore 5, 2) := by decide +kernel
theorem dX4_fillLast_14 : decode cX4_fillLast 14 = .ok (.ldc 44, 2) := by decide +kernel
theorem dX4_fillLast_16 : decode cX4_fillLast 16 = .ok (.istore 6, 2) := by decide +kernel
theorem dX4_fillLast_18 : decode cX4_fillLast 18 = .ok (.ldc 44, 2) := by decide +kernel
theorem dX4_fillLast_20 : decode cX4_fillLast 20 = .ok (.istore 7, 2) := by decide +kernel
theorem dX4_fillLast_22 : decode cX4_fillLast 22 = .ok (.aload_n 0, 1) := by decide +kernel
theorem dX4_fillLast_23 : decode cX4_fillLast 23 = .ok (.getfield 24, 3) := by decide +kernel
theorem dX4_fillLast_26 : decode cX4_fillLast 26 = .ok (.iload_n 2, 1) := by decide +kernel
theorem dX4_fillLast_27 : decode cX4_fillLast 27 = .ok (.iload 4, 2) := by decide +kernel
theorem dX4_fillLast_29 : decode cX4_fillLast 29 = .ok (.invokevirtual 86, 3) := by decide +kernel
theorem dX4_fillLast_32 : decode cX4_fillLast 32 = .ok (.ifCond .eq 46, 3) := by decide +kernel
theorem dX4_fillLast_35 : decode cX4_fillLast 35 = .ok (.aload_n 0, 1) := by decide +kernel
theorem dX4_fillLast_36 : decode cX4_fillLast 36 = .ok (.iload 4, 2) := by decide +kernel
theorem dX4_fillLast_38 : decode cX4_fillLast 38 = .ok (.iload_n 3, 1) := by decide +kernel
theorem dX4_fillLast_39 : decode cX4_fillLast 39 = .ok (.iload 5, 2) := by decide +kernel
theorem dX4_fillLast_41 : decode cX4_fillLast 41 = .ok (.invokevirtual 89, 3) := by decide +kernel
theorem dX4_fillLast_44 : decode cX4_fillLast 44 = .ok (.istore 6, 2) := by decide +kernel
theorem dX4_fillLast_46 : decode cX4_fillLast 46 = .ok (.aload_n 0, 1) := by decide +kernel
theorem dX4_fillLast_47 : decode cX4_fillLast 47 = .ok (.getfield 45, 3) := by decide +kernel
theorem dX4_fillLast_50 : decode cX4_fillLast 50 = .ok (.ldc 44, 2) := by decide +kernel
theorem dX4_fillLast_52 : decode cX4_fillLast 52 = .ok (.if_icmp .ge 26, 3) := by decide +kernel
theorem dX4_fillLast_55 : decode cX4_fillLast 55 = .ok (.ldc 44, 2) := by decide +kernel
theorem dX4_fillLast_57 : decode cX4_fillLast 57 = .ok (.aload_n 0, 1) := by decide +kernel
theorem dX4_fillLast_58 : decode cX4_fillLast 58 = .ok (.iload 4, 2) := by decide +kernel
theorem dX4_fillLast_60 : decode cX4_fillLast 60 = .ok (.iload_n 3, 1) := by decide +kernel
theorem dX4_fillLast_61 : decode cX4_fillLast 61 = .ok (.iload 5, 2) := by decide +kernel
theorem dX4_fillLast_63 : decode cX4_fillLast 63 = .ok (.iconst 1, 1) := by decide +kernel
theorem dX4_fillLast_64 : decode cX4_fillLast 64 = .ok (.iadd, 1) := by decide +kernel
theorem dX4_fillLast_65 : decode cX4_fillLast 65 = .ok (.invokevirtual 89, 3) := by decide +kernel
theorem dX4_fillLast_68 : decode cX4_fillLast 68 = .ok (.aload_n 0, 1) := by decide +kernel
theorem dX4_fillLast_69 : decode cX4_fillLast 69 = .ok (.getfield 45, 3) := by decide +kernel
theorem dX4_fillLast_72 : decode cX4_fillLast 72 = .ok (.iadd, 1) := by decide +kernel
theorem dX4_fillLast_73 : decode cX4_fillLast 73 = .ok (.invokestatic 93, 3) := by decide +kernel
theorem dX4_fillLast_76 : decode cX4_fillLast 76 = .ok (.istore 7, 2) := by decide +kernel
theorem dX4_fillLast_78 : decode cX4_fillLast 78 = .ok (.aload_n 0, 1) := by decide +kernel
theorem dX4_fillLast_79 : decode cX4_fillLast 79 = .ok (.getfield 15, 3) := by decide +kernel
theorem dX4_fillLast_82 : decode cX4_fillLast 82 = .ok (.iload_n 1, 1) := by decide +kernel
theorem dX4_fillLast_83 : decode cX4_fillLast 83 = .ok (.bipush 18, 2) := by decide +kernel
theorem dX4_fillLast_85 : decode cX4_fillLast 85 = .ok (.imul, 1) := by decide +kernel
theorem dX4_fillLast_86 : decode cX4_fillLast 86 = .ok (.iload 5, 2) := by decide +kernel
theorem dX4_fillLast_88 : decode cX4_fillLast 88 = .ok (.iadd, 1) := by decide +kernel
theorem dX4_fillLast_89 : decode cX4_fillLast 89 = .ok (.iload 6, 2) := by decide +kernel
theorem dX4_fillLast_91 : decode cX4_fillLast 91 = .ok (.iastore, 1) := by decide +kernel
theorem dX4_fillLast_92 : decode cX4_fillLast 92 = .ok (.aload_n 0, 1) := by decide +kernel
theorem dX4_fillLast_93 : decode cX4_fillLast 93 = .ok (.getfield 15, 3) := by decide +kernel
theorem dX4_fillLast_96 : decode cX4_fillLast 96 = .ok (.iload_n 1, 1) := by decide +kernel
theorem dX4_fillLast_97 : decode cX4_fillLast 97 = .ok (.bipush 18, 2) := by decide +kernel
theorem dX4_fillLast_99 : decode cX4_fillLast 99 = .ok (.imul, 1) := by decide +kernel
theorem dX4_fillLast_100 : decode cX4_fillLast 100 = .ok (.iload 5, 2) := by decide +kernel
theorem dX4_fillLast_102 : decode cX4_fillLast 102 = .ok (.iadd, 1) := by decide +kernel
theorem dX4_fillLast_103 : decode cX4_fillLast 103 = .ok (.iconst 1, 1) := by decide +kernel
theorem dX4_fillLast_104 : decode cX4_fillLast 104 = .ok (.iadd, 1) := by decide +kernel
theorem dX4_fillLast_105 : decode cX4_fillLast 105 = .ok (.iload 7, 2) := by decide +kernel
theorem dX4_fillLast_107 : decode cX4_fillLast 107 = .ok (.iastore, 1) := by decide +kernel
theorem dX4_fillLast_108 : decode cX4_fillLast 108 = .ok (.return_, 1) := by decide +kernel
theorem dX4_leastUpTo_0 : decode cX4_leastUpTo 0 = .ok (.iload_n 1, 1) := by decide +kernel
theorem dX4_leastUpTo_1 : decode cX4_leastUpTo 1 = .ok (.ifCond .ne 5, 3) := by decide +kernel
theorem dX4_leastUpTo_4 : decode cX4_leastUpTo 4 = .ok (.iconst 0, 1) := by decide +kernel
theorem dX4_leastUpTo_5 : decode cX4_leastUpTo 5 = .ok (.ireturn, 1) := by decide +kernel
theorem dX4_leastUpTo_6 : decode cX4_leastUpTo 6 = .ok (.ldc 44, 2) := by decide +kernel
theorem dX4_leastUpTo_8 : decode cX4_leastUpTo 8 = .ok (.istore 4, 2) := by decide +kernel
theorem dX4_leastUpTo_10 : decode cX4_leastUpTo 10 = .ok (.iconst 0, 1) := by decide +kernel
theorem dX4_leastUpTo_11 : decode cX4_leastUpTo 11 = .ok (.istore 5, 2) := by decide +kernel
theorem dX4_leastUpTo_13 : decode cX4_leastUpTo 13 = .ok (.iload 5, 2) := by decide +kernel
theorem dX4_leastUpTo_15 : decode cX4_leastUpTo 15 = .ok (.aload_n 0, 1) := by decide +kernel
theorem dX4_leastUpTo_16 : decode cX4_leastUpTo 16 = .ok (.getfield 40, 3) := by decide +kernel
theorem dX4_leastUpTo_19 : decode cX4_leastUpTo 19 = .ok (.if_icmp .ge 91, 3) := by decide +kernel
theorem dX4_leastUpTo_22 : decode cX4_leastUpTo 22 = .ok (.iload_n 2, 1) := by decide +kernel
theorem dX4_leastUpTo_23 : decode cX4_leastUpTo 23 = .ok (.iload 5, 2) := by decide +kernel
theorem dX4_leastUpTo_25 : decode cX4_leastUpTo 25 = .ok (.ishr, 1) := by decide +kernel
theorem dX4_leastUpTo_26 : decode cX4_leastUpTo 26 = .ok (.iconst 1, 1) := by decide +kernel
theorem dX4_leastUpTo_27 : decode cX4_leastUpTo 27 = .ok (.iand, 1) := by decide +kernel
theorem dX4_leastUpTo_28 : decode cX4_leastUpTo 28 = .ok (.ifCond .eq 76, 3) := by decide +kernel
theorem dX4_leastUpTo_31 : decode cX4_leastUpTo 31 = .ok (.iconst 2, 1) := by decide +kernel
theorem dX4_leastUpTo_32 : decode cX4_leastUpTo 32 = .ok (.iload 5, 2) := by decide +kernel
theorem dX4_leastUpTo_34 : decode cX4_leastUpTo 34 = .ok (.imul, 1) := by decide +kernel
theorem dX4_leastUpTo_35 : decode cX4_leastUpTo 35 = .ok (.istore 6, 2) := by decide +kernel
theorem dX4_leastUpTo_37 : decode cX4_leastUpTo 37 = .ok (.iload_n 1, 1) := by decide +kernel
theorem dX4_leastUpTo_38 : decode cX4_leastUpTo 38 = .ok (.bipush 18, 2) := by decide +kernel
theorem dX4_leastUpTo_40 : decode cX4_leastUpTo 40 = .ok (.imul, 1) := by decide +kernel
theorem dX4_leastUpTo_41 : decode cX4_leastUpTo 41 = .ok (.iload 6, 2) := by decide +kernel
theorem dX4_leastUpTo_43 : decode cX4_leastUpTo 43 = .ok (.iadd, 1) := by decide +kernel
theorem dX4_leastUpTo_44 : decode cX4_leastUpTo 44 = .ok (.istore 7, 2) := by decide +kernel
theorem dX4_leastUpTo_46 : decode cX4_leastUpTo 46 = .ok (.iload 6, 2) := by decide +kernel
theorem dX4_leastUpTo_48 : decode cX4_leastUpTo 48 = .ok (.bipush 18, 2) := by decide +kernel
theorem dX4_leastUpTo_50 : decode cX4_leastUpTo 50 = .ok (.imul, 1) := by decide +kernel
theorem dX4_leastUpTo_51 : decode cX4_leastUpTo 51 = .ok (.iload_n 3, 1) := by decide +kernel
theorem dX4_leastUpTo_52 : decode cX4_leastUpTo 52 = .ok (.iadd, 1) := by decide +kernel
theorem dX4_leastUpTo_53 : decode cX4_leastUpTo 53 = .ok (.istore 8, 2) := by decide +kernel
theorem dX4_leastUpTo_55 : decode cX4_leastUpTo 55 = .ok (.iload 4, 2) := by decide +kernel
theorem dX4_leastUpTo_57 : decode cX4_leastUpTo 57 = .ok (.aload_n 0, 1) := by decide +kernel
theorem dX4_leastUpTo_58 : decode cX4_leastUpTo 58 = .ok (.getfield 15, 3) := by decide +kernel
theorem dX4_leastUpTo_61 : decode cX4_leastUpTo 61 = .ok (.iload 7, 2) := by decide +kernel
theorem dX4_leastUpTo_63 : decode cX4_leastUpTo 63 = .ok (.iaload, 1) := by decide +kernel
theorem dX4_leastUpTo_64 : decode cX4_leastUpTo 64 = .ok (.aload_n 0, 1) := by decide +kernel
theorem dX4_leastUpTo_65 : decode cX4_leastUpTo 65 = .ok (.getfield 9, 3) := by decide +kernel
theorem dX4_leastUpTo_68 : decode cX4_leastUpTo 68 = .ok (.iload 8, 2) := by decide +kernel
theorem dX4_leastUpTo_70 : decode cX4_leastUpTo 70 = .ok (.iaload, 1) := by decide +kernel
theorem dX4_leastUpTo_71 : decode cX4_leastUpTo 71 = .ok (.iadd, 1) := by decide +kernel
theorem dX4_leastUpTo_72 : decode cX4_leastUpTo 72 = .ok (.invokestatic 93, 3) := by decide +kernel
theorem dX4_leastUpTo_75 : decode cX4_leastUpTo 75 = .ok (.istore 4, 2) := by decide +kernel
theorem dX4_leastUpTo_77 : decode cX4_leastUpTo 77 = .ok (.iload 4, 2) := by decide +kernel
theorem dX4_leastUpTo_79 : decode cX4_leastUpTo 79 = .ok (.aload_n 0, 1) := by decide +kernel
theorem dX4_leastUpTo_80 : decode cX4_leastUpTo 80 = .ok (.getfield 15, 3) := by decide +kernel
theorem dX4_leastUpTo_83 : decode cX4_leastUpTo 83 = .ok (.iload 7, 2) := by decide +kernel
theorem dX4_leastUpTo_85 : decode cX4_leastUpTo 85 = .ok (.iconst 1, 1) := by decide +kernel
theorem dX4_leastUpTo_86 : decode cX4_leastUpTo 86 = .ok (.iadd, 1) := by decide +kernel
theorem dX4_leastUpTo_87 : decode cX4_leastUpTo 87 = .ok (.iaload, 1) := by decide +kernel
theorem dX4_leastUpTo_88 : decode cX4_leastUpTo 88 = .ok (.aload_n 0, 1) := by decide +kernel
theorem dX4_leastUpTo_89 : decode cX4_leastUpTo 89 = .ok (.getfield 9, 3) := by decide +kernel
theorem dX4_leastUpTo_92 : decode cX4_leastUpTo 92 = .ok (.iload 8, 2) := by decide +kernel
theorem dX4_leastUpTo_94 : decode cX4_leastUpTo 94 = .ok (.bipush 18, 2) := by decide +kernel
theorem dX4_leastUpTo_96 : decode cX4_leastUpTo 96 = .ok (.iadd, 1) := by decide +kernel
theorem dX4_leastUpTo_97 : decode cX4_leastUpTo 97 = .ok (.iaload, 1) := by decide +kernel
theorem dX4_leastUpTo_98 : decode cX4_leastUpTo 98 = .ok (.iadd, 1) := by decide +kernel
theorem dX4_leastUpTo_99 : decode cX4_leastUpTo 99 = .ok (.invokestatic 93, 3) := by decide +kernel
theorem dX4_leastUpTo_102 : decode cX4_leastUpTo 102 = .ok (.istore 4, 2) := by decide +kernel
theorem dX4_leastUpTo_104 : decode cX4_leastUpTo 104 = .ok (.iinc 5 1, 3) := by decide +kernel
theorem dX4_leastUpTo_107 : decode cX4_leastUpTo 107 = .ok (.goto (-94), 3) := by decide +kernel
theorem dX4_leastUpTo_110 : decode cX4_leastUpTo 110 = .ok (.iload 4, 2) := by decide +kernel
theorem dX4_leastUpTo_112 : decode cX4_leastUpTo 112 = .ok (.ireturn, 1) := by decide +kernel
theorem dX4_leastOf_0 : decode cX4_leastOf 0 = .ok (.ldc 44, 2) := by decide +kernel
theorem dX4_leastOf_2 : decode cX4_leastOf 2 = .ok (.istore_n 2, 1) := by decide +kernel
theorem dX4_leastOf_3 : decode cX4_leastOf 3 = .ok (.iconst 0, 1) := by decide +kernel
theorem dX4_leastOf_4 : decode cX4_leastOf 4 = .ok (.istore_n 3, 1) := by decide +kernel
theorem dX4_leastOf_5 : decode cX4_leastOf 5 = .ok (.iload_n 3, 1) := by decide +kernel
theorem dX4_leastOf_6 : decode cX4_leastOf 6 = .ok (.iconst 2, 1) := by decide +kernel
theorem dX4_leastOf_7 : decode cX4_leastOf 7 = .ok (.aload_n 0, 1) := by decide +kernel
theorem dX4_leastOf_8 : decode cX4_leastOf 8 = .ok (.getfield 40, 3) := by decide +kernel
theorem dX4_leastOf_11 : decode cX4_leastOf 11 = .ok (.imul, 1) := by decide +kernel
theorem dX4_leastOf_12 : decode cX4_leastOf 12 = .ok (.if_icmp .ge 35, 3) := by decide +kernel
theorem dX4_leastOf_15 : decode cX4_leastOf 15 = .ok (.iload_n 1, 1) := by decide +kernel
theorem dX4_leastOf_16 : decode cX4_leastOf 16 = .ok (.iload_n 3, 1) := by decide +kernel
theorem dX4_leastOf_17 : decode cX4_leastOf 17 = .ok (.iconst 1, 1) := by decide +kernel
theorem dX4_leastOf_18 : decode cX4_leastOf 18 = .ok (.ishr, 1) := by decide +kernel
theorem dX4_leastOf_19 : decode cX4_leastOf 19 = .ok (.ishr, 1) := by decide +kernel
theorem dX4_leastOf_20 : decode cX4_leastOf 20 = .ok (.iconst 1, 1) := by decide +kernel
theorem dX4_leastOf_21 : decode cX4_leastOf 21 = .ok (.iand, 1) := by decide +kernel
theorem dX4_leastOf_22 : decode cX4_leastOf 22 = .ok (.ifCond .eq 19, 3) := by decide +kernel
theorem dX4_leastOf_25 : decode cX4_leastOf 25 = .ok (.iload_n 2, 1) := by decide +kernel
theorem dX4_leastOf_26 : decode cX4_leastOf 26 = .ok (.aload_n 0, 1) := by decide +kernel
theorem dX4_leastOf_27 : decode cX4_leastOf 27 = .ok (.getfield 15, 3) := by decide +kernel
theorem dX4_leastOf_30 : decode cX4_leastOf 30 = .ok (.iload_n 1, 1) := by decide +kernel
theorem dX4_leastOf_31 : decode cX4_leastOf 31 = .ok (.bipush 18, 2) := by decide +kernel
theorem dX4_leastOf_33 : decode cX4_leastOf 33 = .ok (.imul, 1) := by decide +kernel
theorem dX4_leastOf_34 : decode cX4_leastOf 34 = .ok (.iload_n 3, 1) := by decide +kernel
theorem dX4_leastOf_35 : decode cX4_leastOf 35 = .ok (.iadd, 1) := by decide +kernel
theorem dX4_leastOf_36 : decode cX4_leastOf 36 = .ok (.iaload, 1) := by decide +kernel
theorem dX4_leastOf_37 : decode cX4_leastOf 37 = .ok (.invokestatic 93, 3) := by decide +kernel
theorem dX4_leastOf_40 : decode cX4_leastOf 40 = .ok (.istore_n 2, 1) := by decide +kernel
theorem dX4_leastOf_41 : decode cX4_leastOf 41 = .ok (.iinc 3 1, 3) := by decide +kernel
theorem dX4_leastOf_44 : decode cX4_leastOf 44 = .ok (.goto (-39), 3) := by decide +kernel
theorem dX4_leastOf_47 : decode cX4_leastOf 47 = .ok (.iload_n 2, 1) := by decide +kernel
theorem dX4_leastOf_48 : decode cX4_leastOf 48 = .ok (.ireturn, 1) := by decide +kernel
set_option maxRecDepth 20000 in
theorem ggX4_trace_X4_all : GoodIn wsX4_trace wsX4_all := goodIn_r _ [8, 1, 39, 40, 41, 42, 43, 44, 45, 46, 47] (by decide +kernel) (by decide +kernel)
set_option maxRecDepth 20000 in
theorem gX4_trace_X4_all : GoodIn wsX4_trace (wsV RX4 56 RX4 yX4_all wsX4_all) := goodIn_app (goodIn_of _ (by decide +kernel)) ggX4_trace_X4_all
set_option maxRecDepth 20000 in
theorem ggX4_trace_X4_pick : GoodIn wsX4_trace wsX4_pick := goodIn_r _ [12, 13, 14, 1, 15, 16, 17, 18, 19, 20, 21, 22, 23, 24, 25, 26, 27, 28, 29, 30, 31, 32, 33, 34, 35, 36, 7, 37, 38, 39, 40, 41, 42, 43, 44, 45, 46, 47, 48, 49, 50] (by decide +kernel) (by decide +kernel)
set_option maxRecDepth 20000 in
theorem gX4_trace_X4_pick : GoodIn wsX4_trace (wsV RX4 98 RX4 yX4_pick wsX4_pick) := goodIn_app (goodIn_of _ (by decide +kernel)) ggX4_trace_X4_pick
set_option maxRecDepth 20000 in
theorem ggX4_trace_X4_linkCost : GoodIn wsX4_trace wsX4_linkCost := goodIn_r _ [37, 38, 39, 40, 41, 42, 43, 44, 45, 46, 47] (by decide +kernel) (by decide +kernel)
set_option maxRecDepth 20000 in
theorem gX4_trace_X4_linkCost : GoodIn wsX4_trace (wsV RX4 101 RX4 yX4_linkCost wsX4_linkCost) := goodIn_app (goodIn_of _ (by decide +kernel)) ggX4_trace_X4_linkCost
theorem dX4_trace_0 : decode cX4_trace 0 = .ok (.aload_n 0, 1) := by decide +kernel
theorem dX4_trace_1 : decode cX4_trace 1 = .ok (.invokevirtual 56, 3) := by decide +kernel
theorem dX4_trace_4 : decode cX4_trace 4 = .ok (.istore_n 1, 1) := by decide +kernel
theorem dX4_trace_5 : decode cX4_trace 5 = .ok (.iconst (-1), 1) := by decide +kernel
theorem dX4_trace_6 : decode cX4_trace 6 = .ok (.istore_n 2, 1) := by decide +kernel
theorem dX4_trace_7 : decode cX4_trace 7 = .ok (.iconst 0, 1) := by decide +kernel
theorem dX4_trace_8 : decode cX4_trace 8 = .ok (.istore_n 3, 1) := by decide +kernel
theorem dX4_trace_9 : decode cX4_trace 9 = .ok (.aload_n 0, 1) := by decide +kernel
theorem dX4_trace_10 : decode cX4_trace 10 = .ok (.getfield 40, 3) := by decide +kernel
theorem dX4_trace_13 : decode cX4_trace 13 = .ok (.iconst 1, 1) := by decide +kernel
theorem dX4_trace_14 : decode cX4_trace 14 = .ok (.isub, 1) := by decide +kernel
theorem dX4_trace_15 : decode cX4_trace 15 = .ok (.istore 4, 2) := by decide +kernel
theorem dX4_trace_17 : decode cX4_trace 17 = .ok (.iload 4, 2) := by decide +kernel
theorem dX4_trace_19 : decode cX4_trace 19 = .ok (.ifCond .lt 61, 3) := by decide +kernel
theorem dX4_trace_22 : decode cX4_trace 22 = .ok (.aload_n 0, 1) := by decide +kernel
theorem dX4_trace_23 : decode cX4_trace 23 = .ok (.iload_n 1, 1) := by decide +kernel
theorem dX4_trace_24 : decode cX4_trace 24 = .ok (.iload_n 2, 1) := by decide +kernel
theorem dX4_trace_25 : decode cX4_trace 25 = .ok (.iload_n 3, 1) := by decide +kernel
theorem dX4_trace_26 : decode cX4_trace 26 = .ok (.invokevirtual 98, 3) := by decide +kernel
theorem dX4_trace_29 : decode cX4_trace 29 = .ok (.istore 5, 2) := by decide +kernel
theorem dX4_trace_31 : decode cX4_trace 31 = .ok (.aload_n 0, 1) := by decide +kernel
theorem dX4_trace_32 : decode cX4_trace 32 = .ok (.getfield 21, 3) := by decide +kernel
theorem dX4_trace_35 : decode cX4_trace 35 = .ok (.iload 4, 2) := by decide +kernel
theorem dX4_trace_37 : decode cX4_trace 37 = .ok (.iload 5, 2) := by decide +kernel
theorem dX4_trace_39 : decode cX4_trace 39 = .ok (.iastore, 1) := by decide +kernel
theorem dX4_trace_40 : decode cX4_trace 40 = .ok (.iload_n 3, 1) := by decide +kernel
theorem dX4_trace_41 : decode cX4_trace 41 = .ok (.aload_n 0, 1) := by decide +kernel
theorem dX4_trace_42 : decode cX4_trace 42 = .ok (.iload 5, 2) := by decide +kernel
theorem dX4_trace_44 : decode cX4_trace 44 = .ok (.iload_n 2, 1) := by decide +kernel
theorem dX4_trace_45 : decode cX4_trace 45 = .ok (.invokevirtual 101, 3) := by decide +kernel
theorem dX4_trace_48 : decode cX4_trace 48 = .ok (.iload 5, 2) := by decide +kernel
theorem dX4_trace_50 : decode cX4_trace 50 = .ok (.iconst 1, 1) := by decide +kernel
theorem dX4_trace_51 : decode cX4_trace 51 = .ok (.iand, 1) := by decide +kernel
theorem dX4_trace_52 : decode cX4_trace 52 = .ok (.aload_n 0, 1) := by decide +kernel
theorem dX4_trace_53 : decode cX4_trace 53 = .ok (.getfield 45, 3) := by decide +kernel
theorem dX4_trace_56 : decode cX4_trace 56 = .ok (.imul, 1) := by decide +kernel
theorem dX4_trace_57 : decode cX4_trace 57 = .ok (.iadd, 1) := by decide +kernel
theorem dX4_trace_58 : decode cX4_trace 58 = .ok (.iadd, 1) := by decide +kernel
theorem dX4_trace_59 : decode cX4_trace 59 = .ok (.istore_n 3, 1) := by decide +kernel
theorem dX4_trace_60 : decode cX4_trace 60 = .ok (.iload_n 1, 1) := by decide +kernel
theorem dX4_trace_61 : decode cX4_trace 61 = .ok (.iconst 1, 1) := by decide +kernel
theorem dX4_trace_62 : decode cX4_trace 62 = .ok (.iload 5, 2) := by decide +kernel
theorem dX4_trace_64 : decode cX4_trace 64 = .ok (.iconst 1, 1) := by decide +kernel
theorem dX4_trace_65 : decode cX4_trace 65 = .ok (.ishr, 1) := by decide +kernel
theorem dX4_trace_66 : decode cX4_trace 66 = .ok (.ishl, 1) := by decide +kernel
theorem dX4_trace_67 : decode cX4_trace 67 = .ok (.iconst (-1), 1) := by decide +kernel
theorem dX4_trace_68 : decode cX4_trace 68 = .ok (.ixor, 1) := by decide +kernel
theorem dX4_trace_69 : decode cX4_trace 69 = .ok (.iand, 1) := by decide +kernel
theorem dX4_trace_70 : decode cX4_trace 70 = .ok (.istore_n 1, 1) := by decide +kernel
theorem dX4_trace_71 : decode cX4_trace 71 = .ok (.iload 5, 2) := by decide +kernel
theorem dX4_trace_73 : decode cX4_trace 73 = .ok (.istore_n 2, 1) := by decide +kernel
theorem dX4_trace_74 : decode cX4_trace 74 = .ok (.iinc 4 (-1), 3) := by decide +kernel
theorem dX4_trace_77 : decode cX4_trace 77 = .ok (.goto (-60), 3) := by decide +kernel
theorem dX4_trace_80 : decode cX4_trace 80 = .ok (.return_, 1) := by decide +kernel
set_option maxRecDepth 20000 in
theorem ggX4_pick_X2_neighboursOf : GoodIn wsX4_pick wsX2_neighboursOf := goodIn_r _ [14, 15, 16, 17, 18, 19, 20, 21, 22, 38, 39, 40] (by decide +kernel) (by decide +kernel)
set_option maxRecDepth 20000 in
theorem gX4_pick_X2_neighboursOf : GoodIn wsX4_pick (wsV RX4 77 RX2 yX2_neighboursOf wsX2_neighboursOf) := goodIn_app (goodIn_of _ (by decide +kernel)) ggX4_pick_X2_neighboursOf
set_option maxRecDepth 20000 in
theorem ggX4_pick_X4_linkCost : GoodIn wsX4_pick wsX4_linkCost := goodIn_r _ [27, 28, 29, 30, 31, 32, 33, 34, 35, 36, 37] (by decide +kernel) (by decide +kernel)
set_option maxRecDepth 20000 in
theorem gX4_pick_X4_linkCost : GoodIn wsX4_pick (wsV RX4 101 RX4 yX4_linkCost wsX4_linkCost) := goodIn_app (goodIn_of _ (by decide +kernel)) ggX4_pick_X4_linkCost
theorem dX4_pick_0 : decode cX4_pick 0 = .ok (.iload_n 2, 1) := by decide +kernel
theorem dX4_pick_1 : decode cX4_pick 1 = .ok (.iconst (-1), 1) := by decide +kernel
theorem dX4_pick_2 : decode cX4_pick 2 = .ok (.if_icmp .ne 7, 3) := by decide +kernel
theorem dX4_pick_5 : decode cX4_pick 5 = .ok (.iload_n 1, 1) := by decide +kernel
theorem dX4_pick_6 : decode cX4_pick 6 = .ok (.goto 14, 3) := by decide +kernel
theorem dX4_pick_9 : decode cX4_pick 9 = .ok (.aload_n 0, 1) := by decide +kernel
theorem dX4_pick_10 : decode cX4_pick 10 = .ok (.getfield 24, 3) := by decide +kernel
theorem dX4_pick_13 : decode cX4_pick 13 = .ok (.iload_n 2, 1) := by decide +kernel
theorem dX4_pick_14 : decode cX4_pick 14 = .ok (.iconst 1, 1) := by decide +kernel
theorem dX4_pick_15 : decode cX4_pick 15 = .ok (.ishr, 1) := by decide +kernel
theorem dX4_pick_16 : decode cX4_pick 16 = .ok (.iload_n 1, 1) := by decide +kernel
theorem dX4_pick_17 : decode cX4_pick 17 = .ok (.invokevirtual 77, 3) := by decide +kernel
theorem dX4_pick_20 : decode cX4_pick 20 = .ok (.istore 4, 2) := by decide +kernel
theorem dX4_pick_22 : decode cX4_pick 22 = .ok (.iconst 0, 1) := by decide +kernel
theorem dX4_pick_23 : decode cX4_pick 23 = .ok (.istore 5, 2) := by decide +kernel
theorem dX4_pick_25 : decode cX4_pick 25 = .ok (.ldc 44, 2) := by decide +kernel
theorem dX4_pick_27 : decode cX4_pick 27 = .ok (.istore 6, 2) := by decide +kernel
theorem dX4_pick_29 : decode cX4_pick 29 = .ok (.iconst 0, 1) := by decide +kernel
theorem dX4_pick_30 : decode cX4_pick 30 = .ok (.istore 7, 2) := by decide +kernel
theorem dX4_pick_32 : decode cX4_pick 32 = .ok (.iload 7, 2) := by decide +kernel
theorem dX4_pick_34 : decode cX4_pick 34 = .ok (.iconst 2, 1) := by decide +kernel
theorem dX4_pick_35 : decode cX4_pick 35 = .ok (.aload_n 0, 1) := by decide +kernel
theorem dX4_pick_36 : decode cX4_pick 36 = .ok (.getfield 40, 3) := by decide +kernel
theorem dX4_pick_39 : decode cX4_pick 39 = .ok (.imul, 1) := by decide +kernel
theorem dX4_pick_40 : decode cX4_pick 40 = .ok (.if_icmp .ge 89, 3) := by decide +kernel
theorem dX4_pick_43 : decode cX4_pick 43 = .ok (.iload 4, 2) := by decide +kernel
theorem dX4_pick_45 : decode cX4_pick 45 = .ok (.iload 7, 2) := by decide +kernel
theorem dX4_pick_47 : decode cX4_pick 47 = .ok (.iconst 1, 1) := by decide +kernel
theorem dX4_pick_48 : decode cX4_pick 48 = .ok (.ishr, 1) := by decide +kernel
theorem dX4_pick_49 : decode cX4_pick 49 = .ok (.ishr, 1) := by decide +kernel
theorem dX4_pick_50 : decode cX4_pick 50 = .ok (.iconst 1, 1) := by decide +kernel
theorem dX4_pick_51 : decode cX4_pick 51 = .ok (.iand, 1) := by decide +kernel
theorem dX4_pick_52 : decode cX4_pick 52 = .ok (.ifCond .eq 71, 3) := by decide +kernel
theorem dX4_pick_55 : decode cX4_pick 55 = .ok (.aload_n 0, 1) := by decide +kernel
theorem dX4_pick_56 : decode cX4_pick 56 = .ok (.getfield 15, 3) := by decide +kernel
theorem dX4_pick_59 : decode cX4_pick 59 = .ok (.iload_n 1, 1) := by decide +kernel
theorem dX4_pick_60 : decode cX4_pick 60 = .ok (.bipush 18, 2) := by decide +kernel
theorem dX4_pick_62 : decode cX4_pick 62 = .ok (.imul, 1) := by decide +kernel
theorem dX4_pick_63 : decode cX4_pick 63 = .ok (.iload 7, 2) := by decide +kernel
theorem dX4_pick_65 : decode cX4_pick 65 = .ok (.iadd, 1) := by decide +kernel
theorem dX4_pick_66 : decode cX4_pick 66 = .ok (.iaload, 1) := by decide +kernel
theorem dX4_pick_67 : decode cX4_pick 67 = .ok (.aload_n 0, 1) := by decide +kernel
theorem dX4_pick_68 : decode cX4_pick 68 = .ok (.iload 7, 2) := by decide +kernel
theorem dX4_pick_70 : decode cX4_pick 70 = .ok (.iload_n 2, 1) := by decide +kernel
theorem dX4_pick_71 : decode cX4_pick 71 = .ok (.invokevirtual 101, 3) := by decide +kernel
theorem dX4_pick_74 : decode cX4_pick 74 = .ok (.iadd, 1) := by decide +kernel
theorem dX4_pick_75 : decode cX4_pick 75 = .ok (.iload_n 3, 1) := by decide +kernel
theorem dX4_pick_76 : decode cX4_pick 76 = .ok (.iadd, 1) := by decide +kernel
theorem dX4_pick_77 : decode cX4_pick 77 = .ok (.istore 8, 2) := by decide +kernel
theorem dX4_pick_79 : decode cX4_pick 79 = .ok (.iload 8, 2) := by decide +kernel
theorem dX4_pick_81 : decode cX4_pick 81 = .ok (.iload 6, 2) := by decide +kernel
theorem dX4_pick_83 : decode cX4_pick 83 = .ok (.if_icmp .ge 27, 3) := by decide +kernel
theorem dX4_pick_86 : decode cX4_pick 86 = .ok (.aload_n 0, 1) := by decide +kernel
theorem dX4_pick_87 : decode cX4_pick 87 = .ok (.aload_n 0, 1) := by decide +kernel
theorem dX4_pick_88 : decode cX4_pick 88 = .ok (.getfield 67, 3) := by decide +kernel
theorem dX4_pick_91 : decode cX4_pick 91 = .ok (.iload 6, 2) := by decide +kernel
theorem dX4_pick_93 : decode cX4_pick 93 = .ok (.invokestatic 93, 3) := by decide +kernel
theorem dX4_pick_96 : decode cX4_pick 96 = .ok (.putfield 67, 3) := by decide +kernel
theorem dX4_pick_99 : decode cX4_pick 99 = .ok (.iload 7, 2) := by decide +kernel
theorem dX4_pick_101 : decode cX4_pick 101 = .ok (.istore 5, 2) := by decide +kernel
theorem dX4_pick_103 : decode cX4_pick 103 = .ok (.iload 8, 2) := by decide +kernel
theorem dX4_pick_105 : decode cX4_pick 105 = .ok (.istore 6, 2) := by decide +kernel
theorem dX4_pick_107 : decode cX4_pick 107 = .ok (.goto 16, 3) := by decide +kernel
theorem dX4_pick_110 : decode cX4_pick 110 = .ok (.aload_n 0, 1) := by decide +kernel
theorem dX4_pick_111 : decode cX4_pick 111 = .ok (.aload_n 0, 1) := by decide +kernel
theorem dX4_pick_112 : decode cX4_pick 112 = .ok (.getfield 67, 3) := by decide +kernel
theorem dX4_pick_115 : decode cX4_pick 115 = .ok (.iload 8, 2) := by decide +kernel
theorem dX4_pick_117 : decode cX4_pick 117 = .ok (.invokestatic 93, 3) := by decide +kernel
theorem dX4_pick_120 : decode cX4_pick 120 = .ok (.putfield 67, 3) := by decide +kernel
theorem dX4_pick_123 : decode cX4_pick 123 = .ok (.iinc 7 1, 3) := by decide +kernel
theorem dX4_pick_126 : decode cX4_pick 126 = .ok (.goto (-94), 3) := by decide +kernel
theorem dX4_pick_129 : decode cX4_pick 129 = .ok (.iload 5, 2) := by decide +kernel
theorem dX4_pick_131 : decode cX4_pick 131 = .ok (.ireturn, 1) := by decide +kernel
theorem dX4_linkCost_0 : decode cX4_linkCost 0 = .ok (.iload_n 2, 1) := by decide +kernel
theorem dX4_linkCost_1 : decode cX4_linkCost 1 = .ok (.iconst (-1), 1) := by decide +kernel
theorem dX4_linkCost_2 : decode cX4_linkCost 2 = .ok (.if_icmp .ne 7, 3) := by decide +kernel
theorem dX4_linkCost_5 : decode cX4_linkCost 5 = .ok (.iconst 0, 1) := by decide +kernel
theorem dX4_linkCost_6 : decode cX4_linkCost 6 = .ok (.goto 14, 3) := by decide +kernel
theorem dX4_linkCost_9 : decode cX4_linkCost 9 = .ok (.aload_n 0, 1) := by decide +kernel
theorem dX4_linkCost_10 : decode cX4_linkCost 10 = .ok (.getfield 9, 3) := by decide +kernel
theorem dX4_linkCost_13 : decode cX4_linkCost 13 = .ok (.iload_n 1, 1) := by decide +kernel
theorem dX4_linkCost_14 : decode cX4_linkCost 14 = .ok (.bipush 18, 2) := by decide +kernel
theorem dX4_linkCost_16 : decode cX4_linkCost 16 = .ok (.imul, 1) := by decide +kernel
theorem dX4_linkCost_17 : decode cX4_linkCost 17 = .ok (.iload_n 2, 1) := by decide +kernel
theorem dX4_linkCost_18 : decode cX4_linkCost 18 = .ok (.iadd, 1) := by decide +kernel
theorem dX4_linkCost_19 : decode cX4_linkCost 19 = .ok (.iaload, 1) := by decide +kernel
theorem dX4_linkCost_20 : decode cX4_linkCost 20 = .ok (.ireturn, 1) := by decide +kernel
theorem dX4_isInBest_0 : decode cX4_isInBest 0 = .ok (.iconst 1, 1) := by decide +kernel
theorem dX4_isInBest_1 : decode cX4_isInBest 1 = .ok (.istore_n 3, 1) := by decide +kernel
theorem dX4_isInBest_2 : decode cX4_isInBest 2 = .ok (.iload_n 3, 1) := by decide +kernel
theorem dX4_isInBest_3 : decode cX4_isInBest 3 = .ok (.aload_n 0, 1) := by decide +kernel
theorem dX4_isInBest_4 : decode cX4_isInBest 4 = .ok (.getfield 40, 3) := by decide +kernel
theorem dX4_isInBest_7 : decode cX4_isInBest 7 = .ok (.if_icmp .ge 37, 3) := by decide +kernel
theorem dX4_isInBest_10 : decode cX4_isInBest 10 = .ok (.aload_n 0, 1) := by decide +kernel
theorem dX4_isInBest_11 : decode cX4_isInBest 11 = .ok (.getfield 21, 3) := by decide +kernel
theorem dX4_isInBest_14 : decode cX4_isInBest 14 = .ok (.iload_n 3, 1) := by decide +kernel
theorem dX4_isInBest_15 : decode cX4_isInBest 15 = .ok (.iconst 1, 1) := by decide +kernel
theorem dX4_isInBest_16 : decode cX4_isInBest 16 = .ok (.isub, 1) := by decide +kernel
theorem dX4_isInBest_17 : decode cX4_isInBest 17 = .ok (.iaload, 1) := by decide +kernel
theorem dX4_isInBest_18 : decode cX4_isInBest 18 = .ok (.iconst 1, 1) := by decide +kernel
theorem dX4_isInBest_19 : decode cX4_isInBest 19 = .ok (.ishr, 1) := by decide +kernel
theorem dX4_isInBest_20 : decode cX4_isInBest 20 = .ok (.iload_n 1, 1) := by decide +kernel
theorem dX4_isInBest_21 : decode cX4_isInBest 21 = .ok (.if_icmp .ne 17, 3) := by decide +kernel
theorem dX4_isInBest_24 : decode cX4_isInBest 24 = .ok (.aload_n 0, 1) := by decide +kernel
theorem dX4_isInBest_25 : decode cX4_isInBest 25 = .ok (.getfield 21, 3) := by decide +kernel
theorem dX4_isInBest_28 : decode cX4_isInBest 28 = .ok (.iload_n 3, 1) := by decide +kernel
theorem dX4_isInBest_29 : decode cX4_isInBest 29 = .ok (.iaload, 1) := by decide +kernel
theorem dX4_isInBest_30 : decode cX4_isInBest 30 = .ok (.iconst 1, 1) := by decide +kernel
theorem dX4_isInBest_31 : decode cX4_isInBest 31 = .ok (.ishr, 1) := by decide +kernel
theorem dX4_isInBest_32 : decode cX4_isInBest 32 = .ok (.iload_n 2, 1) := by decide +kernel
theorem dX4_isInBest_33 : decode cX4_isInBest 33 = .ok (.if_icmp .ne 5, 3) := by decide +kernel
theorem dX4_isInBest_36 : decode cX4_isInBest 36 = .ok (.iconst 1, 1) := by decide +kernel
theorem dX4_isInBest_37 : decode cX4_isInBest 37 = .ok (.ireturn, 1) := by decide +kernel
theorem dX4_isInBest_38 : decode cX4_isInBest 38 = .ok (.iinc 3 1, 3) := by decide +kernel
theorem dX4_isInBest_41 : decode cX4_isInBest 41 = .ok (.goto (-39), 3) := by decide +kernel
theorem dX4_isInBest_44 : decode cX4_isInBest 44 = .ok (.iconst 0, 1) := by decide +kernel
theorem dX4_isInBest_45 : decode cX4_isInBest 45 = .ok (.ireturn, 1) := by decide +kernel
set_option maxRecDepth 20000 in
theorem ggX5_init_X1_init : GoodIn wsX5_init wsX1_init := goodIn_r _ [27, 28, 2, 3, 29, 30, 31, 32, 33, 34, 35, 62, 63, 64, 65, 66, 67, 68] (by decide +kernel) (by decide +kernel)
set_option maxRecDepth 20000 in
theorem gX5_init_X1_init_n11 : GoodIn wsX5_init (wsX1_init) := ggX5_init_X1_init
set_option maxRecDepth 20000 in
theorem ggX5_init_X3_init : GoodIn wsX5_init wsX3_init := goodIn_r _ [38, 39, 2, 3, 29, 40, 41, 76, 77] (by decide +kernel) (by decide +kernel)
set_option maxRecDepth 20000 in
theorem gX5_init_X3_init : GoodIn wsX5_init (wsX3_init) := ggX5_init_X3_init
set_option maxRecDepth 20000 in
theorem ggX5_init_X2_init : GoodIn wsX5_init wsX2_init := goodIn_r _ [43, 44, 2, 3, 29, 45, 46, 47, 78, 79, 80] (by decide +kernel) (by decide +kernel)
set_option maxRecDepth 20000 in
theorem gX5_init_X2_init_n27 : GoodIn wsX5_init (wsX2_init) := ggX5_init_X2_init
set_option maxRecDepth 20000 in
theorem ggX5_init_X4_init : GoodIn wsX5_init wsX4_init := goodIn_r _ [50, 51, 2, 3, 29, 52, 53, 54, 55, 56, 81, 82, 83, 84, 85, 86, 87, 88, 89] (by decide +kernel) (by decide +kernel)
set_option maxRecDepth 20000 in
theorem gX5_init_X4_init : GoodIn wsX5_init (wsX4_init) := ggX5_init_X4_init
set_option maxRecDepth 20000 in
theorem ggX5_init_X0_init : GoodIn wsX5_init wsX0_init := goodIn_r _ [59, 60, 2, 3, 61, 90, 91, 92] (by decide +kernel) (by decide +kernel)
set_option maxRecDepth 20000 in
theorem gX5_init_X0_init : GoodIn wsX5_init (wsX0_init) := ggX5_init_X0_init
theorem dX5_init_0 : decode cX5_init 0 = .ok (.aload_n 0, 1) := by decide +kernel
theorem dX5_init_1 : decode cX5_init 1 = .ok (.invokespecial 3, 3) := by decide +kernel
theorem dX5_init_4 : decode cX5_init 4 = .ok (.aload_n 0, 1) := by decide +kernel
theorem dX5_init_5 : decode cX5_init 5 = .ok (.new 9, 3) := by decide +kernel
theorem dX5_init_8 : decode cX5_init 8 = .ok (.dup, 1) := by decide +kernel
theorem dX5_init_9 : decode cX5_init 9 = .ok (.invokespecial 11, 3) := by decide +kernel
theorem dX5_init_12 : decode cX5_init 12 = .ok (.putfield 12, 3) := by decide +kernel
theorem dX5_init_15 : decode cX5_init 15 = .ok (.aload_n 0, 1) := by decide +kernel
theorem dX5_init_16 : decode cX5_init 16 = .ok (.new 16, 3) := by decide +kernel
theorem dX5_init_19 : decode cX5_init 19 = .ok (.dup, 1) := by decide +kernel
theorem dX5_init_20 : decode cX5_init 20 = .ok (.aload_n 0, 1) := by decide +kernel
theorem dX5_init_21 : decode cX5_init 21 = .ok (.getfield 12, 3) := by decide +kernel
theorem dX5_init_24 : decode cX5_init 24 = .ok (.invokespecial 18, 3) := by decide +kernel
theorem dX5_init_27 : decode cX5_init 27 = .ok (.putfield 21, 3) := by decide +kernel
theorem dX5_init_30 : decode cX5_init 30 = .ok (.aload_n 0, 1) := by decide +kernel
theorem dX5_init_31 : decode cX5_init 31 = .ok (.new 25, 3) := by decide +kernel
theorem dX5_init_34 : decode cX5_init 34 = .ok (.dup, 1) := by decide +kernel
theorem dX5_init_35 : decode cX5_init 35 = .ok (.invokespecial 27, 3) := by decide +kernel
theorem dX5_init_38 : decode cX5_init 38 = .ok (.putfield 28, 3) := by decide +kernel
theorem dX5_init_41 : decode cX5_init 41 = .ok (.aload_n 0, 1) := by decide +kernel
theorem dX5_init_42 : decode cX5_init 42 = .ok (.new 32, 3) := by decide +kernel
theorem dX5_init_45 : decode cX5_init 45 = .ok (.dup, 1) := by decide +kernel
theorem dX5_init_46 : decode cX5_init 46 = .ok (.aload_n 0, 1) := by decide +kernel
theorem dX5_init_47 : decode cX5_init 47 = .ok (.getfield 28, 3) := by decide +kernel
theorem dX5_init_50 : decode cX5_init 50 = .ok (.invokespecial 34, 3) := by decide +kernel
theorem dX5_init_53 : decode cX5_init 53 = .ok (.putfield 37, 3) := by decide +kernel
theorem dX5_init_56 : decode cX5_init 56 = .ok (.aload_n 0, 1) := by decide +kernel
theorem dX5_init_57 : decode cX5_init 57 = .ok (.new 41, 3) := by decide +kernel
theorem dX5_init_60 : decode cX5_init 60 = .ok (.dup, 1) := by decide +kernel
theorem dX5_init_61 : decode cX5_init 61 = .ok (.aload_n 0, 1) := by decide +kernel
theorem dX5_init_62 : decode cX5_init 62 = .ok (.getfield 37, 3) := by decide +kernel
theorem dX5_init_65 : decode cX5_init 65 = .ok (.invokespecial 43, 3) := by decide +kernel
theorem dX5_init_68 : decode cX5_init 68 = .ok (.putfield 46, 3) := by decide +kernel
theorem dX5_init_71 : decode cX5_init 71 = .ok (.aload_n 0, 1) := by decide +kernel
theorem dX5_init_72 : decode cX5_init 72 = .ok (.iconst 1, 1) := by decide +kernel
theorem dX5_init_73 : decode cX5_init 73 = .ok (.putfield 50, 3) := by decide +kernel
theorem dX5_init_76 : decode cX5_init 76 = .ok (.aload_n 0, 1) := by decide +kernel
theorem dX5_init_77 : decode cX5_init 77 = .ok (.iconst 1, 1) := by decide +kernel
theorem dX5_init_78 : decode cX5_init 78 = .ok (.putfield 54, 3) := by decide +kernel
theorem dX5_init_81 : decode cX5_init 81 = .ok (.return_, 1) := by decide +kernel
set_option maxRecDepth 20000 in
theorem ggX5_leaf_X5_isMark : GoodIn wsX5_leaf wsX5_isMark := goodIn_r _ [7, 8, 9, 6, 10] (by decide +kernel) (by decide +kernel)
set_option maxRecDepth 20000 in
theorem gX5_leaf_X5_isMark : GoodIn wsX5_leaf (va_wsS RX5 57 yX5_isMark wsX5_isMark) := goodIn_app (goodIn_of _ (by decide +kernel)) ggX5_leaf_X5_isMark
set_option maxRecDepth 20000 in
theorem ggX5_leaf_X1_add : GoodIn wsX5_leaf wsX1_add := goodIn_r _ [15, 16, 17, 18, 19, 27, 28, 29, 30, 31, 32, 33] (by decide +kernel) (by decide +kernel)
set_option maxRecDepth 20000 in
theorem gX5_leaf_X1_add : GoodIn wsX5_leaf (wsV RX5 65 RX1 yX1_add wsX1_add) := goodIn_app (goodIn_of _ (by decide +kernel)) ggX5_leaf_X1_add
theorem dX5_leaf_0 : decode cX5_leaf 0 = .ok (.iload_n 1, 1) := by decide +kernel
theorem dX5_leaf_1 : decode cX5_leaf 1 = .ok (.invokestatic 57, 3) := by decide +kernel
theorem dX5_leaf_4 : decode cX5_leaf 4 = .ok (.ifCond .eq 29, 3) := by decide +kernel
theorem dX5_leaf_7 : decode cX5_leaf 7 = .ok (.iload_n 2, 1) := by decide +kernel
theorem dX5_leaf_8 : decode cX5_leaf 8 = .ok (.invokestatic 57, 3) := by decide +kernel
theorem dX5_leaf_11 : decode cX5_leaf 11 = .ok (.ifCond .eq 22, 3) := by decide +kernel
theorem dX5_leaf_14 : decode cX5_leaf 14 = .ok (.iload_n 3, 1) := by decide +kernel
theorem dX5_leaf_15 : decode cX5_leaf 15 = .ok (.invokestatic 57, 3) := by decide +kernel
theorem dX5_leaf_18 : decode cX5_leaf 18 = .ok (.ifCond .eq 15, 3) := by decide +kernel
theorem dX5_leaf_21 : decode cX5_leaf 21 = .ok (.iload 4, 2) := by decide +kernel
theorem dX5_leaf_23 : decode cX5_leaf 23 = .ok (.invokestatic 57, 3) := by decide +kernel
theorem dX5_leaf_26 : decode cX5_leaf 26 = .ok (.ifCond .eq 7, 3) := by decide +kernel
theorem dX5_leaf_29 : decode cX5_leaf 29 = .ok (.iconst 1, 1) := by decide +kernel
theorem dX5_leaf_30 : decode cX5_leaf 30 = .ok (.goto 4, 3) := by decide +kernel
theorem dX5_leaf_33 : decode cX5_leaf 33 = .ok (.iconst 0, 1) := by decide +kernel
theorem dX5_leaf_34 : decode cX5_leaf 34 = .ok (.istore 5, 2) := by decide +kernel
theorem dX5_leaf_36 : decode cX5_leaf 36 = .ok (.iload 5, 2) := by decide +kernel
theorem dX5_leaf_38 : decode cX5_leaf 38 = .ok (.ifCond .eq 15, 3) := by decide +kernel
theorem dX5_leaf_41 : decode cX5_leaf 41 = .ok (.aload_n 0, 1) := by decide +kernel
theorem dX5_leaf_42 : decode cX5_leaf 42 = .ok (.getfield 12, 3) := by decide +kernel
theorem dX5_leaf_45 : decode cX5_leaf 45 = .ok (.getfield 61, 3) := by decide +kernel
theorem dX5_leaf_48 : decode cX5_leaf 48 = .ok (.bipush 9, 2) := by decide +kernel
theorem dX5_leaf_50 : decode cX5_leaf 50 = .ok (.if_icmp .lt 5, 3) := by decide +kernel
theorem dX5_leaf_53 : decode cX5_leaf 53 = .ok (.iconst (-1), 1) := by decide +kernel
theorem dX5_leaf_54 : decode cX5_leaf 54 = .ok (.ireturn, 1) := by decide +kernel
theorem dX5_leaf_55 : decode cX5_leaf 55 = .ok (.aload_n 0, 1) := by decide +kernel
theorem dX5_leaf_56 : decode cX5_leaf 56 = .ok (.iconst 1, 1) := by decide +kernel
theorem dX5_leaf_57 : decode cX5_leaf 57 = .ok (.putfield 54, 3) := by decide +kernel
theorem dX5_leaf_60 : decode cX5_leaf 60 = .ok (.aload_n 0, 1) := by decide +kernel
theorem dX5_leaf_61 : decode cX5_leaf 61 = .ok (.getfield 12, 3) := by decide +kernel
theorem dX5_leaf_64 : decode cX5_leaf 64 = .ok (.iload_n 1, 1) := by decide +kernel
theorem dX5_leaf_65 : decode cX5_leaf 65 = .ok (.iload_n 2, 1) := by decide +kernel
theorem dX5_leaf_66 : decode cX5_leaf 66 = .ok (.iload_n 3, 1) := by decide +kernel
theorem dX5_leaf_67 : decode cX5_leaf 67 = .ok (.iload 4, 2) := by decide +kernel
theorem dX5_leaf_69 : decode cX5_leaf 69 = .ok (.invokevirtual 65, 3) := by decide +kernel
theorem dX5_leaf_72 : decode cX5_leaf 72 = .ok (.ireturn, 1) := by decide +kernel
set_option maxRecDepth 20000 in
theorem ggX5_catchword_X1_hasSide : GoodIn wsX5_catchword wsX1_hasSide := goodIn_r _ [8, 9, 10, 11, 7, 12, 13, 14, 15, 16, 28, 29, 30, 31, 32, 33, 34] (by decide +kernel) (by decide +kernel)
set_option maxRecDepth 20000 in
theorem gX5_catchword_X1_hasSide : GoodIn wsX5_catchword (wsV RX5 69 RX1 yX1_hasSide wsX1_hasSide) := goodIn_app (goodIn_of _ (by decide +kernel)) ggX5_catchword_X1_hasSide
set_option maxRecDepth 20000 in
theorem ggX5_catchword_X5_isMark : GoodIn wsX5_catchword wsX5_isMark := goodIn_r _ [19, 20, 14, 15, 16] (by decide +kernel) (by decide +kernel)
set_option maxRecDepth 20000 in
theorem gX5_catchword_X5_isMark : GoodIn wsX5_catchword (va_wsS RX5 57 yX5_isMark wsX5_isMark) := goodIn_app (goodIn_of _ (by decide +kernel)) ggX5_catchword_X5_isMark
theorem dX5_catchword_0 : decode cX5_catchword 0 = .ok (.aload_n 0, 1) := by decide +kernel
theorem dX5_catchword_1 : decode cX5_catchword 1 = .ok (.getfield 12, 3) := by decide +kernel
theorem dX5_catchword_4 : decode cX5_catchword 4 = .ok (.iload_n 1, 1) := by decide +kernel
theorem dX5_catchword_5 : decode cX5_catchword 5 = .ok (.iload_n 2, 1) := by decide +kernel
theorem dX5_catchword_6 : decode cX5_catchword 6 = .ok (.invokevirtual 69, 3) := by decide +kernel
theorem dX5_catchword_9 : decode cX5_catchword 9 = .ok (.ifCond .eq 15, 3) := by decide +kernel
theorem dX5_catchword_12 : decode cX5_catchword 12 = .ok (.iload_n 3, 1) := by decide +kernel
theorem dX5_catchword_13 : decode cX5_catchword 13 = .ok (.iconst (-1), 1) := by decide +kernel
theorem dX5_catchword_14 : decode cX5_catchword 14 = .ok (.if_icmp .eq 12, 3) := by decide +kernel
theorem dX5_catchword_17 : decode cX5_catchword 17 = .ok (.iload_n 3, 1) := by decide +kernel
theorem dX5_catchword_18 : decode cX5_catchword 18 = .ok (.invokestatic 57, 3) := by decide +kernel
theorem dX5_catchword_21 : decode cX5_catchword 21 = .ok (.ifCond .ne 5, 3) := by decide +kernel
theorem dX5_catchword_24 : decode cX5_catchword 24 = .ok (.iconst 0, 1) := by decide +kernel
theorem dX5_catchword_25 : decode cX5_catchword 25 = .ok (.ireturn, 1) := by decide +kernel
theorem dX5_catchword_26 : decode cX5_catchword 26 = .ok (.aload_n 0, 1) := by decide +kernel
theorem dX5_catchword_27 : decode cX5_catchword 27 = .ok (.getfield 12, 3) := by decide +kernel
theorem dX5_catchword_30 : decode cX5_catchword 30 = .ok (.getfield 73, 3) := by decide +kernel
theorem dX5_catchword_33 : decode cX5_catchword 33 = .ok (.iconst 2, 1) := by decide +kernel
theorem dX5_catchword_34 : decode cX5_catchword 34 = .ok (.iload_n 1, 1) := by decide +kernel
theorem dX5_catchword_35 : decode cX5_catchword 35 = .ok (.imul, 1) := by decide +kernel
theorem dX5_catchword_36 : decode cX5_catchword 36 = .ok (.iload_n 2, 1) := by decide +kernel
theorem dX5_catchword_37 : decode cX5_catchword 37 = .ok (.iadd, 1) := by decide +kernel
theorem dX5_catchword_38 : decode cX5_catchword 38 = .ok (.iload_n 3, 1) := by decide +kernel
theorem dX5_catchword_39 : decode cX5_catchword 39 = .ok (.iastore, 1) := by decide +kernel
theorem dX5_catchword_40 : decode cX5_catchword 40 = .ok (.aload_n 0, 1) := by decide +kernel
theorem dX5_catchword_41 : decode cX5_catchword 41 = .ok (.iconst 1, 1) := by decide +kernel
theorem dX5_catchword_42 : decode cX5_catchword 42 = .ok (.putfield 54, 3) := by decide +kernel
theorem dX5_catchword_45 : decode cX5_catchword 45 = .ok (.iconst 1, 1) := by decide +kernel
theorem dX5_catchword_46 : decode cX5_catchword 46 = .ok (.ireturn, 1) := by decide +kernel
set_option maxRecDepth 20000 in
theorem ggX5_cut_X1_hasSide : GoodIn wsX5_cut wsX1_hasSide := goodIn_r _ [9, 10, 11, 12, 8, 13, 14, 15, 16, 17, 29, 30, 31, 32, 33, 34, 35] (by decide +kernel) (by decide +kernel)
set_option maxRecDepth 20000 in
theorem gX5_cut_X1_hasSide : GoodIn wsX5_cut (wsV RX5 69 RX1 yX1_hasSide wsX1_hasSide) := goodIn_app (goodIn_of _ (by decide +kernel)) ggX5_cut_X1_hasSide
set_option maxRecDepth 20000 in
theorem ggX5_cut_X5_isMark : GoodIn wsX5_cut wsX5_isMark := goodIn_r _ [20, 21, 15, 16, 17] (by decide +kernel) (by decide +kernel)
set_option maxRecDepth 20000 in
theorem gX5_cut_X5_isMark : GoodIn wsX5_cut (va_wsS RX5 57 yX5_isMark wsX5_isMark) := goodIn_app (goodIn_of _ (by decide +kernel)) ggX5_cut_X5_isMark
theorem dX5_cut_0 : decode cX5_cut 0 = .ok (.aload_n 0, 1) := by decide +kernel
theorem dX5_cut_1 : decode cX5_cut 1 = .ok (.getfield 12, 3) := by decide +kernel
theorem dX5_cut_4 : decode cX5_cut 4 = .ok (.iload_n 1, 1) := by decide +kernel
theorem dX5_cut_5 : decode cX5_cut 5 = .ok (.iload_n 2, 1) := by decide +kernel
theorem dX5_cut_6 : decode cX5_cut 6 = .ok (.invokevirtual 69, 3) := by decide +kernel
theorem dX5_cut_9 : decode cX5_cut 9 = .ok (.ifCond .eq 18, 3) := by decide +kernel
theorem dX5_cut_12 : decode cX5_cut 12 = .ok (.iload_n 3, 1) := by decide +kernel
theorem dX5_cut_13 : decode cX5_cut 13 = .ok (.invokestatic 57, 3) := by decide +kernel
theorem dX5_cut_16 : decode cX5_cut 16 = .ok (.ifCond .eq 11, 3) := by decide +kernel
theorem dX5_cut_19 : decode cX5_cut 19 = .ok (.iload 4, 2) := by decide +kernel
theorem dX5_cut_21 : decode cX5_cut 21 = .ok (.invokestatic 57, 3) := by decide +kernel
theorem dX5_cut_24 : decode cX5_cut 24 = .ok (.ifCond .ne 5, 3) := by decide +kernel
theorem dX5_cut_27 : decode cX5_cut 27 = .ok (.iconst 0, 1) := by decide +kernel
theorem dX5_cut_28 : decode cX5_cut 28 = .ok (.ireturn, 1) := by decide +kernel
theorem dX5_cut_29 : decode cX5_cut 29 = .ok (.aload_n 0, 1) := by decide +kernel
theorem dX5_cut_30 : decode cX5_cut 30 = .ok (.getfield 12, 3) := by decide +kernel
theorem dX5_cut_33 : decode cX5_cut 33 = .ok (.getfield 77, 3) := by decide +kernel
theorem dX5_cut_36 : decode cX5_cut 36 = .ok (.iconst 2, 1) := by decide +kernel
theorem dX5_cut_37 : decode cX5_cut 37 = .ok (.iload_n 1, 1) := by decide +kernel
theorem dX5_cut_38 : decode cX5_cut 38 = .ok (.imul, 1) := by decide +kernel
theorem dX5_cut_39 : decode cX5_cut 39 = .ok (.iload_n 2, 1) := by decide +kernel
theorem dX5_cut_40 : decode cX5_cut 40 = .ok (.iadd, 1) := by decide +kernel
theorem dX5_cut_41 : decode cX5_cut 41 = .ok (.iload_n 3, 1) := by decide +kernel
theorem dX5_cut_42 : decode cX5_cut 42 = .ok (.iastore, 1) := by decide +kernel
theorem dX5_cut_43 : decode cX5_cut 43 = .ok (.aload_n 0, 1) := by decide +kernel
theorem dX5_cut_44 : decode cX5_cut 44 = .ok (.getfield 12, 3) := by decide +kernel
theorem dX5_cut_47 : decode cX5_cut 47 = .ok (.getfield 80, 3) := by decide +kernel
theorem dX5_cut_50 : decode cX5_cut 50 = .ok (.iconst 2, 1) := by decide +kernel
theorem dX5_cut_51 : decode cX5_cut 51 = .ok (.iload_n 1, 1) := by decide +kernel
theorem dX5_cut_52 : decode cX5_cut 52 = .ok (.imul, 1) := by decide +kernel
theorem dX5_cut_53 : decode cX5_cut 53 = .ok (.iload_n 2, 1) := by decide +kernel
theorem dX5_cut_54 : decode cX5_cut 54 = .ok (.iadd, 1) := by decide +kernel
theorem dX5_cut_55 : decode cX5_cut 55 = .ok (.iload 4, 2) := by decide +kernel
theorem dX5_cut_57 : decode cX5_cut 57 = .ok (.iastore, 1) := by decide +kernel
theorem dX5_cut_58 : decode cX5_cut 58 = .ok (.aload_n 0, 1) := by decide +kernel
theorem dX5_cut_59 : decode cX5_cut 59 = .ok (.iconst 1, 1) := by decide +kernel
theorem dX5_cut_60 : decode cX5_cut 60 = .ok (.putfield 54, 3) := by decide +kernel
theorem dX5_cut_63 : decode cX5_cut 63 = .ok (.iconst 1, 1) := by decide +kernel
theorem dX5_cut_64 : decode cX5_cut 64 = .ok (.ireturn, 1) := by decide +kernel
set_option maxRecDepth 20000 in
theorem ggX5_stain_X1_has : GoodIn wsX5_stain wsX1_has := goodIn_r _ [8, 9, 24, 25, 26, 27, 28, 29, 30] (by decide +kernel) (by decide +kernel)
set_option maxRecDepth 20000 in
theorem gX5_stain_X1_has : GoodIn wsX5_stain (wsV RX5 83 RX1 yX1_has wsX1_has) := goodIn_app (goodIn_of _ (by decide +kernel)) ggX5_stain_X1_has
set_option maxRecDepth 20000 in
theorem ggX5_stain_X5_isWithin : GoodIn wsX5_stain wsX5_isWithin := goodIn_r _ [13] (by decide +kernel) (by decide +kernel)
set_option maxRecDepth 20000 in
theorem gX5_stain_X5_isWithin : GoodIn wsX5_stain (va_wsS RX5 86 yX5_isWithin wsX5_isWithin) := goodIn_app (goodIn_of _ (by decide +kernel)) ggX5_stain_X5_isWithin
set_option maxRecDepth 20000 in
theorem ggX5_stain_X5_isMark : GoodIn wsX5_stain wsX5_isMark := goodIn_r _ [16, 10, 11, 12, 13] (by decide +kernel) (by decide +kernel)
set_option maxRecDepth 20000 in
theorem gX5_stain_X5_isMark : GoodIn wsX5_stain (va_wsS RX5 57 yX5_isMark wsX5_isMark) := goodIn_app (goodIn_of _ (by decide +kernel)) ggX5_stain_X5_isMark
theorem dX5_stain_0 : decode cX5_stain 0 = .ok (.aload_n 0, 1) := by decide +kernel
theorem dX5_stain_1 : decode cX5_stain 1 = .ok (.getfield 12, 3) := by decide +kernel
theorem dX5_stain_4 : decode cX5_stain 4 = .ok (.iload_n 1, 1) := by decide +kernel
theorem dX5_stain_5 : decode cX5_stain 5 = .ok (.invokevirtual 83, 3) := by decide +kernel
theorem dX5_stain_8 : decode cX5_stain 8 = .ok (.ifCond .eq 18, 3) := by decide +kernel
theorem dX5_stain_11 : decode cX5_stain 11 = .ok (.iload_n 2, 1) := by decide +kernel
theorem dX5_stain_12 : decode cX5_stain 12 = .ok (.iconst 2, 1) := by decide +kernel
theorem dX5_stain_13 : decode cX5_stain 13 = .ok (.invokestatic 86, 3) := by decide +kernel
theorem dX5_stain_16 : decode cX5_stain 16 = .ok (.ifCond .eq 10, 3) := by decide +kernel
theorem dX5_stain_19 : decode cX5_stain 19 = .ok (.iload_n 3, 1) := by decide +kernel
theorem dX5_stain_20 : decode cX5_stain 20 = .ok (.invokestatic 57, 3) := by decide +kernel
theorem dX5_stain_23 : decode cX5_stain 23 = .ok (.ifCond .ne 5, 3) := by decide +kernel
theorem dX5_stain_26 : decode cX5_stain 26 = .ok (.iconst 0, 1) := by decide +kernel
theorem dX5_stain_27 : decode cX5_stain 27 = .ok (.ireturn, 1) := by decide +kernel
theorem dX5_stain_28 : decode cX5_stain 28 = .ok (.aload_n 0, 1) := by decide +kernel
theorem dX5_stain_29 : decode cX5_stain 29 = .ok (.getfield 12, 3) := by decide +kernel
theorem dX5_stain_32 : decode cX5_stain 32 = .ok (.getfield 89, 3) := by decide +kernel
theorem dX5_stain_35 : decode cX5_stain 35 = .ok (.iconst 3, 1) := by decide +kernel
theorem dX5_stain_36 : decode cX5_stain 36 = .ok (.iload_n 1, 1) := by decide +kernel
theorem dX5_stain_37 : decode cX5_stain 37 = .ok (.imul, 1) := by decide +kernel
theorem dX5_stain_38 : decode cX5_stain 38 = .ok (.iload_n 2, 1) := by decide +kernel
theorem dX5_stain_39 : decode cX5_stain 39 = .ok (.iadd, 1) := by decide +kernel
theorem dX5_stain_40 : decode cX5_stain 40 = .ok (.iload_n 3, 1) := by decide +kernel
theorem dX5_stain_41 : decode cX5_stain 41 = .ok (.iastore, 1) := by decide +kernel
theorem dX5_stain_42 : decode cX5_stain 42 = .ok (.aload_n 0, 1) := by decide +kernel
theorem dX5_stain_43 : decode cX5_stain 43 = .ok (.iconst 1, 1) := by decide +kernel
theorem dX5_stain_44 : decode cX5_stain 44 = .ok (.putfield 54, 3) := by decide +kernel
theorem dX5_stain_47 : decode cX5_stain 47 = .ok (.iconst 1, 1) := by decide +kernel
theorem dX5_stain_48 : decode cX5_stain 48 = .ok (.ireturn, 1) := by decide +kernel
set_option maxRecDepth 20000 in
theorem ggX5_weights_X5_isWithin : GoodIn wsX5_weights wsX5_isWithin := goodIn_r _ [7] (by decide +kernel) (by decide +kernel)
set_option maxRecDepth 20000 in
theorem gX5_weights_X5_isWithin : GoodIn wsX5_weights (va_wsS RX5 86 yX5_isWithin wsX5_isWithin) := goodIn_app (goodIn_of _ (by decide +kernel)) ggX5_weights_X5_isWithin
theorem dX5_weights_0 : decode cX5_weights 0 = .ok (.iload_n 1, 1) := by decide +kernel
theorem dX5_weights_1 : decode cX5_weights 1 = .ok (.bipush 9, 2) := by decide +kernel
theorem dX5_weights_3 : decode cX5_weights 3 = .ok (.invokestatic 86, 3) := by decide +kernel
theorem dX5_weights_6 : decode cX5_weights 6 = .ok (.ifCond .eq 56, 3) := by decide +kernel
theorem dX5_weights_9 : decode cX5_weights 9 = .ok (.iload_n 2, 1) := by decide +kernel
theorem dX5_weights_10 : decode cX5_weights 10 = .ok (.bipush 9, 2) := by decide +kernel
theorem dX5_weights_12 : decode cX5_weights 12 = .ok (.invokestatic 86, 3) := by decide +kernel
theorem dX5_weights_15 : decode cX5_weights 15 = .ok (.ifCond .eq 47, 3) := by decide +kernel
theorem dX5_weights_18 : decode cX5_weights 18 = .ok (.iload_n 3, 1) := by decide +kernel
theorem dX5_weights_19 : decode cX5_weights 19 = .ok (.bipush 99, 2) := by decide +kernel
theorem dX5_weights_21 : decode cX5_weights 21 = .ok (.invokestatic 86, 3) := by decide +kernel
theorem dX5_weights_24 : decode cX5_weights 24 = .ok (.ifCond .eq 38, 3) := by decide +kernel
theorem dX5_weights_27 : decode cX5_weights 27 = .ok (.iload 4, 2) := by decide +kernel
theorem dX5_weights_29 : decode cX5_weights 29 = .ok (.bipush 99, 2) := by decide +kernel
theorem dX5_weights_31 : decode cX5_weights 31 = .ok (.invokestatic 86, 3) := by decide +kernel
theorem dX5_weights_34 : decode cX5_weights 34 = .ok (.ifCond .eq 28, 3) := by decide +kernel
theorem dX5_weights_37 : decode cX5_weights 37 = .ok (.iload 5, 2) := by decide +kernel
theorem dX5_weights_39 : decode cX5_weights 39 = .ok (.bipush 99, 2) := by decide +kernel
theorem dX5_weights_41 : decode cX5_weights 41 = .ok (.invokestatic 86, 3) := by decide +kernel
theorem dX5_weights_44 : decode cX5_weights 44 = .ok (.ifCond .eq 18, 3) := by decide +kernel
theorem dX5_weights_47 : decode cX5_weights 47 = .ok (.iload 6, 2) := by decide +kernel
theorem dX5_weights_49 : decode cX5_weights 49 = .ok (.sipush 999, 3) := by decide +kernel
theorem dX5_weights_52 : decode cX5_weights 52 = .ok (.invokestatic 86, 3) := by decide +kernel
theorem dX5_weights_55 : decode cX5_weights 55 = .ok (.ifCond .eq 7, 3) := by decide +kernel
theorem dX5_weights_58 : decode cX5_weights 58 = .ok (.iconst 1, 1) := by decide +kernel
theorem dX5_weights_59 : decode cX5_weights 59 = .ok (.goto 4, 3) := by decide +kernel
theorem dX5_weights_62 : decode cX5_weights 62 = .ok (.iconst 0, 1) := by decide +kernel
theorem dX5_weights_63 : decode cX5_weights 63 = .ok (.istore 7, 2) := by decide +kernel
theorem dX5_weights_65 : decode cX5_weights 65 = .ok (.iload 7, 2) := by decide +kernel
theorem dX5_weights_67 : decode cX5_weights 67 = .ok (.ifCond .ne 5, 3) := by decide +kernel
theorem dX5_weights_70 : decode cX5_weights 70 = .ok (.iconst 0, 1) := by decide +kernel
theorem dX5_weights_71 : decode cX5_weights 71 = .ok (.ireturn, 1) := by decide +kernel
theorem dX5_weights_72 : decode cX5_weights 72 = .ok (.aload_n 0, 1) := by decide +kernel
theorem dX5_weights_73 : decode cX5_weights 73 = .ok (.getfield 21, 3) := by decide +kernel
theorem dX5_weights_76 : decode cX5_weights 76 = .ok (.getfield 92, 3) := by decide +kernel
theorem dX5_weights_79 : decode cX5_weights 79 = .ok (.iconst 0, 1) := by decide +kernel
theorem dX5_weights_80 : decode cX5_weights 80 = .ok (.iload_n 1, 1) := by decide +kernel
theorem dX5_weights_81 : decode cX5_weights 81 = .ok (.iastore, 1) := by decide +kernel
theorem dX5_weights_82 : decode cX5_weights 82 = .ok (.aload_n 0, 1) := by decide +kernel
theorem dX5_weights_83 : decode cX5_weights 83 = .ok (.getfield 21, 3) := by decide +kernel
theorem dX5_weights_86 : decode cX5_weights 86 = .ok (.getfield 92, 3) := by decide +kernel
theorem dX5_weights_89 : decode cX5_weights 89 = .ok (.iconst 1, 1) := by decide +kernel
theorem dX5_weights_90 : decode cX5_weights 90 = .ok (.iload_n 2, 1) := by decide +kernel
theorem dX5_weights_91 : decode cX5_weights 91 = .ok (.iastore, 1) := by decide +kernel
theorem dX5_weights_92 : decode cX5_weights 92 = .ok (.aload_n 0, 1) := by decide +kernel
theorem dX5_weights_93 : decode cX5_weights 93 = .ok (.getfield 21, 3) := by decide +kernel
theorem dX5_weights_96 : decode cX5_weights 96 = .ok (.getfield 92, 3) := by decide +kernel
theorem dX5_weights_99 : decode cX5_weights 99 = .ok (.iconst 2, 1) := by decide +kernel
theorem dX5_weights_100 : decode cX5_weights 100 = .ok (.iload_n 3, 1) := by decide +kernel
theorem dX5_weights_101 : decode cX5_weights 101 = .ok (.iastore, 1) := by decide +kernel
theorem dX5_weights_102 : decode cX5_weights 102 = .ok (.aload_n 0, 1) := by decide +kernel
theorem dX5_weights_103 : decode cX5_weights 103 = .ok (.getfield 21, 3) := by decide +kernel
theorem dX5_weights_106 : decode cX5_weights 106 = .ok (.getfield 92, 3) := by decide +kernel
theorem dX5_weights_109 : decode cX5_weights 109 = .ok (.iconst 3, 1) := by decide +kernel
theorem dX5_weights_110 : decode cX5_weights 110 = .ok (.iload 4, 2) := by decide +kernel
theorem dX5_weights_112 : decode cX5_weights 112 = .ok (.iastore, 1) := by decide +kernel
theorem dX5_weights_113 : decode cX5_weights 113 = .ok (.aload_n 0, 1) := by decide +kernel
theorem dX5_weights_114 : decode cX5_weights 114 = .ok (.getfield 21, 3) := by decide +kernel
theorem dX5_weights_117 : decode cX5_weights 117 = .ok (.getfield 92, 3) := by decide +kernel
theorem dX5_weights_120 : decode cX5_weights 120 = .ok (.iconst 4, 1) := by decide +kernel
theorem dX5_weights_121 : decode cX5_weights 121 = .ok (.iload 5, 2) := by decide +kernel
theorem dX5_weights_123 : decode cX5_weights 123 = .ok (.iastore, 1) := by decide +kernel
theorem dX5_weights_124 : decode cX5_weights 124 = .ok (.aload_n 0, 1) := by decide +kernel
theorem dX5_weights_125 : decode cX5_weights 125 = .ok (.getfield 21, 3) := by decide +kernel
theorem dX5_weights_128 : decode cX5_weights 128 = .ok (.getfield 92, 3) := by decide +kernel
theorem dX5_weights_131 : decode cX5_weights 131 = .ok (.iconst 5, 1) := by decide +kernel
theorem dX5_weights_132 : decode cX5_weights 132 = .ok (.iload 6, 2) := by decide +kernel
theorem dX5_weights_134 : decode cX5_weights 134 = .ok (.iastore, 1) := by decide +kernel
theorem dX5_weights_135 : decode cX5_weights 135 = .ok (.aload_n 0, 1) := by decide +kernel
theorem dX5_weights_136 : decode cX5_weights 136 = .ok (.iconst 1, 1) := by decide +kernel
theorem dX5_weights_137 : decode cX5_weights 137 = .ok (.putfield 54, 3) := by decide +kernel
theorem dX5_weights_140 : decode cX5_weights 140 = .ok (.iconst 1, 1) := by decide +kernel
theorem dX5_weights_141 : decode cX5_weights 141 = .ok (.ireturn, 1) := by decide +kernel
theorem dX5_turnable_0 : decode cX5_turnable 0 = .ok (.aload_n 0, 1) := by decide +kernel
theorem dX5_turnable_1 : decode cX5_turnable 1 = .ok (.iload_n 1, 1) := by decide +kernel
theorem dX5_turnable_2 : decode cX5_turnable 2 = .ok (.putfield 50, 3) := by decide +kernel
theorem dX5_turnable_5 : decode cX5_turnable 5 = .ok (.aload_n 0, 1) := by decide +kernel
theorem dX5_turnable_6 : decode cX5_turnable 6 = .ok (.iconst 1, 1) := by decide +kernel
theorem dX5_turnable_7 : decode cX5_turnable 7 = .ok (.putfield 54, 3) := by decide +kernel
theorem dX5_turnable_10 : decode cX5_turnable 10 = .ok (.return_, 1) := by decide +kernel
set_option maxRecDepth 20000 in
theorem ggX5_must_X5_areTwo : GoodIn wsX5_must wsX5_areTwo := goodIn_r _ [7, 8, 9, 10, 11, 12, 13, 14, 30, 31, 32, 33, 34, 35, 36, 37, 38, 39, 40, 41, 42, 43] (by decide +kernel) (by decide +kernel)
set_option maxRecDepth 20000 in
theorem gX5_must_X5_areTwo : GoodIn wsX5_must (wsV RX5 95 RX5 yX5_areTwo wsX5_areTwo) := goodIn_app (goodIn_of _ (by decide +kernel)) ggX5_must_X5_areTwo
set_option maxRecDepth 20000 in
theorem ggX5_must_X2_putJoined : GoodIn wsX5_must wsX2_putJoined := goodIn_r _ [19, 20, 21, 22, 23, 18, 24, 44, 45, 46] (by decide +kernel) (by decide +kernel)
set_option maxRecDepth 20000 in
theorem gX5_must_X2_putJoined : GoodIn wsX5_must (wsV RX5 98 RX2 yX2_putJoined wsX2_putJoined) := goodIn_app (goodIn_of _ (by decide +kernel)) ggX5_must_X2_putJoined
set_option maxRecDepth 20000 in
theorem ggX5_must_X2_putAhead : GoodIn wsX5_must wsX2_putAhead := goodIn_r _ [28, 29, 22, 23, 18, 24, 44, 45, 46] (by decide +kernel) (by decide +kernel)
set_option maxRecDepth 20000 in
theorem gX5_must_X2_putAhead : GoodIn wsX5_must (wsV RX5 102 RX2 yX2_putAhead wsX2_putAhead) := goodIn_app (goodIn_of _ (by decide +kernel)) ggX5_must_X2_putAhead
theorem dX5_must_0 : decode cX5_must 0 = .ok (.aload_n 0, 1) := by decide +kernel
theorem dX5_must_1 : decode cX5_must 1 = .ok (.iload_n 1, 1) := by decide +kernel
theorem dX5_must_2 : decode cX5_must 2 = .ok (.iload_n 2, 1) := by decide +kernel
theorem dX5_must_3 : decode cX5_must 3 = .ok (.invokevirtual 95, 3) := by decide +kernel
theorem dX5_must_6 : decode cX5_must 6 = .ok (.ifCond .ne 5, 3) := by decide +kernel
theorem dX5_must_9 : decode cX5_must 9 = .ok (.iconst 0, 1) := by decide +kernel
theorem dX5_must_10 : decode cX5_must 10 = .ok (.ireturn, 1) := by decide +kernel
theorem dX5_must_11 : decode cX5_must 11 = .ok (.iload_n 3, 1) := by decide +kernel
theorem dX5_must_12 : decode cX5_must 12 = .ok (.ifCond .eq 17, 3) := by decide +kernel
theorem dX5_must_15 : decode cX5_must 15 = .ok (.aload_n 0, 1) := by decide +kernel
theorem dX5_must_16 : decode cX5_must 16 = .ok (.getfield 28, 3) := by decide +kernel
theorem dX5_must_19 : decode cX5_must 19 = .ok (.iload_n 1, 1) := by decide +kernel
theorem dX5_must_20 : decode cX5_must 20 = .ok (.iload_n 2, 1) := by decide +kernel
theorem dX5_must_21 : decode cX5_must 21 = .ok (.iload 4, 2) := by decide +kernel
theorem dX5_must_23 : decode cX5_must 23 = .ok (.invokevirtual 98, 3) := by decide +kernel
theorem dX5_must_26 : decode cX5_must 26 = .ok (.goto 14, 3) := by decide +kernel
theorem dX5_must_29 : decode cX5_must 29 = .ok (.aload_n 0, 1) := by decide +kernel
theorem dX5_must_30 : decode cX5_must 30 = .ok (.getfield 28, 3) := by decide +kernel
theorem dX5_must_33 : decode cX5_must 33 = .ok (.iload_n 1, 1) := by decide +kernel
theorem dX5_must_34 : decode cX5_must 34 = .ok (.iload_n 2, 1) := by decide +kernel
theorem dX5_must_35 : decode cX5_must 35 = .ok (.iload 4, 2) := by decide +kernel
theorem dX5_must_37 : decode cX5_must 37 = .ok (.invokevirtual 102, 3) := by decide +kernel
theorem dX5_must_40 : decode cX5_must 40 = .ok (.aload_n 0, 1) := by decide +kernel
theorem dX5_must_41 : decode cX5_must 41 = .ok (.iconst 1, 1) := by decide +kernel
theorem dX5_must_42 : decode cX5_must 42 = .ok (.putfield 54, 3) := by decide +kernel
theorem dX5_must_45 : decode cX5_must 45 = .ok (.iconst 1, 1) := by decide +kernel
theorem dX5_must_46 : decode cX5_must 46 = .ok (.ireturn, 1) := by decide +kernel
set_option maxRecDepth 20000 in
theorem ggX5_join_X5_areTwo : GoodIn wsX5_join wsX5_areTwo := goodIn_r _ [7, 8, 9, 10, 11, 12, 13, 14, 48, 49, 50, 51, 52, 53, 54, 55, 56, 57, 58, 59, 60, 61] (by decide +kernel) (by decide +kernel)
set_option maxRecDepth 20000 in
theorem gX5_join_X5_areTwo : GoodIn wsX5_join (wsV RX5 95 RX5 yX5_areTwo wsX5_areTwo) := goodIn_app (goodIn_of _ (by decide +kernel)) ggX5_join_X5_areTwo
set_option maxRecDepth 20000 in
theorem ggX5_join_X5_standOf : GoodIn wsX5_join wsX5_standOf := goodIn_r _ [17] (by decide +kernel) (by decide +kernel)
set_option maxRecDepth 20000 in
theorem gX5_join_X5_standOf : GoodIn wsX5_join (va_wsS RX5 105 yX5_standOf wsX5_standOf) := goodIn_app (goodIn_of _ (by decide +kernel)) ggX5_join_X5_standOf
set_option maxRecDepth 20000 in
theorem ggX5_join_X3_joinCost : GoodIn wsX5_join wsX3_joinCost := goodIn_r _ [22, 23, 24, 25, 26, 21, 27, 28, 29, 30, 31, 32, 33, 34, 35, 36, 37, 38, 39, 40, 12, 41, 42, 43, 44, 45, 46, 47, 62, 63, 55, 56, 57, 58, 59, 60, 61] (by decide +kernel) (by decide +kernel)
set_option maxRecDepth 20000 in
theorem gX5_join_X3_joinCost : GoodIn wsX5_join (wsV RX5 109 RX3 yX3_joinCost wsX3_joinCost) := goodIn_app (goodIn_of _ (by decide +kernel)) ggX5_join_X3_joinCost
theorem dX5_join_0 : decode cX5_join 0 = .ok (.aload_n 0, 1) := by decide +kernel
theorem dX5_join_1 : decode cX5_join 1 = .ok (.iload_n 1, 1) := by decide +kernel
theorem dX5_join_2 : decode cX5_join 2 = .ok (.iload_n 3, 1) := by decide +kernel
theorem dX5_join_3 : decode cX5_join 3 = .ok (.invokevirtual 95, 3) := by decide +kernel
theorem dX5_join_6 : decode cX5_join 6 = .ok (.ifCond .eq 19, 3) := by decide +kernel
theorem dX5_join_9 : decode cX5_join 9 = .ok (.iload_n 2, 1) := by decide +kernel
theorem dX5_join_10 : decode cX5_join 10 = .ok (.ifCond .ne 8, 3) := by decide +kernel
theorem dX5_join_13 : decode cX5_join 13 = .ok (.iload 4, 2) := by decide +kernel
theorem dX5_join_15 : decode cX5_join 15 = .ok (.ifCond .eq 12, 3) := by decide +kernel
theorem dX5_join_18 : decode cX5_join 18 = .ok (.aload_n 0, 1) := by decide +kernel
theorem dX5_join_19 : decode cX5_join 19 = .ok (.getfield 50, 3) := by decide +kernel
theorem dX5_join_22 : decode cX5_join 22 = .ok (.ifCond .ne 5, 3) := by decide +kernel
theorem dX5_join_25 : decode cX5_join 25 = .ok (.iconst (-1), 1) := by decide +kernel
theorem dX5_join_26 : decode cX5_join 26 = .ok (.ireturn, 1) := by decide +kernel
theorem dX5_join_27 : decode cX5_join 27 = .ok (.aload_n 0, 1) := by decide +kernel
theorem dX5_join_28 : decode cX5_join 28 = .ok (.getfield 21, 3) := by decide +kernel
theorem dX5_join_31 : decode cX5_join 31 = .ok (.iload_n 1, 1) := by decide +kernel
theorem dX5_join_32 : decode cX5_join 32 = .ok (.iload_n 2, 1) := by decide +kernel
theorem dX5_join_33 : decode cX5_join 33 = .ok (.invokestatic 105, 3) := by decide +kernel
theorem dX5_join_36 : decode cX5_join 36 = .ok (.iload_n 3, 1) := by decide +kernel
theorem dX5_join_37 : decode cX5_join 37 = .ok (.iload 4, 2) := by decide +kernel
theorem dX5_join_39 : decode cX5_join 39 = .ok (.invokestatic 105, 3) := by decide +kernel
theorem dX5_join_42 : decode cX5_join 42 = .ok (.invokevirtual 109, 3) := by decide +kernel
theorem dX5_join_45 : decode cX5_join 45 = .ok (.ireturn, 1) := by decide +kernel
set_option maxRecDepth 20000 in
theorem ggX5_best_X5_refresh : GoodIn wsX5_best wsX5_refresh := goodIn_r _ [7, 8, 1, 9, 10, 11, 12, 13, 14, 15, 16, 17, 18, 19, 20, 21, 22, 23, 24, 25, 26, 27, 28, 29, 30, 31, 32, 33, 34, 35, 36, 37, 38, 39, 40, 41, 42, 43, 44, 45, 46, 47, 48, 49, 50, 51, 52, 53, 54, 55, 56, 57, 58, 59, 60, 61, 62, 63, 64, 65, 66, 67, 68, 69, 70, 71, 72, 73, 74, 75, 76, 77, 78, 79, 80, 81, 82, 83, 84, 85, 86, 87, 88, 89, 90, 91, 92, 93, 94, 95, 96, 97, 98, 99, 100, 101, 102, 103, 104, 105, 106, 107, 108, 109, 110, 111, 112, 113, 114, 115, 116, 117, 118, 119, 120, 121, 122, 123, 124, 125, 126, 127, 128, 129, 130, 131, 132, 133, 138, 139, 140, 141, 142, 143, 144, 154, 155, 156, 157, 158, 159, 160, 161, 162, 145, 146, 147, 148, 149, 150, 151, 152, 153, 163, 164, 165, 166, 167, 168] (by decide +kernel) (by decide +kernel)
set_option maxRecDepth 20000 in
theorem gX5_best_X5_refresh : GoodIn wsX5_best (wsV RX5 113 RX5 yX5_refresh wsX5_refresh) := goodIn_app (goodIn_of _ (by decide +kernel)) ggX5_best_X5_refresh
set_option maxRecDepth 20000 in
theorem ggX5_best_X5_costOrNone : GoodIn wsX5_best wsX5_costOrNone := goodIn_r _ [136, 137] (by decide +kernel) (by decide +kernel)
set_option maxRecDepth 20000 in
theorem gX5_best_X5_costOrNone : GoodIn wsX5_best (va_wsS RX5 119 yX5_costOrNone wsX5_costOrNone) := goodIn_app (goodIn_of _ (by decide +kernel)) ggX5_best_X5_costOrNone
theorem dX5_best_0 : decode cX5_best 0 = .ok (.aload_n 0, 1) := by decide +kernel
theorem dX5_best_1 : decode cX5_best 1 = .ok (.invokevirtual 113, 3) := by decide +kernel
theorem dX5_best_4 : decode cX5_best 4 = .ok (.aload_n 0, 1) := by decide +kernel
theorem dX5_best_5 : decode cX5_best 5 = .ok (.getfield 37, 3) := by decide +kernel
theorem dX5_best_8 : decode cX5_best 8 = .ok (.getfield 116, 3) := by decide +kernel
theorem dX5_best_11 : decode cX5_best 11 = .ok (.invokestatic 119, 3) := by decide +kernel
theorem dX5_best_14 : decode cX5_best 14 = .ok (.ireturn, 1) := by decide +kernel
set_option maxRecDepth 20000 in
theorem ggX5_at_X5_refresh : GoodIn wsX5_at wsX5_refresh := goodIn_r _ [12, 13, 1, 7, 14, 15, 16, 17, 18, 19, 20, 21, 22, 23, 24, 25, 26, 27, 28, 29, 30, 31, 32, 33, 34, 35, 36, 37, 38, 39, 40, 41, 42, 43, 44, 45, 46, 47, 48, 49, 50, 51, 52, 53, 54, 55, 56, 57, 58, 59, 60, 61, 62, 63, 64, 65, 66, 67, 68, 69, 70, 71, 72, 73, 74, 75, 76, 77, 78, 79, 80, 81, 82, 83, 84, 85, 86, 87, 88, 89, 90, 91, 92, 93, 94, 95, 96, 97, 98, 99, 100, 101, 102, 103, 104, 105, 106, 107, 108, 109, 110, 111, 112, 113, 114, 115, 116, 117, 118, 119, 120, 121, 122, 123, 124, 125, 126, 127, 128, 129, 130, 131, 132, 133, 134, 135, 136, 137, 142, 143, 144, 145, 146, 147, 148, 165, 166, 158, 159, 160, 161, 162, 163, 164, 149, 150, 151, 152, 153, 154, 155, 156, 157, 167, 168, 169, 170, 171, 172] (by decide +kernel) (by decide +kernel)
set_option maxRecDepth 20000 in
theorem gX5_at_X5_refresh : GoodIn wsX5_at (wsV RX5 113 RX5 yX5_refresh wsX5_refresh) := goodIn_app (goodIn_of _ (by decide +kernel)) ggX5_at_X5_refresh
set_option maxRecDepth 20000 in
theorem ggX5_at_X3_isMissing : GoodIn wsX5_at wsX3_isMissing := goodIn_r _ [141, 34, 35, 36, 31, 37, 38, 39, 40, 33, 41, 42, 43, 44, 45, 46, 47, 48, 49, 50, 51, 52, 53, 54, 55, 56, 57, 58, 165, 166, 158, 159, 160, 161, 162, 163, 164] (by decide +kernel) (by decide +kernel)
set_option maxRecDepth 20000 in
theorem gX5_at_X3_isMissing : GoodIn wsX5_at (wsV RX5 127 RX3 yX3_isMissing wsX3_isMissing) := goodIn_app (goodIn_of _ (by decide +kernel)) ggX5_at_X3_isMissing
theorem dX5_at_0 : decode cX5_at 0 = .ok (.aload_n 0, 1) := by decide +kernel
theorem dX5_at_1 : decode cX5_at 1 = .ok (.invokevirtual 113, 3) := by decide +kernel
theorem dX5_at_4 : decode cX5_at 4 = .ok (.aload_n 0, 1) := by decide +kernel
theorem dX5_at_5 : decode cX5_at 5 = .ok (.getfield 37, 3) := by decide +kernel
theorem dX5_at_8 : decode cX5_at 8 = .ok (.getfield 116, 3) := by decide +kernel
theorem dX5_at_11 : decode cX5_at 11 = .ok (.ldc 123, 2) := by decide +kernel
theorem dX5_at_13 : decode cX5_at 13 = .ok (.if_icmp .ge 18, 3) := by decide +kernel
theorem dX5_at_16 : decode cX5_at 16 = .ok (.iload_n 1, 1) := by decide +kernel
theorem dX5_at_17 : decode cX5_at 17 = .ok (.ifCond .lt 14, 3) := by decide +kernel
theorem dX5_at_20 : decode cX5_at 20 = .ok (.iload_n 1, 1) := by decide +kernel
theorem dX5_at_21 : decode cX5_at 21 = .ok (.aload_n 0, 1) := by decide +kernel
theorem dX5_at_22 : decode cX5_at 22 = .ok (.getfield 12, 3) := by decide +kernel
theorem dX5_at_25 : decode cX5_at 25 = .ok (.getfield 61, 3) := by decide +kernel
theorem dX5_at_28 : decode cX5_at 28 = .ok (.if_icmp .lt 5, 3) := by decide +kernel
theorem dX5_at_31 : decode cX5_at 31 = .ok (.iconst (-1), 1) := by decide +kernel
theorem dX5_at_32 : decode cX5_at 32 = .ok (.ireturn, 1) := by decide +kernel
theorem dX5_at_33 : decode cX5_at 33 = .ok (.aload_n 0, 1) := by decide +kernel
theorem dX5_at_34 : decode cX5_at 34 = .ok (.getfield 37, 3) := by decide +kernel
theorem dX5_at_37 : decode cX5_at 37 = .ok (.getfield 124, 3) := by decide +kernel
theorem dX5_at_40 : decode cX5_at 40 = .ok (.iload_n 1, 1) := by decide +kernel
theorem dX5_at_41 : decode cX5_at 41 = .ok (.iaload, 1) := by decide +kernel
theorem dX5_at_42 : decode cX5_at 42 = .ok (.istore_n 3, 1) := by decide +kernel
theorem dX5_at_43 : decode cX5_at 43 = .ok (.iload_n 2, 1) := by decide +kernel
theorem dX5_at_44 : decode cX5_at 44 = .ok (.tableswitch 68 0 2 #[28, 32, 36], 28) := by decide +kernel
theorem dX5_at_72 : decode cX5_at 72 = .ok (.iload_n 3, 1) := by decide +kernel
theorem dX5_at_73 : decode cX5_at 73 = .ok (.iconst 1, 1) := by decide +kernel
theorem dX5_at_74 : decode cX5_at 74 = .ok (.ishr, 1) := by decide +kernel
theorem dX5_at_75 : decode cX5_at 75 = .ok (.ireturn, 1) := by decide +kernel
theorem dX5_at_76 : decode cX5_at 76 = .ok (.iload_n 3, 1) := by decide +kernel
theorem dX5_at_77 : decode cX5_at 77 = .ok (.iconst 1, 1) := by decide +kernel
theorem dX5_at_78 : decode cX5_at 78 = .ok (.iand, 1) := by decide +kernel
theorem dX5_at_79 : decode cX5_at 79 = .ok (.ireturn, 1) := by decide +kernel
theorem dX5_at_80 : decode cX5_at 80 = .ok (.iload_n 1, 1) := by decide +kernel
theorem dX5_at_81 : decode cX5_at 81 = .ok (.ifCond .le 29, 3) := by decide +kernel
theorem dX5_at_84 : decode cX5_at 84 = .ok (.aload_n 0, 1) := by decide +kernel
theorem dX5_at_85 : decode cX5_at 85 = .ok (.getfield 21, 3) := by decide +kernel
theorem dX5_at_88 : decode cX5_at 88 = .ok (.aload_n 0, 1) := by decide +kernel
theorem dX5_at_89 : decode cX5_at 89 = .ok (.getfield 37, 3) := by decide +kernel
theorem dX5_at_92 : decode cX5_at 92 = .ok (.getfield 124, 3) := by decide +kernel
theorem dX5_at_95 : decode cX5_at 95 = .ok (.iload_n 1, 1) := by decide +kernel
theorem dX5_at_96 : decode cX5_at 96 = .ok (.iconst 1, 1) := by decide +kernel
theorem dX5_at_97 : decode cX5_at 97 = .ok (.isub, 1) := by decide +kernel
theorem dX5_at_98 : decode cX5_at 98 = .ok (.iaload, 1) := by decide +kernel
theorem dX5_at_99 : decode cX5_at 99 = .ok (.iload_n 3, 1) := by decide +kernel
theorem dX5_at_100 : decode cX5_at 100 = .ok (.invokevirtual 127, 3) := by decide +kernel
theorem dX5_at_103 : decode cX5_at 103 = .ok (.ifCond .eq 7, 3) := by decide +kernel
theorem dX5_at_106 : decode cX5_at 106 = .ok (.iconst 1, 1) := by decide +kernel
theorem dX5_at_107 : decode cX5_at 107 = .ok (.goto 4, 3) := by decide +kernel
theorem dX5_at_110 : decode cX5_at 110 = .ok (.iconst 0, 1) := by decide +kernel
theorem dX5_at_111 : decode cX5_at 111 = .ok (.ireturn, 1) := by decide +kernel
theorem dX5_at_112 : decode cX5_at 112 = .ok (.iconst (-1), 1) := by decide +kernel
theorem dX5_at_113 : decode cX5_at 113 = .ok (.ireturn, 1) := by decide +kernel
set_option maxRecDepth 20000 in
theorem ggX5_next_X5_refresh : GoodIn wsX5_next wsX5_refresh := goodIn_r _ [7, 8, 1, 9, 10, 11, 12, 13, 14, 15, 16, 17, 18, 19, 20, 21, 22, 23, 24, 25, 26, 27, 28, 29, 30, 31, 32, 33, 34, 35, 36, 37, 38, 39, 40, 41, 42, 43, 44, 45, 46, 47, 48, 49, 50, 51, 52, 53, 54, 55, 56, 57, 58, 59, 60, 61, 62, 63, 64, 65, 66, 67, 68, 69, 70, 71, 72, 73, 74, 75, 76, 77, 78, 79, 80, 81, 82, 83, 84, 85, 86, 87, 88, 89, 90, 91, 92, 93, 94, 95, 96, 97, 98, 99, 100, 101, 102, 103, 104, 105, 106, 107, 108, 109, 110, 111, 112, 113, 114, 115, 116, 117, 118, 119, 120, 121, 122, 123, 124, 125, 126, 127, 128, 129, 130, 131, 132, 133, 138, 139, 140, 141, 142, 143, 144, 154, 155, 156, 157, 158, 159, 160, 161, 162, 145, 146, 147, 148, 149, 150, 151, 152, 153, 163, 164, 165, 166, 167, 168] (by decide +kernel) (by decide +kernel)
set_option maxRecDepth 20000 in
theorem gX5_next_X5_refresh : GoodIn wsX5_next (wsV RX5 113 RX5 yX5_refresh wsX5_refresh) := goodIn_app (goodIn_of _ (by decide +kernel)) ggX5_next_X5_refresh
set_option maxRecDepth 20000 in
theorem ggX5_next_X5_costOrNone : GoodIn wsX5_next wsX5_costOrNone := goodIn_r _ [136, 137] (by decide +kernel) (by decide +kernel)
set_option maxRecDepth 20000 in
theorem gX5_next_X5_costOrNone : GoodIn wsX5_next (va_wsS RX5 119 yX5_costOrNone wsX5_costOrNone) := goodIn_app (goodIn_of _ (by decide +kernel)) ggX5_next_X5_costOrNone
theorem dX5_next_0 : decode cX5_next 0 = .ok (.aload_n 0, 1) := by decide +kernel
theorem dX5_next_1 : decode cX5_next 1 = .ok (.invokevirtual 113, 3) := by decide +kernel
theorem dX5_next_4 : decode cX5_next 4 = .ok (.aload_n 0, 1) := by decide +kernel
theorem dX5_next_5 : decode cX5_next 5 = .ok (.getfield 37, 3) := by decide +kernel
theorem dX5_next_8 : decode cX5_next 8 = .ok (.getfield 130, 3) := by decide +kernel
theorem dX5_next_11 : decode cX5_next 11 = .ok (.invokestatic 119, 3) := by decide +kernel
theorem dX5_next_14 : decode cX5_next 14 = .ok (.ireturn, 1) := by decide +kernel
set_option maxRecDepth 20000 in
theorem ggX5_sure_X5_areTwo : GoodIn wsX5_sure wsX5_areTwo := goodIn_r _ [8, 9, 10, 11, 12, 13, 14, 15, 156, 157, 158, 159, 160, 161, 162, 172, 173, 174, 175, 176, 177, 178] (by decide +kernel) (by decide +kernel)
set_option maxRecDepth 20000 in
theorem gX5_sure_X5_areTwo : GoodIn wsX5_sure (wsV RX5 95 RX5 yX5_areTwo wsX5_areTwo) := goodIn_app (goodIn_of _ (by decide +kernel)) ggX5_sure_X5_areTwo
set_option maxRecDepth 20000 in
theorem ggX5_sure_X5_isWithin : GoodIn wsX5_sure wsX5_isWithin := goodIn_r _ [18] (by decide +kernel) (by decide +kernel)
set_option maxRecDepth 20000 in
theorem gX5_sure_X5_isWithin : GoodIn wsX5_sure (va_wsS RX5 86 yX5_isWithin wsX5_isWithin) := goodIn_app (goodIn_of _ (by decide +kernel)) ggX5_sure_X5_isWithin
set_option maxRecDepth 20000 in
theorem ggX5_sure_X5_refresh : GoodIn wsX5_sure wsX5_refresh := goodIn_r _ [22, 23, 1, 24, 25, 26, 27, 28, 29, 30, 31, 32, 33, 34, 35, 36, 37, 38, 39, 40, 41, 42, 43, 44, 45, 46, 47, 48, 49, 50, 51, 52, 53, 54, 55, 56, 57, 58, 59, 60, 61, 13, 62, 63, 64, 65, 66, 67, 68, 69, 70, 71, 72, 73, 74, 75, 76, 77, 78, 79, 80, 81, 82, 83, 84, 85, 86, 87, 88, 89, 90, 91, 92, 93, 94, 95, 96, 97, 98, 99, 100, 101, 102, 103, 104, 105, 106, 107, 108, 109, 110, 111, 112, 113, 114, 115, 116, 117, 118, 119, 120, 121, 122, 123, 124, 125, 126, 127, 128, 129, 130, 131, 132, 133, 134, 135, 136, 137, 138, 139, 140, 141, 142, 143, 144, 145, 146, 147, 156, 157, 158, 159, 160, 161, 162, 179, 180, 172, 173, 174, 175, 176, 177, 178, 163, 164, 165, 166, 167, 168, 169, 170, 171, 181, 182, 183, 184, 185, 186] (by decide +kernel) (by decide +kernel)
set_option maxRecDepth 20000 in
theorem gX5_sure_X5_refresh : GoodIn wsX5_sure (wsV RX5 113 RX5 yX5_refresh wsX5_refresh) := goodIn_app (goodIn_of _ (by decide +kernel)) ggX5_sure_X5_refresh
set_option maxRecDepth 20000 in
theorem ggX5_sure_X4_isSure : GoodIn wsX5_sure wsX4_isSure := goodIn_r _ [151, 75, 74, 152, 153, 154, 30, 155, 34, 124, 76, 77, 78, 79, 80, 81, 82, 83, 84, 85, 86, 87, 88, 89, 90, 91, 92, 93, 94, 95, 96, 97, 98, 99, 100, 101, 36, 37, 102, 103, 55, 104, 105, 106, 107, 108, 109, 110, 111, 112, 113, 114, 115, 38, 116, 117, 118, 119, 163, 164, 165, 166, 167, 168, 169, 170, 171, 181, 182, 183] (by decide +kernel) (by decide +kernel)
set_option maxRecDepth 20000 in
theorem gX5_sure_X4_isSure : GoodIn wsX5_sure (wsV RX5 133 RX4 yX4_isSure wsX4_isSure) := goodIn_app (goodIn_of _ (by decide +kernel)) ggX5_sure_X4_isSure
theorem dX5_sure_0 : decode cX5_sure 0 = .ok (.aload_n 0, 1) := by decide +kernel
theorem dX5_sure_1 : decode cX5_sure 1 = .ok (.iload_n 1, 1) := by decide +kernel
theorem dX5_sure_2 : decode cX5_sure 2 = .ok (.iload_n 2, 1) := by decide +kernel
theorem dX5_sure_3 : decode cX5_sure 3 = .ok (.invokevirtual 95, 3) := by decide +kernel
theorem dX5_sure_6 : decode cX5_sure 6 = .ok (.ifCond .eq 13, 3) := by decide +kernel
theorem dX5_sure_9 : decode cX5_sure 9 = .ok (.iload_n 3, 1) := by decide +kernel
theorem dX5_sure_10 : decode cX5_sure 10 = .ok (.sipush 1000, 3) := by decide +kernel
theorem dX5_sure_13 : decode cX5_sure 13 = .ok (.invokestatic 86, 3) := by decide +kernel
theorem dX5_sure_16 : decode cX5_sure 16 = .ok (.ifCond .ne 5, 3) := by decide +kernel
theorem dX5_sure_19 : decode cX5_sure 19 = .ok (.iconst (-1), 1) := by decide +kernel
theorem dX5_sure_20 : decode cX5_sure 20 = .ok (.ireturn, 1) := by decide +kernel
theorem dX5_sure_21 : decode cX5_sure 21 = .ok (.aload_n 0, 1) := by decide +kernel
theorem dX5_sure_22 : decode cX5_sure 22 = .ok (.invokevirtual 113, 3) := by decide +kernel
theorem dX5_sure_25 : decode cX5_sure 25 = .ok (.aload_n 0, 1) := by decide +kernel
theorem dX5_sure_26 : decode cX5_sure 26 = .ok (.getfield 37, 3) := by decide +kernel
theorem dX5_sure_29 : decode cX5_sure 29 = .ok (.getfield 116, 3) := by decide +kernel
theorem dX5_sure_32 : decode cX5_sure 32 = .ok (.ldc 123, 2) := by decide +kernel
theorem dX5_sure_34 : decode cX5_sure 34 = .ok (.if_icmp .lt 5, 3) := by decide +kernel
theorem dX5_sure_37 : decode cX5_sure 37 = .ok (.iconst (-1), 1) := by decide +kernel
theorem dX5_sure_38 : decode cX5_sure 38 = .ok (.ireturn, 1) := by decide +kernel
theorem dX5_sure_39 : decode cX5_sure 39 = .ok (.aload_n 0, 1) := by decide +kernel
theorem dX5_sure_40 : decode cX5_sure 40 = .ok (.getfield 37, 3) := by decide +kernel
theorem dX5_sure_43 : decode cX5_sure 43 = .ok (.iload_n 1, 1) := by decide +kernel
theorem dX5_sure_44 : decode cX5_sure 44 = .ok (.iload_n 2, 1) := by decide +kernel
theorem dX5_sure_45 : decode cX5_sure 45 = .ok (.iload_n 3, 1) := by decide +kernel
theorem dX5_sure_46 : decode cX5_sure 46 = .ok (.invokevirtual 133, 3) := by decide +kernel
theorem dX5_sure_49 : decode cX5_sure 49 = .ok (.ifCond .eq 7, 3) := by decide +kernel
theorem dX5_sure_52 : decode cX5_sure 52 = .ok (.iconst 1, 1) := by decide +kernel
theorem dX5_sure_53 : decode cX5_sure 53 = .ok (.goto 4, 3) := by decide +kernel
theorem dX5_sure_56 : decode cX5_sure 56 = .ok (.iconst 0, 1) := by decide +kernel
theorem dX5_sure_57 : decode cX5_sure 57 = .ok (.ireturn, 1) := by decide +kernel
set_option maxRecDepth 20000 in
theorem ggX5_two_X5_refresh : GoodIn wsX5_two wsX5_refresh := goodIn_r _ [7, 8, 9, 10, 11, 1, 12, 13, 14, 15, 16, 17, 18, 19, 20, 21, 22, 23, 24, 25, 26, 27, 28, 29, 30, 31, 32, 33, 34, 35, 36, 37, 38, 39, 40, 41, 42, 43, 44, 45, 46, 47, 48, 49, 50, 51, 52, 53, 54, 55, 56, 57, 58, 59, 60, 61, 62, 63, 64, 65, 66, 67, 68, 69, 70, 71, 72, 73, 74, 75, 76, 77, 78, 79, 80, 81, 82, 83, 84, 85, 86, 87, 88, 89, 90, 91, 92, 93, 94, 95, 96, 97, 98, 99, 100, 101, 102, 103, 104, 105, 106, 107, 108, 109, 110, 111, 112, 113, 114, 115, 116, 117, 118, 119, 120, 121, 122, 123, 124, 125, 126, 127, 128, 129, 130, 131, 132, 133, 138, 139, 140, 141, 142, 143, 144, 148, 149, 150, 151, 152, 153, 154, 155, 156, 157, 158, 159, 160, 161, 162, 163, 164, 165, 166, 167, 168, 145, 146, 147] (by decide +kernel) (by decide +kernel)
set_option maxRecDepth 20000 in
theorem gX5_two_X5_refresh : GoodIn wsX5_two (wsV RX5 113 RX5 yX5_refresh wsX5_refresh) := goodIn_app (goodIn_of _ (by decide +kernel)) ggX5_two_X5_refresh
set_option maxRecDepth 20000 in
theorem ggX5_two_X5_costOrNone : GoodIn wsX5_two wsX5_costOrNone := goodIn_r _ [136, 137] (by decide +kernel) (by decide +kernel)
set_option maxRecDepth 20000 in
theorem gX5_two_X5_costOrNone : GoodIn wsX5_two (va_wsS RX5 119 yX5_costOrNone wsX5_costOrNone) := goodIn_app (goodIn_of _ (by decide +kernel)) ggX5_two_X5_costOrNone
theorem dX5_two_0 : decode cX5_two 0 = .ok (.aload_n 0, 1) := by decide +kernel
theorem dX5_two_1 : decode cX5_two 1 = .ok (.invokevirtual 113, 3) := by decide +kernel
theorem dX5_two_4 : decode cX5_two 4 = .ok (.aload_n 0, 1) := by decide +kernel
theorem dX5_two_5 : decode cX5_two 5 = .ok (.getfield 46, 3) := by decide +kernel
theorem dX5_two_8 : decode cX5_two 8 = .ok (.getfield 137, 3) := by decide +kernel
theorem dX5_two_11 : decode cX5_two 11 = .ok (.invokestatic 119, 3) := by decide +kernel
theorem dX5_two_14 : decode cX5_two 14 = .ok (.ireturn, 1) := by decide +kernel
set_option maxRecDepth 20000 in
theorem ggX5_book_X5_refresh : GoodIn wsX5_book wsX5_refresh := goodIn_r _ [10, 11, 12, 13, 14, 2, 15, 16, 17, 18, 19, 20, 21, 22, 23, 24, 25, 26, 27, 28, 29, 30, 31, 32, 33, 34, 35, 36, 37, 38, 39, 40, 41, 42, 43, 44, 45, 46, 47, 48, 49, 50, 51, 52, 53, 54, 55, 56, 57, 58, 59, 60, 61, 62, 63, 64, 65, 66, 67, 68, 69, 70, 71, 72, 73, 74, 75, 76, 77, 78, 79, 80, 81, 82, 83, 84, 85, 86, 87, 88, 89, 90, 91, 92, 93, 94, 95, 96, 97, 98, 99, 100, 101, 102, 103, 104, 105, 106, 107, 108, 109, 110, 111, 112, 113, 114, 115, 116, 117, 118, 119, 120, 121, 122, 123, 124, 125, 126, 127, 128, 129, 130, 131, 132, 133, 134, 135, 136, 142, 143, 144, 145, 146, 147, 148, 152, 153, 154, 155, 156, 157, 158, 159, 160, 161, 162, 163, 164, 165, 166, 167, 168, 169, 170, 171, 172, 149, 150, 151] (by decide +kernel) (by decide +kernel)
set_option maxRecDepth 20000 in
theorem gX5_book_X5_refresh : GoodIn wsX5_book (wsV RX5 113 RX5 yX5_refresh wsX5_refresh) := goodIn_app (goodIn_of _ (by decide +kernel)) ggX5_book_X5_refresh
set_option maxRecDepth 20000 in
theorem ggX5_book_X1_has : GoodIn wsX5_book wsX1_has := goodIn_r _ [140, 141, 154, 155, 156, 157, 158, 159, 160] (by decide +kernel) (by decide +kernel)
set_option maxRecDepth 20000 in
theorem gX5_book_X1_has : GoodIn wsX5_book (wsV RX5 83 RX1 yX1_has wsX1_has) := goodIn_app (goodIn_of _ (by decide +kernel)) ggX5_book_X1_has
theorem dX5_book_0 : decode cX5_book 0 = .ok (.aload_n 0, 1) := by decide +kernel
theorem dX5_book_1 : decode cX5_book 1 = .ok (.invokevirtual 113, 3) := by decide +kernel
theorem dX5_book_4 : decode cX5_book 4 = .ok (.aload_n 0, 1) := by decide +kernel
theorem dX5_book_5 : decode cX5_book 5 = .ok (.getfield 12, 3) := by decide +kernel
theorem dX5_book_8 : decode cX5_book 8 = .ok (.iload_n 1, 1) := by decide +kernel
theorem dX5_book_9 : decode cX5_book 9 = .ok (.invokevirtual 83, 3) := by decide +kernel
theorem dX5_book_12 : decode cX5_book 12 = .ok (.ifCond .eq 15, 3) := by decide +kernel
theorem dX5_book_15 : decode cX5_book 15 = .ok (.aload_n 0, 1) := by decide +kernel
theorem dX5_book_16 : decode cX5_book 16 = .ok (.getfield 46, 3) := by decide +kernel
theorem dX5_book_19 : decode cX5_book 19 = .ok (.getfield 137, 3) := by decide +kernel
theorem dX5_book_22 : decode cX5_book 22 = .ok (.ldc 123, 2) := by decide +kernel
theorem dX5_book_24 : decode cX5_book 24 = .ok (.if_icmp .lt 5, 3) := by decide +kernel
theorem dX5_book_27 : decode cX5_book 27 = .ok (.iconst (-1), 1) := by decide +kernel
theorem dX5_book_28 : decode cX5_book 28 = .ok (.ireturn, 1) := by decide +kernel
theorem dX5_book_29 : decode cX5_book 29 = .ok (.aload_n 0, 1) := by decide +kernel
theorem dX5_book_30 : decode cX5_book 30 = .ok (.getfield 46, 3) := by decide +kernel
theorem dX5_book_33 : decode cX5_book 33 = .ok (.getfield 140, 3) := by decide +kernel
theorem dX5_book_36 : decode cX5_book 36 = .ok (.iload_n 1, 1) := by decide +kernel
theorem dX5_book_37 : decode cX5_book 37 = .ok (.ishr, 1) := by decide +kernel
theorem dX5_book_38 : decode cX5_book 38 = .ok (.iconst 1, 1) := by decide +kernel
theorem dX5_book_39 : decode cX5_book 39 = .ok (.iand, 1) := by decide +kernel
theorem dX5_book_40 : decode cX5_book 40 = .ok (.ireturn, 1) := by decide +kernel
set_option maxRecDepth 20000 in
theorem ggX5_doubt_X1_has : GoodIn wsX5_doubt wsX1_has := goodIn_r _ [9, 10, 159, 160, 161, 162, 163, 164, 165] (by decide +kernel) (by decide +kernel)
set_option maxRecDepth 20000 in
theorem gX5_doubt_X1_has : GoodIn wsX5_doubt (wsV RX5 83 RX1 yX1_has wsX1_has) := goodIn_app (goodIn_of _ (by decide +kernel)) ggX5_doubt_X1_has
set_option maxRecDepth 20000 in
theorem ggX5_doubt_X5_isWithin : GoodIn wsX5_doubt wsX5_isWithin := goodIn_r _ [14] (by decide +kernel) (by decide +kernel)
set_option maxRecDepth 20000 in
theorem gX5_doubt_X5_isWithin : GoodIn wsX5_doubt (va_wsS RX5 86 yX5_isWithin wsX5_isWithin) := goodIn_app (goodIn_of _ (by decide +kernel)) ggX5_doubt_X5_isWithin
set_option maxRecDepth 20000 in
theorem ggX5_doubt_X5_refresh : GoodIn wsX5_doubt wsX5_refresh := goodIn_r _ [18, 19, 20, 21, 22, 2, 23, 24, 25, 26, 27, 28, 29, 30, 31, 32, 33, 34, 35, 36, 37, 38, 39, 40, 41, 42, 43, 44, 45, 46, 47, 48, 49, 50, 51, 52, 53, 54, 55, 56, 57, 8, 58, 59, 60, 61, 62, 63, 64, 65, 66, 67, 68, 69, 70, 71, 72, 73, 74, 75, 76, 77, 78, 79, 80, 81, 82, 83, 84, 85, 86, 87, 88, 89, 90, 91, 92, 93, 94, 95, 96, 97, 98, 99, 100, 101, 102, 103, 104, 105, 106, 107, 108, 109, 110, 111, 112, 113, 114, 115, 116, 117, 118, 119, 120, 121, 122, 123, 124, 125, 126, 127, 128, 129, 130, 131, 132, 133, 134, 135, 136, 137, 138, 139, 140, 141, 142, 143, 149, 150, 151, 152, 153, 154, 155, 166, 167, 159, 160, 161, 162, 163, 164, 165, 168, 169, 170, 171, 172, 173, 174, 175, 176, 177, 178, 179, 156, 157, 158] (by decide +kernel) (by decide +kernel)
set_option maxRecDepth 20000 in
theorem gX5_doubt_X5_refresh : GoodIn wsX5_doubt (wsV RX5 113 RX5 yX5_refresh wsX5_refresh) := goodIn_app (goodIn_of _ (by decide +kernel)) ggX5_doubt_X5_refresh
set_option maxRecDepth 20000 in
theorem ggX5_doubt_X0_leastWithMoved : GoodIn wsX5_doubt wsX0_leastWithMoved := goodIn_r _ [147, 134, 137, 136, 148, 99, 51, 100, 138, 78, 79, 26, 80, 30, 139, 140, 141, 132, 142, 143, 156, 157, 158, 168, 169, 170, 171, 172, 173, 174, 175, 176] (by decide +kernel) (by decide +kernel)
set_option maxRecDepth 20000 in
theorem gX5_doubt_X0_leastWithMoved : GoodIn wsX5_doubt (wsV RX5 143 RX0 yX0_leastWithMoved wsX0_leastWithMoved) := goodIn_app (goodIn_of _ (by decide +kernel)) ggX5_doubt_X0_leastWithMoved
theorem dX5_doubt_0 : decode cX5_doubt 0 = .ok (.aload_n 0, 1) := by decide +kernel
theorem dX5_doubt_1 : decode cX5_doubt 1 = .ok (.getfield 12, 3) := by decide +kernel
theorem dX5_doubt_4 : decode cX5_doubt 4 = .ok (.iload_n 1, 1) := by decide +kernel
theorem dX5_doubt_5 : decode cX5_doubt 5 = .ok (.invokevirtual 83, 3) := by decide +kernel
theorem dX5_doubt_8 : decode cX5_doubt 8 = .ok (.ifCond .eq 17, 3) := by decide +kernel
theorem dX5_doubt_11 : decode cX5_doubt 11 = .ok (.iload_n 1, 1) := by decide +kernel
theorem dX5_doubt_12 : decode cX5_doubt 12 = .ok (.ifCond .eq 13, 3) := by decide +kernel
theorem dX5_doubt_15 : decode cX5_doubt 15 = .ok (.iload_n 2, 1) := by decide +kernel
theorem dX5_doubt_16 : decode cX5_doubt 16 = .ok (.sipush 1000, 3) := by decide +kernel
theorem dX5_doubt_19 : decode cX5_doubt 19 = .ok (.invokestatic 86, 3) := by decide +kernel
theorem dX5_doubt_22 : decode cX5_doubt 22 = .ok (.ifCond .ne 5, 3) := by decide +kernel
theorem dX5_doubt_25 : decode cX5_doubt 25 = .ok (.iconst (-1), 1) := by decide +kernel
theorem dX5_doubt_26 : decode cX5_doubt 26 = .ok (.ireturn, 1) := by decide +kernel
theorem dX5_doubt_27 : decode cX5_doubt 27 = .ok (.aload_n 0, 1) := by decide +kernel
theorem dX5_doubt_28 : decode cX5_doubt 28 = .ok (.invokevirtual 113, 3) := by decide +kernel
theorem dX5_doubt_31 : decode cX5_doubt 31 = .ok (.aload_n 0, 1) := by decide +kernel
theorem dX5_doubt_32 : decode cX5_doubt 32 = .ok (.getfield 46, 3) := by decide +kernel
theorem dX5_doubt_35 : decode cX5_doubt 35 = .ok (.getfield 137, 3) := by decide +kernel
theorem dX5_doubt_38 : decode cX5_doubt 38 = .ok (.ldc 123, 2) := by decide +kernel
theorem dX5_doubt_40 : decode cX5_doubt 40 = .ok (.if_icmp .lt 5, 3) := by decide +kernel
theorem dX5_doubt_43 : decode cX5_doubt 43 = .ok (.iconst (-1), 1) := by decide +kernel
theorem dX5_doubt_44 : decode cX5_doubt 44 = .ok (.ireturn, 1) := by decide +kernel
theorem dX5_doubt_45 : decode cX5_doubt 45 = .ok (.aload_n 0, 1) := by decide +kernel
theorem dX5_doubt_46 : decode cX5_doubt 46 = .ok (.getfield 46, 3) := by decide +kernel
theorem dX5_doubt_49 : decode cX5_doubt 49 = .ok (.iload_n 1, 1) := by decide +kernel
theorem dX5_doubt_50 : decode cX5_doubt 50 = .ok (.invokevirtual 143, 3) := by decide +kernel
theorem dX5_doubt_53 : decode cX5_doubt 53 = .ok (.aload_n 0, 1) := by decide +kernel
theorem dX5_doubt_54 : decode cX5_doubt 54 = .ok (.getfield 46, 3) := by decide +kernel
theorem dX5_doubt_57 : decode cX5_doubt 57 = .ok (.getfield 137, 3) := by decide +kernel
theorem dX5_doubt_60 : decode cX5_doubt 60 = .ok (.iload_n 2, 1) := by decide +kernel
theorem dX5_doubt_61 : decode cX5_doubt 61 = .ok (.iadd, 1) := by decide +kernel
theorem dX5_doubt_62 : decode cX5_doubt 62 = .ok (.if_icmp .gt 7, 3) := by decide +kernel
theorem dX5_doubt_65 : decode cX5_doubt 65 = .ok (.iconst 1, 1) := by decide +kernel
theorem dX5_doubt_66 : decode cX5_doubt 66 = .ok (.goto 4, 3) := by decide +kernel
theorem dX5_doubt_69 : decode cX5_doubt 69 = .ok (.iconst 0, 1) := by decide +kernel
theorem dX5_doubt_70 : decode cX5_doubt 70 = .ok (.ireturn, 1) := by decide +kernel
theorem dX5_about_0 : decode cX5_about 0 = .ok (.iload_n 1, 1) := by decide +kernel
theorem dX5_about_1 : decode cX5_about 1 = .ok (.ifCond .ne 11, 3) := by decide +kernel
theorem dX5_about_4 : decode cX5_about 4 = .ok (.aload_n 0, 1) := by decide +kernel
theorem dX5_about_5 : decode cX5_about 5 = .ok (.getfield 12, 3) := by decide +kernel
theorem dX5_about_8 : decode cX5_about 8 = .ok (.getfield 61, 3) := by decide +kernel
theorem dX5_about_11 : decode cX5_about 11 = .ok (.ireturn, 1) := by decide +kernel
theorem dX5_about_12 : decode cX5_about 12 = .ok (.iload_n 1, 1) := by decide +kernel
theorem dX5_about_13 : decode cX5_about 13 = .ok (.iconst 1, 1) := by decide +kernel
theorem dX5_about_14 : decode cX5_about 14 = .ok (.if_icmp .lt 27, 3) := by decide +kernel
theorem dX5_about_17 : decode cX5_about 17 = .ok (.iload_n 1, 1) := by decide +kernel
theorem dX5_about_18 : decode cX5_about 18 = .ok (.aload_n 0, 1) := by decide +kernel
theorem dX5_about_19 : decode cX5_about 19 = .ok (.getfield 21, 3) := by decide +kernel
theorem dX5_about_22 : decode cX5_about 22 = .ok (.getfield 92, 3) := by decide +kernel
theorem dX5_about_25 : decode cX5_about 25 = .ok (.arraylength, 1) := by decide +kernel
theorem dX5_about_26 : decode cX5_about 26 = .ok (.if_icmp .gt 15, 3) := by decide +kernel
theorem dX5_about_29 : decode cX5_about 29 = .ok (.aload_n 0, 1) := by decide +kernel
theorem dX5_about_30 : decode cX5_about 30 = .ok (.getfield 21, 3) := by decide +kernel
theorem dX5_about_33 : decode cX5_about 33 = .ok (.getfield 92, 3) := by decide +kernel
theorem dX5_about_36 : decode cX5_about 36 = .ok (.iload_n 1, 1) := by decide +kernel
theorem dX5_about_37 : decode cX5_about 37 = .ok (.iconst 1, 1) := by decide +kernel
theorem dX5_about_38 : decode cX5_about 38 = .ok (.isub, 1) := by decide +kernel
theorem dX5_about_39 : decode cX5_about 39 = .ok (.iaload, 1) := by decide +kernel
theorem dX5_about_40 : decode cX5_about 40 = .ok (.ireturn, 1) := by decide +kernel
theorem dX5_about_41 : decode cX5_about 41 = .ok (.iload_n 1, 1) := by decide +kernel
theorem dX5_about_42 : decode cX5_about 42 = .ok (.bipush 7, 2) := by decide +kernel
theorem dX5_about_44 : decode cX5_about 44 = .ok (.if_icmp .ne 16, 3) := by decide +kernel
theorem dX5_about_47 : decode cX5_about 47 = .ok (.aload_n 0, 1) := by decide +kernel
theorem dX5_about_48 : decode cX5_about 48 = .ok (.getfield 50, 3) := by decide +kernel
theorem dX5_about_51 : decode cX5_about 51 = .ok (.ifCond .eq 7, 3) := by decide +kernel
theorem dX5_about_54 : decode cX5_about 54 = .ok (.iconst 1, 1) := by decide +kernel
theorem dX5_about_55 : decode cX5_about 55 = .ok (.goto 4, 3) := by decide +kernel
theorem dX5_about_58 : decode cX5_about 58 = .ok (.iconst 0, 1) := by decide +kernel
theorem dX5_about_59 : decode cX5_about 59 = .ok (.ireturn, 1) := by decide +kernel
theorem dX5_about_60 : decode cX5_about 60 = .ok (.iconst (-1), 1) := by decide +kernel
theorem dX5_about_61 : decode cX5_about 61 = .ok (.ireturn, 1) := by decide +kernel
set_option maxRecDepth 20000 in
theorem ggX5_areTwo_X1_has : GoodIn wsX5_areTwo wsX1_has := goodIn_r _ [6, 7, 15, 16, 17, 18, 19, 20, 21] (by decide +kernel) (by decide +kernel)
set_option maxRecDepth 20000 in
theorem gX5_areTwo_X1_has : GoodIn wsX5_areTwo (wsV RX5 83 RX1 yX1_has wsX1_has) := goodIn_app (goodIn_of _ (by decide +kernel)) ggX5_areTwo_X1_has
theorem dX5_areTwo_0 : decode cX5_areTwo 0 = .ok (.aload_n 0, 1) := by decide +kernel
theorem dX5_areTwo_1 : decode cX5_areTwo 1 = .ok (.getfield 12, 3) := by decide +kernel
theorem dX5_areTwo_4 : decode cX5_areTwo 4 = .ok (.iload_n 1, 1) := by decide +kernel
theorem dX5_areTwo_5 : decode cX5_areTwo 5 = .ok (.invokevirtual 83, 3) := by decide +kernel
theorem dX5_areTwo_8 : decode cX5_areTwo 8 = .ok (.ifCond .eq 23, 3) := by decide +kernel
theorem dX5_areTwo_11 : decode cX5_areTwo 11 = .ok (.aload_n 0, 1) := by decide +kernel
theorem dX5_areTwo_12 : decode cX5_areTwo 12 = .ok (.getfield 12, 3) := by decide +kernel
theorem dX5_areTwo_15 : decode cX5_areTwo 15 = .ok (.iload_n 2, 1) := by decide +kernel
theorem dX5_areTwo_16 : decode cX5_areTwo 16 = .ok (.invokevirtual 83, 3) := by decide +kernel
theorem dX5_areTwo_19 : decode cX5_areTwo 19 = .ok (.ifCond .eq 12, 3) := by decide +kernel
theorem dX5_areTwo_22 : decode cX5_areTwo 22 = .ok (.iload_n 1, 1) := by decide +kernel
theorem dX5_areTwo_23 : decode cX5_areTwo 23 = .ok (.iload_n 2, 1) := by decide +kernel
theorem dX5_areTwo_24 : decode cX5_areTwo 24 = .ok (.if_icmp .eq 7, 3) := by decide +kernel
theorem dX5_areTwo_27 : decode cX5_areTwo 27 = .ok (.iconst 1, 1) := by decide +kernel
theorem dX5_areTwo_28 : decode cX5_areTwo 28 = .ok (.goto 4, 3) := by decide +kernel
theorem dX5_areTwo_31 : decode cX5_areTwo 31 = .ok (.iconst 0, 1) := by decide +kernel
theorem dX5_areTwo_32 : decode cX5_areTwo 32 = .ok (.ireturn, 1) := by decide +kernel
set_option maxRecDepth 20000 in
theorem ggX5_refresh_X4_prepare : GoodIn wsX5_refresh wsX4_prepare := goodIn_r _ [10, 11, 12, 13, 14, 15, 16, 17, 18, 19, 20, 21, 22, 23, 24, 25, 26, 27, 28, 29, 30, 31, 32, 33, 34, 35, 36, 37, 38, 39, 40, 41, 42, 43, 44, 45, 46, 47, 48, 135, 136, 137, 138, 139, 140, 141, 142, 143, 144, 145, 146, 147, 148, 149, 150, 151, 152] (by decide +kernel) (by decide +kernel)
set_option maxRecDepth 20000 in
theorem gX5_refresh_X4_prepare : GoodIn wsX5_refresh (wsV RX5 146 RX4 yX4_prepare wsX4_prepare) := goodIn_app (goodIn_of _ (by decide +kernel)) ggX5_refresh_X4_prepare
set_option maxRecDepth 20000 in
theorem ggX5_refresh_X4_solve : GoodIn wsX5_refresh wsX4_solve := goodIn_r _ [52, 53, 54, 15, 55, 56, 57, 58, 9, 59, 13, 60, 61, 62, 63, 64, 65, 66, 67, 68, 69, 70, 71, 72, 73, 74, 75, 76, 77, 78, 79, 80, 81, 16, 82, 83, 34, 84, 85, 86, 87, 88, 89, 90, 91, 92, 93, 94, 95, 17, 96, 97, 98, 99, 100, 101, 102, 103, 104, 105, 106, 107, 108, 109, 110, 111, 112, 144, 145, 146, 147, 148, 149, 150, 151, 152, 153, 154, 155] (by decide +kernel) (by decide +kernel)
set_option maxRecDepth 20000 in
theorem gX5_refresh_X4_solve : GoodIn wsX5_refresh (wsV RX5 150 RX4 yX4_solve wsX4_solve) := goodIn_app (goodIn_of _ (by decide +kernel)) ggX5_refresh_X4_solve
set_option maxRecDepth 20000 in
theorem ggX5_refresh_X0_part : GoodIn wsX5_refresh wsX0_part := goodIn_r _ [117, 118, 119, 120, 121, 122, 62, 63, 9, 64, 13, 123, 124, 125, 116, 126, 127, 156, 157, 158, 144, 145, 146, 147, 148, 149, 150, 151, 152] (by decide +kernel) (by decide +kernel)
set_option maxRecDepth 20000 in
theorem gX5_refresh_X0_part : GoodIn wsX5_refresh (wsV RX5 153 RX0 yX0_part wsX0_part) := goodIn_app (goodIn_of _ (by decide +kernel)) ggX5_refresh_X0_part
theorem dX5_refresh_0 : decode cX5_refresh 0 = .ok (.aload_n 0, 1) := by decide +kernel
theorem dX5_refresh_1 : decode cX5_refresh 1 = .ok (.getfield 54, 3) := by decide +kernel
theorem dX5_refresh_4 : decode cX5_refresh 4 = .ok (.ifCond .ne 4, 3) := by decide +kernel
theorem dX5_refresh_7 : decode cX5_refresh 7 = .ok (.return_, 1) := by decide +kernel
theorem dX5_refresh_8 : decode cX5_refresh 8 = .ok (.aload_n 0, 1) := by decide +kernel
theorem dX5_refresh_9 : decode cX5_refresh 9 = .ok (.getfield 37, 3) := by decide +kernel
theorem dX5_refresh_12 : decode cX5_refresh 12 = .ok (.aload_n 0, 1) := by decide +kernel
theorem dX5_refresh_13 : decode cX5_refresh 13 = .ok (.getfield 21, 3) := by decide +kernel
theorem dX5_refresh_16 : decode cX5_refresh 16 = .ok (.aload_n 0, 1) := by decide +kernel
theorem dX5_refresh_17 : decode cX5_refresh 17 = .ok (.getfield 50, 3) := by decide +kernel
theorem dX5_refresh_20 : decode cX5_refresh 20 = .ok (.invokevirtual 146, 3) := by decide +kernel
theorem dX5_refresh_23 : decode cX5_refresh 23 = .ok (.aload_n 0, 1) := by decide +kernel
theorem dX5_refresh_24 : decode cX5_refresh 24 = .ok (.getfield 37, 3) := by decide +kernel
theorem dX5_refresh_27 : decode cX5_refresh 27 = .ok (.invokevirtual 150, 3) := by decide +kernel
theorem dX5_refresh_30 : decode cX5_refresh 30 = .ok (.aload_n 0, 1) := by decide +kernel
theorem dX5_refresh_31 : decode cX5_refresh 31 = .ok (.getfield 46, 3) := by decide +kernel
theorem dX5_refresh_34 : decode cX5_refresh 34 = .ok (.invokevirtual 153, 3) := by decide +kernel
theorem dX5_refresh_37 : decode cX5_refresh 37 = .ok (.aload_n 0, 1) := by decide +kernel
theorem dX5_refresh_38 : decode cX5_refresh 38 = .ok (.iconst 0, 1) := by decide +kernel
theorem dX5_refresh_39 : decode cX5_refresh 39 = .ok (.putfield 54, 3) := by decide +kernel
theorem dX5_refresh_42 : decode cX5_refresh 42 = .ok (.return_, 1) := by decide +kernel
theorem dX5_standOf_0 : decode cX5_standOf 0 = .ok (.iconst 2, 1) := by decide +kernel
theorem dX5_standOf_1 : decode cX5_standOf 1 = .ok (.iload_n 0, 1) := by decide +kernel
theorem dX5_standOf_2 : decode cX5_standOf 2 = .ok (.imul, 1) := by decide +kernel
theorem dX5_standOf_3 : decode cX5_standOf 3 = .ok (.iload_n 1, 1) := by decide +kernel
theorem dX5_standOf_4 : decode cX5_standOf 4 = .ok (.ifCond .eq 7, 3) := by decide +kernel
theorem dX5_standOf_7 : decode cX5_standOf 7 = .ok (.iconst 1, 1) := by decide +kernel
theorem dX5_standOf_8 : decode cX5_standOf 8 = .ok (.goto 4, 3) := by decide +kernel
theorem dX5_standOf_11 : decode cX5_standOf 11 = .ok (.iconst 0, 1) := by decide +kernel
theorem dX5_standOf_12 : decode cX5_standOf 12 = .ok (.iadd, 1) := by decide +kernel
theorem dX5_standOf_13 : decode cX5_standOf 13 = .ok (.ireturn, 1) := by decide +kernel
theorem dX5_costOrNone_0 : decode cX5_costOrNone 0 = .ok (.iload_n 0, 1) := by decide +kernel
theorem dX5_costOrNone_1 : decode cX5_costOrNone 1 = .ok (.ldc 123, 2) := by decide +kernel
theorem dX5_costOrNone_3 : decode cX5_costOrNone 3 = .ok (.if_icmp .ge 7, 3) := by decide +kernel
theorem dX5_costOrNone_6 : decode cX5_costOrNone 6 = .ok (.iload_n 0, 1) := by decide +kernel
theorem dX5_costOrNone_7 : decode cX5_costOrNone 7 = .ok (.goto 4, 3) := by decide +kernel
theorem dX5_costOrNone_10 : decode cX5_costOrNone 10 = .ok (.iconst (-1), 1) := by decide +kernel
theorem dX5_costOrNone_11 : decode cX5_costOrNone 11 = .ok (.ireturn, 1) := by decide +kernel
set_option maxRecDepth 20000 in
theorem ggX5_isMark_X5_isWithin : GoodIn wsX5_isMark wsX5_isWithin := goodIn_r _ [4] (by decide +kernel) (by decide +kernel)
set_option maxRecDepth 20000 in
theorem gX5_isMark_X5_isWithin : GoodIn wsX5_isMark (va_wsS RX5 86 yX5_isWithin wsX5_isWithin) := goodIn_app (goodIn_of _ (by decide +kernel)) ggX5_isMark_X5_isWithin
theorem dX5_isMark_0 : decode cX5_isMark 0 = .ok (.iload_n 0, 1) := by decide +kernel
theorem dX5_isMark_1 : decode cX5_isMark 1 = .ok (.bipush 99, 2) := by decide +kernel
theorem dX5_isMark_3 : decode cX5_isMark 3 = .ok (.invokestatic 86, 3) := by decide +kernel
theorem dX5_isMark_6 : decode cX5_isMark 6 = .ok (.ireturn, 1) := by decide +kernel
theorem dX5_isWithin_0 : decode cX5_isWithin 0 = .ok (.iload_n 0, 1) := by decide +kernel
theorem dX5_isWithin_1 : decode cX5_isWithin 1 = .ok (.ifCond .lt 12, 3) := by decide +kernel
theorem dX5_isWithin_4 : decode cX5_isWithin 4 = .ok (.iload_n 0, 1) := by decide +kernel
theorem dX5_isWithin_5 : decode cX5_isWithin 5 = .ok (.iload_n 1, 1) := by decide +kernel
theorem dX5_isWithin_6 : decode cX5_isWithin 6 = .ok (.if_icmp .gt 7, 3) := by decide +kernel
theorem dX5_isWithin_9 : decode cX5_isWithin 9 = .ok (.iconst 1, 1) := by decide +kernel
theorem dX5_isWithin_10 : decode cX5_isWithin 10 = .ok (.goto 4, 3) := by decide +kernel
theorem dX5_isWithin_13 : decode cX5_isWithin 13 = .ok (.iconst 0, 1) := by decide +kernel
theorem dX5_isWithin_14 : decode cX5_isWithin 14 = .ok (.ireturn, 1) := by decide +kernel
theorem dX6_init_0 : decode cX6_init 0 = .ok (.aload_n 0, 1) := by decide +kernel
theorem dX6_init_1 : decode cX6_init 1 = .ok (.invokespecial 1, 3) := by decide +kernel
theorem dX6_init_4 : decode cX6_init 4 = .ok (.aload_n 0, 1) := by decide +kernel
theorem dX6_init_5 : decode cX6_init 5 = .ok (.bipush 18, 2) := by decide +kernel
theorem dX6_init_7 : decode cX6_init 7 = .ok (.newarray .int, 2) := by decide +kernel
theorem dX6_init_9 : decode cX6_init 9 = .ok (.putfield 7, 3) := by decide +kernel
theorem dX6_init_12 : decode cX6_init 12 = .ok (.aload_n 0, 1) := by decide +kernel
theorem dX6_init_13 : decode cX6_init 13 = .ok (.bipush 18, 2) := by decide +kernel
theorem dX6_init_15 : decode cX6_init 15 = .ok (.newarray .int, 2) := by decide +kernel
theorem dX6_init_17 : decode cX6_init 17 = .ok (.putfield 13, 3) := by decide +kernel
theorem dX6_init_20 : decode cX6_init 20 = .ok (.aload_n 0, 1) := by decide +kernel
theorem dX6_init_21 : decode cX6_init 21 = .ok (.bipush 18, 2) := by decide +kernel
theorem dX6_init_23 : decode cX6_init 23 = .ok (.newarray .int, 2) := by decide +kernel
theorem dX6_init_25 : decode cX6_init 25 = .ok (.putfield 16, 3) := by decide +kernel
theorem dX6_init_28 : decode cX6_init 28 = .ok (.aload_n 0, 1) := by decide +kernel
theorem dX6_init_29 : decode cX6_init 29 = .ok (.bipush 18, 2) := by decide +kernel
theorem dX6_init_31 : decode cX6_init 31 = .ok (.newarray .int, 2) := by decide +kernel
theorem dX6_init_33 : decode cX6_init 33 = .ok (.putfield 19, 3) := by decide +kernel
theorem dX6_init_36 : decode cX6_init 36 = .ok (.aload_n 0, 1) := by decide +kernel
theorem dX6_init_37 : decode cX6_init 37 = .ok (.bipush 18, 2) := by decide +kernel
theorem dX6_init_39 : decode cX6_init 39 = .ok (.newarray .int, 2) := by decide +kernel
theorem dX6_init_41 : decode cX6_init 41 = .ok (.putfield 22, 3) := by decide +kernel
theorem dX6_init_44 : decode cX6_init 44 = .ok (.aload_n 0, 1) := by decide +kernel
theorem dX6_init_45 : decode cX6_init 45 = .ok (.bipush 27, 2) := by decide +kernel
theorem dX6_init_47 : decode cX6_init 47 = .ok (.newarray .int, 2) := by decide +kernel
theorem dX6_init_49 : decode cX6_init 49 = .ok (.putfield 25, 3) := by decide +kernel
theorem dX6_init_52 : decode cX6_init 52 = .ok (.aload_n 0, 1) := by decide +kernel
theorem dX6_init_53 : decode cX6_init 53 = .ok (.bipush 6, 2) := by decide +kernel
theorem dX6_init_55 : decode cX6_init 55 = .ok (.newarray .int, 2) := by decide +kernel
theorem dX6_init_57 : decode cX6_init 57 = .ok (.dup, 1) := by decide +kernel
theorem dX6_init_58 : decode cX6_init 58 = .ok (.iconst 0, 1) := by decide +kernel
theorem dX6_init_59 : decode cX6_init 59 = .ok (.iconst 1, 1) := by decide +kernel
theorem dX6_init_60 : decode cX6_init 60 = .ok (.iastore, 1) := by decide +kernel
theorem dX6_init_61 : decode cX6_init 61 = .ok (.dup, 1) := by decide +kernel
theorem dX6_init_62 : decode cX6_init 62 = .ok (.iconst 1, 1) := by decide +kernel
theorem dX6_init_63 : decode cX6_init 63 = .ok (.iconst 0, 1) := by decide +kernel
theorem dX6_init_64 : decode cX6_init 64 = .ok (.iastore, 1) := by decide +kernel
theorem dX6_init_65 : decode cX6_init 65 = .ok (.dup, 1) := by decide +kernel
theorem dX6_init_66 : decode cX6_init 66 = .ok (.iconst 2, 1) := by decide +kernel
theorem dX6_init_67 : decode cX6_init 67 = .ok (.bipush 20, 2) := by decide +kernel
theorem dX6_init_69 : decode cX6_init 69 = .ok (.iastore, 1) := by decide +kernel
theorem dX6_init_70 : decode cX6_init 70 = .ok (.dup, 1) := by decide +kernel
theorem dX6_init_71 : decode cX6_init 71 = .ok (.iconst 3, 1) := by decide +kernel
theorem dX6_init_72 : decode cX6_init 72 = .ok (.bipush 10, 2) := by decide +kernel
theorem dX6_init_74 : decode cX6_init 74 = .ok (.iastore, 1) := by decide +kernel
theorem dX6_init_75 : decode cX6_init 75 = .ok (.dup, 1) := by decide +kernel
theorem dX6_init_76 : decode cX6_init 76 = .ok (.iconst 4, 1) := by decide +kernel
theorem dX6_init_77 : decode cX6_init 77 = .ok (.bipush 30, 2) := by decide +kernel
theorem dX6_init_79 : decode cX6_init 79 = .ok (.iastore, 1) := by decide +kernel
theorem dX6_init_80 : decode cX6_init 80 = .ok (.dup, 1) := by decide +kernel
theorem dX6_init_81 : decode cX6_init 81 = .ok (.iconst 5, 1) := by decide +kernel
theorem dX6_init_82 : decode cX6_init 82 = .ok (.iconst 0, 1) := by decide +kernel
theorem dX6_init_83 : decode cX6_init 83 = .ok (.iastore, 1) := by decide +kernel
theorem dX6_init_84 : decode cX6_init 84 = .ok (.putfield 28, 3) := by decide +kernel
theorem dX6_init_87 : decode cX6_init 87 = .ok (.aload_n 0, 1) := by decide +kernel
theorem dX6_init_88 : decode cX6_init 88 = .ok (.iconst 1, 1) := by decide +kernel
theorem dX6_init_89 : decode cX6_init 89 = .ok (.putfield 31, 3) := by decide +kernel
theorem dX6_init_92 : decode cX6_init 92 = .ok (.aload_n 0, 1) := by decide +kernel
theorem dX6_init_93 : decode cX6_init 93 = .ok (.bipush 81, 2) := by decide +kernel
theorem dX6_init_95 : decode cX6_init 95 = .ok (.newarray .boolean, 2) := by decide +kernel
theorem dX6_init_97 : decode cX6_init 97 = .ok (.putfield 35, 3) := by decide +kernel
theorem dX6_init_100 : decode cX6_init 100 = .ok (.aload_n 0, 1) := by decide +kernel
theorem dX6_init_101 : decode cX6_init 101 = .ok (.bipush 81, 2) := by decide +kernel
theorem dX6_init_103 : decode cX6_init 103 = .ok (.newarray .boolean, 2) := by decide +kernel
theorem dX6_init_105 : decode cX6_init 105 = .ok (.putfield 39, 3) := by decide +kernel
theorem dX6_init_108 : decode cX6_init 108 = .ok (.aload_n 0, 1) := by decide +kernel
theorem dX6_init_109 : decode cX6_init 109 = .ok (.sipush 9216, 3) := by decide +kernel
theorem dX6_init_112 : decode cX6_init 112 = .ok (.newarray .int, 2) := by decide +kernel
theorem dX6_init_114 : decode cX6_init 114 = .ok (.putfield 42, 3) := by decide +kernel
theorem dX6_init_117 : decode cX6_init 117 = .ok (.aload_n 0, 1) := by decide +kernel
theorem dX6_init_118 : decode cX6_init 118 = .ok (.sipush 9216, 3) := by decide +kernel
theorem dX6_init_121 : decode cX6_init 121 = .ok (.newarray .int, 2) := by decide +kernel
theorem dX6_init_123 : decode cX6_init 123 = .ok (.putfield 45, 3) := by decide +kernel
theorem dX6_init_126 : decode cX6_init 126 = .ok (.aload_n 0, 1) := by decide +kernel
theorem dX6_init_127 : decode cX6_init 127 = .ok (.iconst (-1), 1) := by decide +kernel
theorem dX6_init_128 : decode cX6_init 128 = .ok (.putfield 48, 3) := by decide +kernel
theorem dX6_init_131 : decode cX6_init 131 = .ok (.aload_n 0, 1) := by decide +kernel
theorem dX6_init_132 : decode cX6_init 132 = .ok (.iconst (-1), 1) := by decide +kernel
theorem dX6_init_133 : decode cX6_init 133 = .ok (.putfield 52, 3) := by decide +kernel
theorem dX6_init_136 : decode cX6_init 136 = .ok (.aload_n 0, 1) := by decide +kernel
theorem dX6_init_137 : decode cX6_init 137 = .ok (.bipush 9, 2) := by decide +kernel
theorem dX6_init_139 : decode cX6_init 139 = .ok (.newarray .int, 2) := by decide +kernel
theorem dX6_init_141 : decode cX6_init 141 = .ok (.putfield 55, 3) := by decide +kernel
theorem dX6_init_144 : decode cX6_init 144 = .ok (.aload_n 0, 1) := by decide +kernel
theorem dX6_init_145 : decode cX6_init 145 = .ok (.bipush 9, 2) := by decide +kernel
theorem dX6_init_147 : decode cX6_init 147 = .ok (.newarray .int, 2) := by decide +kernel
theorem dX6_init_149 : decode cX6_init 149 = .ok (.putfield 58, 3) := by decide +kernel
theorem dX6_init_152 : decode cX6_init 152 = .ok (.return_, 1) := by decide +kernel
theorem dX6_in_0 : decode cX6_in 0 = .ok (.iload_n 0, 1) := by decide +kernel
theorem dX6_in_1 : decode cX6_in 1 = .ok (.iload_n 1, 1) := by decide +kernel
theorem dX6_in_2 : decode cX6_in 2 = .ok (.if_icmp .lt 12, 3) := by decide +kernel
theorem dX6_in_5 : decode cX6_in 5 = .ok (.iload_n 0, 1) := by decide +kernel
theorem dX6_in_6 : decode cX6_in 6 = .ok (.iload_n 2, 1) := by decide +kernel
theorem dX6_in_7 : decode cX6_in 7 = .ok (.if_icmp .gt 7, 3) := by decide +kernel
theorem dX6_in_10 : decode cX6_in 10 = .ok (.iconst 1, 1) := by decide +kernel
theorem dX6_in_11 : decode cX6_in 11 = .ok (.goto 4, 3) := by decide +kernel
theorem dX6_in_14 : decode cX6_in 14 = .ok (.iconst 0, 1) := by decide +kernel
theorem dX6_in_15 : decode cX6_in 15 = .ok (.ireturn, 1) := by decide +kernel
set_option maxRecDepth 20000 in
theorem ggX6_isLeaf_X6_in : GoodIn wsX6_isLeaf wsX6_in := goodIn_r _ [5] (by decide +kernel) (by decide +kernel)
set_option maxRecDepth 20000 in
theorem gX6_isLeaf_X6_in : GoodIn wsX6_isLeaf (va_wsS RX6 64 yX6_in wsX6_in) := goodIn_app (goodIn_of _ (by decide +kernel)) ggX6_isLeaf_X6_in
theorem dX6_isLeaf_0 : decode cX6_isLeaf 0 = .ok (.iload_n 1, 1) := by decide +kernel
theorem dX6_isLeaf_1 : decode cX6_isLeaf 1 = .ok (.iconst 0, 1) := by decide +kernel
theorem dX6_isLeaf_2 : decode cX6_isLeaf 2 = .ok (.aload_n 0, 1) := by decide +kernel
theorem dX6_isLeaf_3 : decode cX6_isLeaf 3 = .ok (.getfield 61, 3) := by decide +kernel
theorem dX6_isLeaf_6 : decode cX6_isLeaf 6 = .ok (.iconst 1, 1) := by decide +kernel
theorem dX6_isLeaf_7 : decode cX6_isLeaf 7 = .ok (.isub, 1) := by decide +kernel
theorem dX6_isLeaf_8 : decode cX6_isLeaf 8 = .ok (.invokestatic 64, 3) := by decide +kernel
theorem dX6_isLeaf_11 : decode cX6_isLeaf 11 = .ok (.ireturn, 1) := by decide +kernel
set_option maxRecDepth 20000 in
theorem ggX6_leaf_X6_in : GoodIn wsX6_leaf wsX6_in := goodIn_r _ [8] (by decide +kernel) (by decide +kernel)
set_option maxRecDepth 20000 in
theorem gX6_leaf_X6_in : GoodIn wsX6_leaf (va_wsS RX6 64 yX6_in wsX6_in) := goodIn_app (goodIn_of _ (by decide +kernel)) ggX6_leaf_X6_in
theorem dX6_leaf_0 : decode cX6_leaf 0 = .ok (.iload_n 1, 1) := by decide +kernel
theorem dX6_leaf_1 : decode cX6_leaf 1 = .ok (.iconst 0, 1) := by decide +kernel
theorem dX6_leaf_2 : decode cX6_leaf 2 = .ok (.bipush 99, 2) := by decide +kernel
theorem dX6_leaf_4 : decode cX6_leaf 4 = .ok (.invokestatic 64, 3) := by decide +kernel
theorem dX6_leaf_7 : decode cX6_leaf 7 = .ok (.ifCond .eq 43, 3) := by decide +kernel
theorem dX6_leaf_10 : decode cX6_leaf 10 = .ok (.iload_n 2, 1) := by decide +kernel
theorem dX6_leaf_11 : decode cX6_leaf 11 = .ok (.iconst 0, 1) := by decide +kernel
theorem dX6_leaf_12 : decode cX6_leaf 12 = .ok (.bipush 99, 2) := by decide +kernel
theorem dX6_leaf_14 : decode cX6_leaf 14 = .ok (.invokestatic 64, 3) := by decide +kernel
theorem dX6_leaf_17 : decode cX6_leaf 17 = .ok (.ifCond .eq 33, 3) := by decide +kernel
theorem dX6_leaf_20 : decode cX6_leaf 20 = .ok (.iload_n 3, 1) := by decide +kernel
theorem dX6_leaf_21 : decode cX6_leaf 21 = .ok (.iconst 0, 1) := by decide +kernel
theorem dX6_leaf_22 : decode cX6_leaf 22 = .ok (.bipush 99, 2) := by decide +kernel
theorem dX6_leaf_24 : decode cX6_leaf 24 = .ok (.invokestatic 64, 3) := by decide +kernel
theorem dX6_leaf_27 : decode cX6_leaf 27 = .ok (.ifCond .eq 23, 3) := by decide +kernel
theorem dX6_leaf_30 : decode cX6_leaf 30 = .ok (.iload 4, 2) := by decide +kernel
theorem dX6_leaf_32 : decode cX6_leaf 32 = .ok (.iconst 0, 1) := by decide +kernel
theorem dX6_leaf_33 : decode cX6_leaf 33 = .ok (.bipush 99, 2) := by decide +kernel
theorem dX6_leaf_35 : decode cX6_leaf 35 = .ok (.invokestatic 64, 3) := by decide +kernel
theorem dX6_leaf_38 : decode cX6_leaf 38 = .ok (.ifCond .eq 12, 3) := by decide +kernel
theorem dX6_leaf_41 : decode cX6_leaf 41 = .ok (.aload_n 0, 1) := by decide +kernel
theorem dX6_leaf_42 : decode cX6_leaf 42 = .ok (.getfield 61, 3) := by decide +kernel
theorem dX6_leaf_45 : decode cX6_leaf 45 = .ok (.bipush 9, 2) := by decide +kernel
theorem dX6_leaf_47 : decode cX6_leaf 47 = .ok (.if_icmp .ne 5, 3) := by decide +kernel
theorem dX6_leaf_50 : decode cX6_leaf 50 = .ok (.iconst (-1), 1) := by decide +kernel
theorem dX6_leaf_51 : decode cX6_leaf 51 = .ok (.ireturn, 1) := by decide +kernel
theorem dX6_leaf_52 : decode cX6_leaf 52 = .ok (.aload_n 0, 1) := by decide +kernel
theorem dX6_leaf_53 : decode cX6_leaf 53 = .ok (.getfield 7, 3) := by decide +kernel
theorem dX6_leaf_56 : decode cX6_leaf 56 = .ok (.iconst 2, 1) := by decide +kernel
theorem dX6_leaf_57 : decode cX6_leaf 57 = .ok (.aload_n 0, 1) := by decide +kernel
theorem dX6_leaf_58 : decode cX6_leaf 58 = .ok (.getfield 61, 3) := by decide +kernel
theorem dX6_leaf_61 : decode cX6_leaf 61 = .ok (.imul, 1) := by decide +kernel
theorem dX6_leaf_62 : decode cX6_leaf 62 = .ok (.iload_n 1, 1) := by decide +kernel
theorem dX6_leaf_63 : decode cX6_leaf 63 = .ok (.iastore, 1) := by decide +kernel
theorem dX6_leaf_64 : decode cX6_leaf 64 = .ok (.aload_n 0, 1) := by decide +kernel
theorem dX6_leaf_65 : decode cX6_leaf 65 = .ok (.getfield 13, 3) := by decide +kernel
theorem dX6_leaf_68 : decode cX6_leaf 68 = .ok (.iconst 2, 1) := by decide +kernel
theorem dX6_leaf_69 : decode cX6_leaf 69 = .ok (.aload_n 0, 1) := by decide +kernel
theorem dX6_leaf_70 : decode cX6_leaf 70 = .ok (.getfield 61, 3) := by decide +kernel
theorem dX6_leaf_73 : decode cX6_leaf 73 = .ok (.imul, 1) := by decide +kernel
theorem dX6_leaf_74 : decode cX6_leaf 74 = .ok (.iload_n 2, 1) := by decide +kernel
theorem dX6_leaf_75 : decode cX6_leaf 75 = .ok (.iastore, 1) := by decide +kernel
theorem dX6_leaf_76 : decode cX6_leaf 76 = .ok (.aload_n 0, 1) := by decide +kernel
theorem dX6_leaf_77 : decode cX6_leaf 77 = .ok (.getfield 7, 3) := by decide +kernel
theorem dX6_leaf_80 : decode cX6_leaf 80 = .ok (.iconst 2, 1) := by decide +kernel
theorem dX6_leaf_81 : decode cX6_leaf 81 = .ok (.aload_n 0, 1) := by decide +kernel
theorem dX6_leaf_82 : decode cX6_leaf 82 = .ok (.getfield 61, 3) := by decide +kernel
theorem dX6_leaf_85 : decode cX6_leaf 85 = .ok (.imul, 1) := by decide +kernel
theorem dX6_leaf_86 : decode cX6_leaf 86 = .ok (.iconst 1, 1) := by decide +kernel
theorem dX6_leaf_87 : decode cX6_leaf 87 = .ok (.iadd, 1) := by decide +kernel
theorem dX6_leaf_88 : decode cX6_leaf 88 = .ok (.iload_n 3, 1) := by decide +kernel
theorem dX6_leaf_89 : decode cX6_leaf 89 = .ok (.iastore, 1) := by decide +kernel
theorem dX6_leaf_90 : decode cX6_leaf 90 = .ok (.aload_n 0, 1) := by decide +kernel
theorem dX6_leaf_91 : decode cX6_leaf 91 = .ok (.getfield 13, 3) := by decide +kernel
theorem dX6_leaf_94 : decode cX6_leaf 94 = .ok (.iconst 2, 1) := by decide +kernel
theorem dX6_leaf_95 : decode cX6_leaf 95 = .ok (.aload_n 0, 1) := by decide +kernel
theorem dX6_leaf_96 : decode cX6_leaf 96 = .ok (.getfield 61, 3) := by decide +kernel
theorem dX6_leaf_99 : decode cX6_leaf 99 = .ok (.imul, 1) := by decide +kernel
theorem dX6_leaf_100 : decode cX6_leaf 100 = .ok (.iconst 1, 1) := by decide +kernel
theorem dX6_leaf_101 : decode cX6_leaf 101 = .ok (.iadd, 1) := by decide +kernel
theorem dX6_leaf_102 : decode cX6_leaf 102 = .ok (.iload 4, 2) := by decide +kernel
theorem dX6_leaf_104 : decode cX6_leaf 104 = .ok (.iastore, 1) := by decide +kernel
theorem dX6_leaf_105 : decode cX6_leaf 105 = .ok (.aload_n 0, 1) := by decide +kernel
theorem dX6_leaf_106 : decode cX6_leaf 106 = .ok (.getfield 16, 3) := by decide +kernel
theorem dX6_leaf_109 : decode cX6_leaf 109 = .ok (.iconst 2, 1) := by decide +kernel
theorem dX6_leaf_110 : decode cX6_leaf 110 = .ok (.aload_n 0, 1) := by decide +kernel
theorem dX6_leaf_111 : decode cX6_leaf 111 = .ok (.getfield 61, 3) := by decide +kernel
theorem dX6_leaf_114 : decode cX6_leaf 114 = .ok (.imul, 1) := by decide +kernel
theorem dX6_leaf_115 : decode cX6_leaf 115 = .ok (.iconst (-1), 1) := by decide +kernel
theorem dX6_leaf_116 : decode cX6_leaf 116 = .ok (.iastore, 1) := by decide +kernel
theorem dX6_leaf_117 : decode cX6_leaf 117 = .ok (.aload_n 0, 1) := by decide +kernel
theorem dX6_leaf_118 : decode cX6_leaf 118 = .ok (.getfield 16, 3) := by decide +kernel
theorem dX6_leaf_121 : decode cX6_leaf 121 = .ok (.iconst 2, 1) := by decide +kernel
theorem dX6_leaf_122 : decode cX6_leaf 122 = .ok (.aload_n 0, 1) := by decide +kernel
theorem dX6_leaf_123 : decode cX6_leaf 123 = .ok (.getfield 61, 3) := by decide +kernel
theorem dX6_leaf_126 : decode cX6_leaf 126 = .ok (.imul, 1) := by decide +kernel
theorem dX6_leaf_127 : decode cX6_leaf 127 = .ok (.iconst 1, 1) := by decide +kernel
theorem dX6_leaf_128 : decode cX6_leaf 128 = .ok (.iadd, 1) := by decide +kernel
theorem dX6_leaf_129 : decode cX6_leaf 129 = .ok (.iconst (-1), 1) := by decide +kernel
theorem dX6_leaf_130 : decode cX6_leaf 130 = .ok (.iastore, 1) := by decide +kernel
theorem dX6_leaf_131 : decode cX6_leaf 131 = .ok (.aload_n 0, 1) := by decide +kernel
theorem dX6_leaf_132 : decode cX6_leaf 132 = .ok (.dup, 1) := by decide +kernel
theorem dX6_leaf_133 : decode cX6_leaf 133 = .ok (.getfield 61, 3) := by decide +kernel
theorem dX6_leaf_136 : decode cX6_leaf 136 = .ok (.iconst 1, 1) := by decide +kernel
theorem dX6_leaf_137 : decode cX6_leaf 137 = .ok (.iadd, 1) := by decide +kernel
theorem dX6_leaf_138 : decode cX6_leaf 138 = .ok (.putfield 61, 3) := by decide +kernel
theorem dX6_leaf_141 : decode cX6_leaf 141 = .ok (.aload_n 0, 1) := by decide +kernel
theorem dX6_leaf_142 : decode cX6_leaf 142 = .ok (.getfield 61, 3) := by decide +kernel
theorem dX6_leaf_145 : decode cX6_leaf 145 = .ok (.iconst 1, 1) := by decide +kernel
theorem dX6_leaf_146 : decode cX6_leaf 146 = .ok (.isub, 1) := by decide +kernel
theorem dX6_leaf_147 : decode cX6_leaf 147 = .ok (.ireturn, 1) := by decide +kernel
set_option maxRecDepth 20000 in
theorem ggX6_catchword_X6_isLeaf : GoodIn wsX6_catchword wsX6_isLeaf := goodIn_r _ [6, 7, 8, 9, 5, 10, 11, 12, 13, 14, 15, 16, 17, 18, 19, 20, 21, 22, 23, 24, 25, 26, 27, 28, 29, 30] (by decide +kernel) (by decide +kernel)
set_option maxRecDepth 20000 in
theorem gX6_catchword_X6_isLeaf : GoodIn wsX6_catchword (wsV RX6 68 RX6 yX6_isLeaf wsX6_isLeaf) := goodIn_app (goodIn_of _ (by decide +kernel)) ggX6_catchword_X6_isLeaf
set_option maxRecDepth 20000 in
theorem ggX6_catchword_X6_in : GoodIn wsX6_catchword wsX6_in := goodIn_r _ [10] (by decide +kernel) (by decide +kernel)
set_option maxRecDepth 20000 in
theorem gX6_catchword_X6_in : GoodIn wsX6_catchword (va_wsS RX6 64 yX6_in wsX6_in) := goodIn_app (goodIn_of _ (by decide +kernel)) ggX6_catchword_X6_in
theorem dX6_catchword_0 : decode cX6_catchword 0 = .ok (.aload_n 0, 1) := by decide +kernel
theorem dX6_catchword_1 : decode cX6_catchword 1 = .ok (.iload_n 1, 1) := by decide +kernel
theorem dX6_catchword_2 : decode cX6_catchword 2 = .ok (.invokevirtual 68, 3) := by decide +kernel
theorem dX6_catchword_5 : decode cX6_catchword 5 = .ok (.ifCond .eq 22, 3) := by decide +kernel
theorem dX6_catchword_8 : decode cX6_catchword 8 = .ok (.iload_n 2, 1) := by decide +kernel
theorem dX6_catchword_9 : decode cX6_catchword 9 = .ok (.iconst 0, 1) := by decide +kernel
theorem dX6_catchword_10 : decode cX6_catchword 10 = .ok (.iconst 1, 1) := by decide +kernel
theorem dX6_catchword_11 : decode cX6_catchword 11 = .ok (.invokestatic 64, 3) := by decide +kernel
theorem dX6_catchword_14 : decode cX6_catchword 14 = .ok (.ifCond .eq 13, 3) := by decide +kernel
theorem dX6_catchword_17 : decode cX6_catchword 17 = .ok (.iload_n 3, 1) := by decide +kernel
theorem dX6_catchword_18 : decode cX6_catchword 18 = .ok (.iconst (-1), 1) := by decide +kernel
theorem dX6_catchword_19 : decode cX6_catchword 19 = .ok (.bipush 99, 2) := by decide +kernel
theorem dX6_catchword_21 : decode cX6_catchword 21 = .ok (.invokestatic 64, 3) := by decide +kernel
theorem dX6_catchword_24 : decode cX6_catchword 24 = .ok (.ifCond .ne 5, 3) := by decide +kernel
theorem dX6_catchword_27 : decode cX6_catchword 27 = .ok (.iconst 0, 1) := by decide +kernel
theorem dX6_catchword_28 : decode cX6_catchword 28 = .ok (.ireturn, 1) := by decide +kernel
theorem dX6_catchword_29 : decode cX6_catchword 29 = .ok (.aload_n 0, 1) := by decide +kernel
theorem dX6_catchword_30 : decode cX6_catchword 30 = .ok (.getfield 16, 3) := by decide +kernel
theorem dX6_catchword_33 : decode cX6_catchword 33 = .ok (.iconst 2, 1) := by decide +kernel
theorem dX6_catchword_34 : decode cX6_catchword 34 = .ok (.iload_n 1, 1) := by decide +kernel
theorem dX6_catchword_35 : decode cX6_catchword 35 = .ok (.imul, 1) := by decide +kernel
theorem dX6_catchword_36 : decode cX6_catchword 36 = .ok (.iload_n 2, 1) := by decide +kernel
theorem dX6_catchword_37 : decode cX6_catchword 37 = .ok (.iadd, 1) := by decide +kernel
theorem dX6_catchword_38 : decode cX6_catchword 38 = .ok (.iload_n 3, 1) := by decide +kernel
theorem dX6_catchword_39 : decode cX6_catchword 39 = .ok (.iastore, 1) := by decide +kernel
theorem dX6_catchword_40 : decode cX6_catchword 40 = .ok (.iconst 1, 1) := by decide +kernel
theorem dX6_catchword_41 : decode cX6_catchword 41 = .ok (.ireturn, 1) := by decide +kernel
set_option maxRecDepth 20000 in
theorem ggX6_cut_X6_isLeaf : GoodIn wsX6_cut wsX6_isLeaf := goodIn_r _ [7, 8, 9, 10, 6, 11, 12, 13, 14, 15, 16, 17, 18, 19, 20, 21, 22, 23, 24, 25, 26, 27, 28, 29, 30, 31] (by decide +kernel) (by decide +kernel)
set_option maxRecDepth 20000 in
theorem gX6_cut_X6_isLeaf : GoodIn wsX6_cut (wsV RX6 68 RX6 yX6_isLeaf wsX6_isLeaf) := goodIn_app (goodIn_of _ (by decide +kernel)) ggX6_cut_X6_isLeaf
set_option maxRecDepth 20000 in
theorem ggX6_cut_X6_in : GoodIn wsX6_cut wsX6_in := goodIn_r _ [11] (by decide +kernel) (by decide +kernel)
set_option maxRecDepth 20000 in
theorem gX6_cut_X6_in : GoodIn wsX6_cut (va_wsS RX6 64 yX6_in wsX6_in) := goodIn_app (goodIn_of _ (by decide +kernel)) ggX6_cut_X6_in
theorem dX6_cut_0 : decode cX6_cut 0 = .ok (.aload_n 0, 1) := by decide +kernel
theorem dX6_cut_1 : decode cX6_cut 1 = .ok (.iload_n 1, 1) := by decide +kernel
theorem dX6_cut_2 : decode cX6_cut 2 = .ok (.invokevirtual 68, 3) := by decide +kernel
theorem dX6_cut_5 : decode cX6_cut 5 = .ok (.ifCond .eq 33, 3) := by decide +kernel
theorem dX6_cut_8 : decode cX6_cut 8 = .ok (.iload_n 2, 1) := by decide +kernel
theorem dX6_cut_9 : decode cX6_cut 9 = .ok (.iconst 0, 1) := by decide +kernel
theorem dX6_cut_10 : decode cX6_cut 10 = .ok (.iconst 1, 1) := by decide +kernel
theorem dX6_cut_11 : decode cX6_cut 11 = .ok (.invokestatic 64, 3) := by decide +kernel
theorem dX6_cut_14 : decode cX6_cut 14 = .ok (.ifCond .eq 24, 3) := by decide +kernel
theorem dX6_cut_17 : decode cX6_cut 17 = .ok (.iload_n 3, 1) := by decide +kernel
theorem dX6_cut_18 : decode cX6_cut 18 = .ok (.iconst 0, 1) := by decide +kernel
theorem dX6_cut_19 : decode cX6_cut 19 = .ok (.bipush 99, 2) := by decide +kernel
theorem dX6_cut_21 : decode cX6_cut 21 = .ok (.invokestatic 64, 3) := by decide +kernel
theorem dX6_cut_24 : decode cX6_cut 24 = .ok (.ifCond .eq 14, 3) := by decide +kernel
theorem dX6_cut_27 : decode cX6_cut 27 = .ok (.iload 4, 2) := by decide +kernel
theorem dX6_cut_29 : decode cX6_cut 29 = .ok (.iconst 0, 1) := by decide +kernel
theorem dX6_cut_30 : decode cX6_cut 30 = .ok (.bipush 99, 2) := by decide +kernel
theorem dX6_cut_32 : decode cX6_cut 32 = .ok (.invokestatic 64, 3) := by decide +kernel
theorem dX6_cut_35 : decode cX6_cut 35 = .ok (.ifCond .ne 5, 3) := by decide +kernel
theorem dX6_cut_38 : decode cX6_cut 38 = .ok (.iconst 0, 1) := by decide +kernel
theorem dX6_cut_39 : decode cX6_cut 39 = .ok (.ireturn, 1) := by decide +kernel
theorem dX6_cut_40 : decode cX6_cut 40 = .ok (.aload_n 0, 1) := by decide +kernel
theorem dX6_cut_41 : decode cX6_cut 41 = .ok (.getfield 19, 3) := by decide +kernel
theorem dX6_cut_44 : decode cX6_cut 44 = .ok (.iconst 2, 1) := by decide +kernel
theorem dX6_cut_45 : decode cX6_cut 45 = .ok (.iload_n 1, 1) := by decide +kernel
theorem dX6_cut_46 : decode cX6_cut 46 = .ok (.imul, 1) := by decide +kernel
theorem dX6_cut_47 : decode cX6_cut 47 = .ok (.iload_n 2, 1) := by decide +kernel
theorem dX6_cut_48 : decode cX6_cut 48 = .ok (.iadd, 1) := by decide +kernel
theorem dX6_cut_49 : decode cX6_cut 49 = .ok (.iload_n 3, 1) := by decide +kernel
theorem dX6_cut_50 : decode cX6_cut 50 = .ok (.iastore, 1) := by decide +kernel
theorem dX6_cut_51 : decode cX6_cut 51 = .ok (.aload_n 0, 1) := by decide +kernel
theorem dX6_cut_52 : decode cX6_cut 52 = .ok (.getfield 22, 3) := by decide +kernel
theorem dX6_cut_55 : decode cX6_cut 55 = .ok (.iconst 2, 1) := by decide +kernel
theorem dX6_cut_56 : decode cX6_cut 56 = .ok (.iload_n 1, 1) := by decide +kernel
theorem dX6_cut_57 : decode cX6_cut 57 = .ok (.imul, 1) := by decide +kernel
theorem dX6_cut_58 : decode cX6_cut 58 = .ok (.iload_n 2, 1) := by decide +kernel
theorem dX6_cut_59 : decode cX6_cut 59 = .ok (.iadd, 1) := by decide +kernel
theorem dX6_cut_60 : decode cX6_cut 60 = .ok (.iload 4, 2) := by decide +kernel
theorem dX6_cut_62 : decode cX6_cut 62 = .ok (.iastore, 1) := by decide +kernel
theorem dX6_cut_63 : decode cX6_cut 63 = .ok (.iconst 1, 1) := by decide +kernel
theorem dX6_cut_64 : decode cX6_cut 64 = .ok (.ireturn, 1) := by decide +kernel
set_option maxRecDepth 20000 in
theorem ggX6_stain_X6_isLeaf : GoodIn wsX6_stain wsX6_isLeaf := goodIn_r _ [6, 7, 8, 9, 5, 10, 11, 12, 13, 14, 15, 16, 17, 18, 19, 20, 21, 22, 23, 24, 25, 26, 27, 28, 29, 30] (by decide +kernel) (by decide +kernel)
set_option maxRecDepth 20000 in
theorem gX6_stain_X6_isLeaf : GoodIn wsX6_stain (wsV RX6 68 RX6 yX6_isLeaf wsX6_isLeaf) := goodIn_app (goodIn_of _ (by decide +kernel)) ggX6_stain_X6_isLeaf
set_option maxRecDepth 20000 in
theorem ggX6_stain_X6_in : GoodIn wsX6_stain wsX6_in := goodIn_r _ [10] (by decide +kernel) (by decide +kernel)
set_option maxRecDepth 20000 in
theorem gX6_stain_X6_in : GoodIn wsX6_stain (va_wsS RX6 64 yX6_in wsX6_in) := goodIn_app (goodIn_of _ (by decide +kernel)) ggX6_stain_X6_in
theorem dX6_stain_0 : decode cX6_stain 0 = .ok (.aload_n 0, 1) := by decide +kernel
theorem dX6_stain_1 : decode cX6_stain 1 = .ok (.iload_n 1, 1) := by decide +kernel
theorem dX6_stain_2 : decode cX6_stain 2 = .ok (.invokevirtual 68, 3) := by decide +kernel
theorem dX6_stain_5 : decode cX6_stain 5 = .ok (.ifCond .eq 22, 3) := by decide +kernel
theorem dX6_stain_8 : decode cX6_stain 8 = .ok (.iload_n 2, 1) := by decide +kernel
theorem dX6_stain_9 : decode cX6_stain 9 = .ok (.iconst 0, 1) := by decide +kernel
theorem dX6_stain_10 : decode cX6_stain 10 = .ok (.iconst 2, 1) := by decide +kernel
theorem dX6_stain_11 : decode cX6_stain 11 = .ok (.invokestatic 64, 3) := by decide +kernel
theorem dX6_stain_14 : decode cX6_stain 14 = .ok (.ifCond .eq 13, 3) := by decide +kernel
theorem dX6_stain_17 : decode cX6_stain 17 = .ok (.iload_n 3, 1) := by decide +kernel
theorem dX6_stain_18 : decode cX6_stain 18 = .ok (.iconst 0, 1) := by decide +kernel
theorem dX6_stain_19 : decode cX6_stain 19 = .ok (.bipush 99, 2) := by decide +kernel
theorem dX6_stain_21 : decode cX6_stain 21 = .ok (.invokestatic 64, 3) := by decide +kernel
theorem dX6_stain_24 : decode cX6_stain 24 = .ok (.ifCond .ne 5, 3) := by decide +kernel
theorem dX6_stain_27 : decode cX6_stain 27 = .ok (.iconst 0, 1) := by decide +kernel
theorem dX6_stain_28 : decode cX6_stain 28 = .ok (.ireturn, 1) := by decide +kernel
theorem dX6_stain_29 : decode cX6_stain 29 = .ok (.aload_n 0, 1) := by decide +kernel
theorem dX6_stain_30 : decode cX6_stain 30 = .ok (.getfield 25, 3) := by decide +kernel
theorem dX6_stain_33 : decode cX6_stain 33 = .ok (.iconst 3, 1) := by decide +kernel
theorem dX6_stain_34 : decode cX6_stain 34 = .ok (.iload_n 1, 1) := by decide +kernel
theorem dX6_stain_35 : decode cX6_stain 35 = .ok (.imul, 1) := by decide +kernel
theorem dX6_stain_36 : decode cX6_stain 36 = .ok (.iload_n 2, 1) := by decide +kernel
theorem dX6_stain_37 : decode cX6_stain 37 = .ok (.iadd, 1) := by decide +kernel
theorem dX6_stain_38 : decode cX6_stain 38 = .ok (.iload_n 3, 1) := by decide +kernel
theorem dX6_stain_39 : decode cX6_stain 39 = .ok (.iastore, 1) := by decide +kernel
theorem dX6_stain_40 : decode cX6_stain 40 = .ok (.iconst 1, 1) := by decide +kernel
theorem dX6_stain_41 : decode cX6_stain 41 = .ok (.ireturn, 1) := by decide +kernel
set_option maxRecDepth 20000 in
theorem ggX6_weights_X6_in : GoodIn wsX6_weights wsX6_in := goodIn_r _ [5] (by decide +kernel) (by decide +kernel)
set_option maxRecDepth 20000 in
theorem gX6_weights_X6_in : GoodIn wsX6_weights (va_wsS RX6 64 yX6_in wsX6_in) := goodIn_app (goodIn_of _ (by decide +kernel)) ggX6_weights_X6_in
theorem dX6_weights_0 : decode cX6_weights 0 = .ok (.iload_n 1, 1) := by decide +kernel
theorem dX6_weights_1 : decode cX6_weights 1 = .ok (.iconst 0, 1) := by decide +kernel
theorem dX6_weights_2 : decode cX6_weights 2 = .ok (.bipush 9, 2) := by decide +kernel
theorem dX6_weights_4 : decode cX6_weights 4 = .ok (.invokestatic 64, 3) := by decide +kernel
theorem dX6_weights_7 : decode cX6_weights 7 = .ok (.ifCond .eq 57, 3) := by decide +kernel
theorem dX6_weights_10 : decode cX6_weights 10 = .ok (.iload_n 2, 1) := by decide +kernel
theorem dX6_weights_11 : decode cX6_weights 11 = .ok (.iconst 0, 1) := by decide +kernel
theorem dX6_weights_12 : decode cX6_weights 12 = .ok (.bipush 9, 2) := by decide +kernel
theorem dX6_weights_14 : decode cX6_weights 14 = .ok (.invokestatic 64, 3) := by decide +kernel
theorem dX6_weights_17 : decode cX6_weights 17 = .ok (.ifCond .eq 47, 3) := by decide +kernel
theorem dX6_weights_20 : decode cX6_weights 20 = .ok (.iload_n 3, 1) := by decide +kernel
theorem dX6_weights_21 : decode cX6_weights 21 = .ok (.iconst 0, 1) := by decide +kernel
theorem dX6_weights_22 : decode cX6_weights 22 = .ok (.bipush 99, 2) := by decide +kernel
theorem dX6_weights_24 : decode cX6_weights 24 = .ok (.invokestatic 64, 3) := by decide +kernel
theorem dX6_weights_27 : decode cX6_weights 27 = .ok (.ifCond .eq 37, 3) := by decide +kernel
theorem dX6_weights_30 : decode cX6_weights 30 = .ok (.iload 4, 2) := by decide +kernel
theorem dX6_weights_32 : decode cX6_weights 32 = .ok (.iconst 0, 1) := by decide +kernel
theorem dX6_weights_33 : decode cX6_weights 33 = .ok (.bipush 99, 2) := by decide +kernel
theorem dX6_weights_35 : decode cX6_weights 35 = .ok (.invokestatic 64, 3) := by decide +kernel
theorem dX6_weights_38 : decode cX6_weights 38 = .ok (.ifCond .eq 26, 3) := by decide +kernel
theorem dX6_weights_41 : decode cX6_weights 41 = .ok (.iload 5, 2) := by decide +kernel
theorem dX6_weights_43 : decode cX6_weights 43 = .ok (.iconst 0, 1) := by decide +kernel
theorem dX6_weights_44 : decode cX6_weights 44 = .ok (.bipush 99, 2) := by decide +kernel
theorem dX6_weights_46 : decode cX6_weights 46 = .ok (.invokestatic 64, 3) := by decide +kernel
theorem dX6_weights_49 : decode cX6_weights 49 = .ok (.ifCond .eq 15, 3) := by decide +kernel
theorem dX6_weights_52 : decode cX6_weights 52 = .ok (.iload 6, 2) := by decide +kernel
theorem dX6_weights_54 : decode cX6_weights 54 = .ok (.iconst 0, 1) := by decide +kernel
theorem dX6_weights_55 : decode cX6_weights 55 = .ok (.sipush 999, 3) := by decide +kernel
theorem dX6_weights_58 : decode cX6_weights 58 = .ok (.invokestatic 64, 3) := by decide +kernel
theorem dX6_weights_61 : decode cX6_weights 61 = .ok (.ifCond .ne 5, 3) := by decide +kernel
theorem dX6_weights_64 : decode cX6_weights 64 = .ok (.iconst 0, 1) := by decide +kernel
theorem dX6_weights_65 : decode cX6_weights 65 = .ok (.ireturn, 1) := by decide +kernel
theorem dX6_weights_66 : decode cX6_weights 66 = .ok (.aload_n 0, 1) := by decide +kernel
theorem dX6_weights_67 : decode cX6_weights 67 = .ok (.getfield 28, 3) := by decide +kernel
theorem dX6_weights_70 : decode cX6_weights 70 = .ok (.iconst 0, 1) := by decide +kernel
theorem dX6_weights_71 : decode cX6_weights 71 = .ok (.iload_n 1, 1) := by decide +kernel
theorem dX6_weights_72 : decode cX6_weights 72 = .ok (.iastore, 1) := by decide +kernel
theorem dX6_weights_73 : decode cX6_weights 73 = .ok (.aload_n 0, 1) := by decide +kernel
theorem dX6_weights_74 : decode cX6_weights 74 = .ok (.getfield 28, 3) := by decide +kernel
theorem dX6_weights_77 : decode cX6_weights 77 = .ok (.iconst 1, 1) := by decide +kernel
theorem dX6_weights_78 : decode cX6_weights 78 = .ok (.iload_n 2, 1) := by decide +kernel
theorem dX6_weights_79 : decode cX6_weights 79 = .ok (.iastore, 1) := by decide +kernel
theorem dX6_weights_80 : decode cX6_weights 80 = .ok (.aload_n 0, 1) := by decide +kernel
theorem dX6_weights_81 : decode cX6_weights 81 = .ok (.getfield 28, 3) := by decide +kernel
theorem dX6_weights_84 : decode cX6_weights 84 = .ok (.iconst 2, 1) := by decide +kernel
theorem dX6_weights_85 : decode cX6_weights 85 = .ok (.iload_n 3, 1) := by decide +kernel
theorem dX6_weights_86 : decode cX6_weights 86 = .ok (.iastore, 1) := by decide +kernel
theorem dX6_weights_87 : decode cX6_weights 87 = .ok (.aload_n 0, 1) := by decide +kernel
theorem dX6_weights_88 : decode cX6_weights 88 = .ok (.getfield 28, 3) := by decide +kernel
theorem dX6_weights_91 : decode cX6_weights 91 = .ok (.iconst 3, 1) := by decide +kernel
theorem dX6_weights_92 : decode cX6_weights 92 = .ok (.iload 4, 2) := by decide +kernel
theorem dX6_weights_94 : decode cX6_weights 94 = .ok (.iastore, 1) := by decide +kernel
theorem dX6_weights_95 : decode cX6_weights 95 = .ok (.aload_n 0, 1) := by decide +kernel
theorem dX6_weights_96 : decode cX6_weights 96 = .ok (.getfield 28, 3) := by decide +kernel
theorem dX6_weights_99 : decode cX6_weights 99 = .ok (.iconst 4, 1) := by decide +kernel
theorem dX6_weights_100 : decode cX6_weights 100 = .ok (.iload 5, 2) := by decide +kernel
theorem dX6_weights_102 : decode cX6_weights 102 = .ok (.iastore, 1) := by decide +kernel
theorem dX6_weights_103 : decode cX6_weights 103 = .ok (.aload_n 0, 1) := by decide +kernel
theorem dX6_weights_104 : decode cX6_weights 104 = .ok (.getfield 28, 3) := by decide +kernel
theorem dX6_weights_107 : decode cX6_weights 107 = .ok (.iconst 5, 1) := by decide +kernel
theorem dX6_weights_108 : decode cX6_weights 108 = .ok (.iload 6, 2) := by decide +kernel
theorem dX6_weights_110 : decode cX6_weights 110 = .ok (.iastore, 1) := by decide +kernel
theorem dX6_weights_111 : decode cX6_weights 111 = .ok (.iconst 1, 1) := by decide +kernel
theorem dX6_weights_112 : decode cX6_weights 112 = .ok (.ireturn, 1) := by decide +kernel
theorem dX6_turnable_0 : decode cX6_turnable 0 = .ok (.aload_n 0, 1) := by decide +kernel
theorem dX6_turnable_1 : decode cX6_turnable 1 = .ok (.iload_n 1, 1) := by decide +kernel
theorem dX6_turnable_2 : decode cX6_turnable 2 = .ok (.putfield 31, 3) := by decide +kernel
theorem dX6_turnable_5 : decode cX6_turnable 5 = .ok (.return_, 1) := by decide +kernel
set_option maxRecDepth 20000 in
theorem ggX6_must_X6_isLeaf : GoodIn wsX6_must wsX6_isLeaf := goodIn_r _ [7, 8, 9, 10, 6, 11, 12, 13, 14, 15, 16, 17, 18, 19, 20, 21, 22, 23, 24, 25, 26, 27, 28, 29, 30, 31] (by decide +kernel) (by decide +kernel)
set_option maxRecDepth 20000 in
theorem gX6_must_X6_isLeaf : GoodIn wsX6_must (wsV RX6 68 RX6 yX6_isLeaf wsX6_isLeaf) := goodIn_app (goodIn_of _ (by decide +kernel)) ggX6_must_X6_isLeaf
theorem dX6_must_0 : decode cX6_must 0 = .ok (.aload_n 0, 1) := by decide +kernel
theorem dX6_must_1 : decode cX6_must 1 = .ok (.iload_n 1, 1) := by decide +kernel
theorem dX6_must_2 : decode cX6_must 2 = .ok (.invokevirtual 68, 3) := by decide +kernel
theorem dX6_must_5 : decode cX6_must 5 = .ok (.ifCond .eq 16, 3) := by decide +kernel
theorem dX6_must_8 : decode cX6_must 8 = .ok (.aload_n 0, 1) := by decide +kernel
theorem dX6_must_9 : decode cX6_must 9 = .ok (.iload_n 2, 1) := by decide +kernel
theorem dX6_must_10 : decode cX6_must 10 = .ok (.invokevirtual 68, 3) := by decide +kernel
theorem dX6_must_13 : decode cX6_must 13 = .ok (.ifCond .eq 8, 3) := by decide +kernel
theorem dX6_must_16 : decode cX6_must 16 = .ok (.iload_n 1, 1) := by decide +kernel
theorem dX6_must_17 : decode cX6_must 17 = .ok (.iload_n 2, 1) := by decide +kernel
theorem dX6_must_18 : decode cX6_must 18 = .ok (.if_icmp .ne 5, 3) := by decide +kernel
theorem dX6_must_21 : decode cX6_must 21 = .ok (.iconst 0, 1) := by decide +kernel
theorem dX6_must_22 : decode cX6_must 22 = .ok (.ireturn, 1) := by decide +kernel
theorem dX6_must_23 : decode cX6_must 23 = .ok (.iload_n 3, 1) := by decide +kernel
theorem dX6_must_24 : decode cX6_must 24 = .ok (.ifCond .eq 19, 3) := by decide +kernel
theorem dX6_must_27 : decode cX6_must 27 = .ok (.aload_n 0, 1) := by decide +kernel
theorem dX6_must_28 : decode cX6_must 28 = .ok (.getfield 39, 3) := by decide +kernel
theorem dX6_must_31 : decode cX6_must 31 = .ok (.bipush 9, 2) := by decide +kernel
theorem dX6_must_33 : decode cX6_must 33 = .ok (.iload_n 1, 1) := by decide +kernel
theorem dX6_must_34 : decode cX6_must 34 = .ok (.imul, 1) := by decide +kernel
theorem dX6_must_35 : decode cX6_must 35 = .ok (.iload_n 2, 1) := by decide +kernel
theorem dX6_must_36 : decode cX6_must 36 = .ok (.iadd, 1) := by decide +kernel
theorem dX6_must_37 : decode cX6_must 37 = .ok (.iload 4, 2) := by decide +kernel
theorem dX6_must_39 : decode cX6_must 39 = .ok (.bastore, 1) := by decide +kernel
theorem dX6_must_40 : decode cX6_must 40 = .ok (.goto 16, 3) := by decide +kernel
theorem dX6_must_43 : decode cX6_must 43 = .ok (.aload_n 0, 1) := by decide +kernel
theorem dX6_must_44 : decode cX6_must 44 = .ok (.getfield 35, 3) := by decide +kernel
theorem dX6_must_47 : decode cX6_must 47 = .ok (.bipush 9, 2) := by decide +kernel
theorem dX6_must_49 : decode cX6_must 49 = .ok (.iload_n 1, 1) := by decide +kernel
theorem dX6_must_50 : decode cX6_must 50 = .ok (.imul, 1) := by decide +kernel
theorem dX6_must_51 : decode cX6_must 51 = .ok (.iload_n 2, 1) := by decide +kernel
theorem dX6_must_52 : decode cX6_must 52 = .ok (.iadd, 1) := by decide +kernel
theorem dX6_must_53 : decode cX6_must 53 = .ok (.iload 4, 2) := by decide +kernel
theorem dX6_must_55 : decode cX6_must 55 = .ok (.bastore, 1) := by decide +kernel
theorem dX6_must_56 : decode cX6_must 56 = .ok (.iconst 1, 1) := by decide +kernel
theorem dX6_must_57 : decode cX6_must 57 = .ok (.ireturn, 1) := by decide +kernel
theorem dX6_apart_0 : decode cX6_apart 0 = .ok (.iload_n 0, 1) := by decide +kernel
theorem dX6_apart_1 : decode cX6_apart 1 = .ok (.iload_n 1, 1) := by decide +kernel
theorem dX6_apart_2 : decode cX6_apart 2 = .ok (.if_icmp .le 9, 3) := by decide +kernel
theorem dX6_apart_5 : decode cX6_apart 5 = .ok (.iload_n 0, 1) := by decide +kernel
theorem dX6_apart_6 : decode cX6_apart 6 = .ok (.iload_n 1, 1) := by decide +kernel
theorem dX6_apart_7 : decode cX6_apart 7 = .ok (.isub, 1) := by decide +kernel
theorem dX6_apart_8 : decode cX6_apart 8 = .ok (.goto 6, 3) := by decide +kernel
theorem dX6_apart_11 : decode cX6_apart 11 = .ok (.iload_n 1, 1) := by decide +kernel
theorem dX6_apart_12 : decode cX6_apart 12 = .ok (.iload_n 0, 1) := by decide +kernel
theorem dX6_apart_13 : decode cX6_apart 13 = .ok (.isub, 1) := by decide +kernel
theorem dX6_apart_14 : decode cX6_apart 14 = .ok (.ireturn, 1) := by decide +kernel
set_option maxRecDepth 20000 in
theorem ggX6_whole_X6_apart : GoodIn wsX6_whole wsX6_apart := goodIn_r _ [11] (by decide +kernel) (by decide +kernel)
set_option maxRecDepth 20000 in
theorem gX6_whole_X6_apart : GoodIn wsX6_whole (va_wsS RX6 72 yX6_apart wsX6_apart) := goodIn_app (goodIn_of _ (by decide +kernel)) ggX6_whole_X6_apart
theorem dX6_whole_0 : decode cX6_whole 0 = .ok (.iconst 2, 1) := by decide +kernel
theorem dX6_whole_1 : decode cX6_whole 1 = .ok (.iload_n 1, 1) := by decide +kernel
theorem dX6_whole_2 : decode cX6_whole 2 = .ok (.imul, 1) := by decide +kernel
theorem dX6_whole_3 : decode cX6_whole 3 = .ok (.iconst 1, 1) := by decide +kernel
theorem dX6_whole_4 : decode cX6_whole 4 = .ok (.iadd, 1) := by decide +kernel
theorem dX6_whole_5 : decode cX6_whole 5 = .ok (.iload_n 2, 1) := by decide +kernel
theorem dX6_whole_6 : decode cX6_whole 6 = .ok (.isub, 1) := by decide +kernel
theorem dX6_whole_7 : decode cX6_whole 7 = .ok (.istore 5, 2) := by decide +kernel
theorem dX6_whole_9 : decode cX6_whole 9 = .ok (.iconst 2, 1) := by decide +kernel
theorem dX6_whole_10 : decode cX6_whole 10 = .ok (.iload_n 3, 1) := by decide +kernel
theorem dX6_whole_11 : decode cX6_whole 11 = .ok (.imul, 1) := by decide +kernel
theorem dX6_whole_12 : decode cX6_whole 12 = .ok (.iload 4, 2) := by decide +kernel
theorem dX6_whole_14 : decode cX6_whole 14 = .ok (.iadd, 1) := by decide +kernel
theorem dX6_whole_15 : decode cX6_whole 15 = .ok (.istore 6, 2) := by decide +kernel
theorem dX6_whole_17 : decode cX6_whole 17 = .ok (.aload_n 0, 1) := by decide +kernel
theorem dX6_whole_18 : decode cX6_whole 18 = .ok (.getfield 28, 3) := by decide +kernel
theorem dX6_whole_21 : decode cX6_whole 21 = .ok (.iconst 0, 1) := by decide +kernel
theorem dX6_whole_22 : decode cX6_whole 22 = .ok (.iaload, 1) := by decide +kernel
theorem dX6_whole_23 : decode cX6_whole 23 = .ok (.aload_n 0, 1) := by decide +kernel
theorem dX6_whole_24 : decode cX6_whole 24 = .ok (.getfield 13, 3) := by decide +kernel
theorem dX6_whole_27 : decode cX6_whole 27 = .ok (.iload 5, 2) := by decide +kernel
theorem dX6_whole_29 : decode cX6_whole 29 = .ok (.iaload, 1) := by decide +kernel
theorem dX6_whole_30 : decode cX6_whole 30 = .ok (.aload_n 0, 1) := by decide +kernel
theorem dX6_whole_31 : decode cX6_whole 31 = .ok (.getfield 7, 3) := by decide +kernel
theorem dX6_whole_34 : decode cX6_whole 34 = .ok (.iload 6, 2) := by decide +kernel
theorem dX6_whole_36 : decode cX6_whole 36 = .ok (.iaload, 1) := by decide +kernel
theorem dX6_whole_37 : decode cX6_whole 37 = .ok (.invokestatic 72, 3) := by decide +kernel
theorem dX6_whole_40 : decode cX6_whole 40 = .ok (.imul, 1) := by decide +kernel
theorem dX6_whole_41 : decode cX6_whole 41 = .ok (.istore 7, 2) := by decide +kernel
theorem dX6_whole_43 : decode cX6_whole 43 = .ok (.iload 7, 2) := by decide +kernel
theorem dX6_whole_45 : decode cX6_whole 45 = .ok (.aload_n 0, 1) := by decide +kernel
theorem dX6_whole_46 : decode cX6_whole 46 = .ok (.getfield 16, 3) := by decide +kernel
theorem dX6_whole_49 : decode cX6_whole 49 = .ok (.iload 5, 2) := by decide +kernel
theorem dX6_whole_51 : decode cX6_whole 51 = .ok (.iaload, 1) := by decide +kernel
theorem dX6_whole_52 : decode cX6_whole 52 = .ok (.iconst (-1), 1) := by decide +kernel
theorem dX6_whole_53 : decode cX6_whole 53 = .ok (.if_icmp .eq 29, 3) := by decide +kernel
theorem dX6_whole_56 : decode cX6_whole 56 = .ok (.aload_n 0, 1) := by decide +kernel
theorem dX6_whole_57 : decode cX6_whole 57 = .ok (.getfield 16, 3) := by decide +kernel
theorem dX6_whole_60 : decode cX6_whole 60 = .ok (.iload 5, 2) := by decide +kernel
theorem dX6_whole_62 : decode cX6_whole 62 = .ok (.iaload, 1) := by decide +kernel
theorem dX6_whole_63 : decode cX6_whole 63 = .ok (.aload_n 0, 1) := by decide +kernel
theorem dX6_whole_64 : decode cX6_whole 64 = .ok (.getfield 7, 3) := by decide +kernel
theorem dX6_whole_67 : decode cX6_whole 67 = .ok (.iload 6, 2) := by decide +kernel
theorem dX6_whole_69 : decode cX6_whole 69 = .ok (.iaload, 1) := by decide +kernel
theorem dX6_whole_70 : decode cX6_whole 70 = .ok (.if_icmp .eq 12, 3) := by decide +kernel
theorem dX6_whole_73 : decode cX6_whole 73 = .ok (.aload_n 0, 1) := by decide +kernel
theorem dX6_whole_74 : decode cX6_whole 74 = .ok (.getfield 28, 3) := by decide +kernel
theorem dX6_whole_77 : decode cX6_whole 77 = .ok (.iconst 2, 1) := by decide +kernel
theorem dX6_whole_78 : decode cX6_whole 78 = .ok (.iaload, 1) := by decide +kernel
theorem dX6_whole_79 : decode cX6_whole 79 = .ok (.goto 4, 3) := by decide +kernel
theorem dX6_whole_82 : decode cX6_whole 82 = .ok (.iconst 0, 1) := by decide +kernel
theorem dX6_whole_83 : decode cX6_whole 83 = .ok (.iadd, 1) := by decide +kernel
theorem dX6_whole_84 : decode cX6_whole 84 = .ok (.istore 7, 2) := by decide +kernel
theorem dX6_whole_86 : decode cX6_whole 86 = .ok (.iload 7, 2) := by decide +kernel
theorem dX6_whole_88 : decode cX6_whole 88 = .ok (.aload_n 0, 1) := by decide +kernel
theorem dX6_whole_89 : decode cX6_whole 89 = .ok (.getfield 22, 3) := by decide +kernel
theorem dX6_whole_92 : decode cX6_whole 92 = .ok (.iload 5, 2) := by decide +kernel
theorem dX6_whole_94 : decode cX6_whole 94 = .ok (.iaload, 1) := by decide +kernel
theorem dX6_whole_95 : decode cX6_whole 95 = .ok (.aload_n 0, 1) := by decide +kernel
theorem dX6_whole_96 : decode cX6_whole 96 = .ok (.getfield 19, 3) := by decide +kernel
theorem dX6_whole_99 : decode cX6_whole 99 = .ok (.iload 6, 2) := by decide +kernel
theorem dX6_whole_101 : decode cX6_whole 101 = .ok (.iaload, 1) := by decide +kernel
theorem dX6_whole_102 : decode cX6_whole 102 = .ok (.if_icmp .eq 12, 3) := by decide +kernel
theorem dX6_whole_105 : decode cX6_whole 105 = .ok (.aload_n 0, 1) := by decide +kernel
theorem dX6_whole_106 : decode cX6_whole 106 = .ok (.getfield 28, 3) := by decide +kernel
theorem dX6_whole_109 : decode cX6_whole 109 = .ok (.iconst 3, 1) := by decide +kernel
theorem dX6_whole_110 : decode cX6_whole 110 = .ok (.iaload, 1) := by decide +kernel
theorem dX6_whole_111 : decode cX6_whole 111 = .ok (.goto 4, 3) := by decide +kernel
theorem dX6_whole_114 : decode cX6_whole 114 = .ok (.iconst 0, 1) := by decide +kernel
theorem dX6_whole_115 : decode cX6_whole 115 = .ok (.iadd, 1) := by decide +kernel
theorem dX6_whole_116 : decode cX6_whole 116 = .ok (.istore 7, 2) := by decide +kernel
theorem dX6_whole_118 : decode cX6_whole 118 = .ok (.iconst 0, 1) := by decide +kernel
theorem dX6_whole_119 : decode cX6_whole 119 = .ok (.istore 8, 2) := by decide +kernel
theorem dX6_whole_121 : decode cX6_whole 121 = .ok (.iload 8, 2) := by decide +kernel
theorem dX6_whole_123 : decode cX6_whole 123 = .ok (.iconst 3, 1) := by decide +kernel
theorem dX6_whole_124 : decode cX6_whole 124 = .ok (.if_icmp .ge 46, 3) := by decide +kernel
theorem dX6_whole_127 : decode cX6_whole 127 = .ok (.iload 7, 2) := by decide +kernel
theorem dX6_whole_129 : decode cX6_whole 129 = .ok (.aload_n 0, 1) := by decide +kernel
theorem dX6_whole_130 : decode cX6_whole 130 = .ok (.getfield 28, 3) := by decide +kernel
theorem dX6_whole_133 : decode cX6_whole 133 = .ok (.iconst 1, 1) := by decide +kernel
theorem dX6_whole_134 : decode cX6_whole 134 = .ok (.iaload, 1) := by decide +kernel
theorem dX6_whole_135 : decode cX6_whole 135 = .ok (.aload_n 0, 1) := by decide +kernel
theorem dX6_whole_136 : decode cX6_whole 136 = .ok (.getfield 25, 3) := by decide +kernel
theorem dX6_whole_139 : decode cX6_whole 139 = .ok (.iconst 3, 1) := by decide +kernel
theorem dX6_whole_140 : decode cX6_whole 140 = .ok (.iload_n 1, 1) := by decide +kernel
theorem dX6_whole_141 : decode cX6_whole 141 = .ok (.imul, 1) := by decide +kernel
theorem dX6_whole_142 : decode cX6_whole 142 = .ok (.iload 8, 2) := by decide +kernel
theorem dX6_whole_144 : decode cX6_whole 144 = .ok (.iadd, 1) := by decide +kernel
theorem dX6_whole_145 : decode cX6_whole 145 = .ok (.iaload, 1) := by decide +kernel
theorem dX6_whole_146 : decode cX6_whole 146 = .ok (.aload_n 0, 1) := by decide +kernel
theorem dX6_whole_147 : decode cX6_whole 147 = .ok (.getfield 25, 3) := by decide +kernel
theorem dX6_whole_150 : decode cX6_whole 150 = .ok (.iconst 3, 1) := by decide +kernel
theorem dX6_whole_151 : decode cX6_whole 151 = .ok (.iload_n 3, 1) := by decide +kernel
theorem dX6_whole_152 : decode cX6_whole 152 = .ok (.imul, 1) := by decide +kernel
theorem dX6_whole_153 : decode cX6_whole 153 = .ok (.iload 8, 2) := by decide +kernel
theorem dX6_whole_155 : decode cX6_whole 155 = .ok (.iadd, 1) := by decide +kernel
theorem dX6_whole_156 : decode cX6_whole 156 = .ok (.iaload, 1) := by decide +kernel
theorem dX6_whole_157 : decode cX6_whole 157 = .ok (.invokestatic 72, 3) := by decide +kernel
theorem dX6_whole_160 : decode cX6_whole 160 = .ok (.imul, 1) := by decide +kernel
theorem dX6_whole_161 : decode cX6_whole 161 = .ok (.iadd, 1) := by decide +kernel
theorem dX6_whole_162 : decode cX6_whole 162 = .ok (.istore 7, 2) := by decide +kernel
theorem dX6_whole_164 : decode cX6_whole 164 = .ok (.iinc 8 1, 3) := by decide +kernel
theorem dX6_whole_167 : decode cX6_whole 167 = .ok (.goto (-46), 3) := by decide +kernel
theorem dX6_whole_170 : decode cX6_whole 170 = .ok (.iload 7, 2) := by decide +kernel
theorem dX6_whole_172 : decode cX6_whole 172 = .ok (.ireturn, 1) := by decide +kernel
set_option maxRecDepth 20000 in
theorem ggX6_isMissing_X6_whole : GoodIn wsX6_isMissing wsX6_whole := goodIn_r _ [6, 1, 7, 8, 9, 10, 11, 12, 13, 14, 5, 15, 16, 17, 18, 19, 20, 21, 22, 23, 24, 25, 26, 27, 28, 29, 30, 31, 32, 33, 34, 35] (by decide +kernel) (by decide +kernel)
set_option maxRecDepth 20000 in
theorem gX6_isMissing_X6_whole : GoodIn wsX6_isMissing (wsV RX6 76 RX6 yX6_whole wsX6_whole) := goodIn_app (goodIn_of _ (by decide +kernel)) ggX6_isMissing_X6_whole
theorem dX6_isMissing_0 : decode cX6_isMissing 0 = .ok (.aload_n 0, 1) := by decide +kernel
theorem dX6_isMissing_1 : decode cX6_isMissing 1 = .ok (.getfield 28, 3) := by decide +kernel
theorem dX6_isMissing_4 : decode cX6_isMissing 4 = .ok (.iconst 5, 1) := by decide +kernel
theorem dX6_isMissing_5 : decode cX6_isMissing 5 = .ok (.iaload, 1) := by decide +kernel
theorem dX6_isMissing_6 : decode cX6_isMissing 6 = .ok (.ifCond .le 25, 3) := by decide +kernel
theorem dX6_isMissing_9 : decode cX6_isMissing 9 = .ok (.aload_n 0, 1) := by decide +kernel
theorem dX6_isMissing_10 : decode cX6_isMissing 10 = .ok (.iload_n 1, 1) := by decide +kernel
theorem dX6_isMissing_11 : decode cX6_isMissing 11 = .ok (.iload_n 2, 1) := by decide +kernel
theorem dX6_isMissing_12 : decode cX6_isMissing 12 = .ok (.iload_n 3, 1) := by decide +kernel
theorem dX6_isMissing_13 : decode cX6_isMissing 13 = .ok (.iload 4, 2) := by decide +kernel
theorem dX6_isMissing_15 : decode cX6_isMissing 15 = .ok (.invokevirtual 76, 3) := by decide +kernel
theorem dX6_isMissing_18 : decode cX6_isMissing 18 = .ok (.aload_n 0, 1) := by decide +kernel
theorem dX6_isMissing_19 : decode cX6_isMissing 19 = .ok (.getfield 28, 3) := by decide +kernel
theorem dX6_isMissing_22 : decode cX6_isMissing 22 = .ok (.iconst 5, 1) := by decide +kernel
theorem dX6_isMissing_23 : decode cX6_isMissing 23 = .ok (.iaload, 1) := by decide +kernel
theorem dX6_isMissing_24 : decode cX6_isMissing 24 = .ok (.if_icmp .le 7, 3) := by decide +kernel
theorem dX6_isMissing_27 : decode cX6_isMissing 27 = .ok (.iconst 1, 1) := by decide +kernel
theorem dX6_isMissing_28 : decode cX6_isMissing 28 = .ok (.goto 4, 3) := by decide +kernel
theorem dX6_isMissing_31 : decode cX6_isMissing 31 = .ok (.iconst 0, 1) := by decide +kernel
theorem dX6_isMissing_32 : decode cX6_isMissing 32 = .ok (.ireturn, 1) := by decide +kernel
set_option maxRecDepth 20000 in
theorem ggX6_joins_X6_isMissing : GoodIn wsX6_joins wsX6_isMissing := goodIn_r _ [6, 1, 7, 8, 9, 5, 10, 11, 12, 13, 14, 15, 16, 17, 18, 19, 20, 21, 22, 23, 24, 25, 26, 27, 28, 29, 30, 31, 32, 33, 34, 35, 36, 37, 38, 39] (by decide +kernel) (by decide +kernel)
set_option maxRecDepth 20000 in
theorem gX6_joins_X6_isMissing : GoodIn wsX6_joins (wsV RX6 80 RX6 yX6_isMissing wsX6_isMissing) := goodIn_app (goodIn_of _ (by decide +kernel)) ggX6_joins_X6_isMissing
set_option maxRecDepth 20000 in
theorem ggX6_joins_X6_whole : GoodIn wsX6_joins wsX6_whole := goodIn_r _ [10, 1, 11, 12, 13, 14, 15, 16, 17, 18, 5, 19, 20, 21, 22, 23, 24, 25, 26, 27, 28, 29, 30, 31, 32, 33, 34, 35, 36, 37, 38, 39] (by decide +kernel) (by decide +kernel)
set_option maxRecDepth 20000 in
theorem gX6_joins_X6_whole : GoodIn wsX6_joins (wsV RX6 76 RX6 yX6_whole wsX6_whole) := goodIn_app (goodIn_of _ (by decide +kernel)) ggX6_joins_X6_whole
theorem dX6_joins_0 : decode cX6_joins 0 = .ok (.aload_n 0, 1) := by decide +kernel
theorem dX6_joins_1 : decode cX6_joins 1 = .ok (.iload_n 1, 1) := by decide +kernel
theorem dX6_joins_2 : decode cX6_joins 2 = .ok (.iload_n 2, 1) := by decide +kernel
theorem dX6_joins_3 : decode cX6_joins 3 = .ok (.iload_n 3, 1) := by decide +kernel
theorem dX6_joins_4 : decode cX6_joins 4 = .ok (.iload 4, 2) := by decide +kernel
theorem dX6_joins_6 : decode cX6_joins 6 = .ok (.invokevirtual 80, 3) := by decide +kernel
theorem dX6_joins_9 : decode cX6_joins 9 = .ok (.ifCond .eq 12, 3) := by decide +kernel
theorem dX6_joins_12 : decode cX6_joins 12 = .ok (.aload_n 0, 1) := by decide +kernel
theorem dX6_joins_13 : decode cX6_joins 13 = .ok (.getfield 28, 3) := by decide +kernel
theorem dX6_joins_16 : decode cX6_joins 16 = .ok (.iconst 5, 1) := by decide +kernel
theorem dX6_joins_17 : decode cX6_joins 17 = .ok (.iaload, 1) := by decide +kernel
theorem dX6_joins_18 : decode cX6_joins 18 = .ok (.goto 12, 3) := by decide +kernel
theorem dX6_joins_21 : decode cX6_joins 21 = .ok (.aload_n 0, 1) := by decide +kernel
theorem dX6_joins_22 : decode cX6_joins 22 = .ok (.iload_n 1, 1) := by decide +kernel
theorem dX6_joins_23 : decode cX6_joins 23 = .ok (.iload_n 2, 1) := by decide +kernel
theorem dX6_joins_24 : decode cX6_joins 24 = .ok (.iload_n 3, 1) := by decide +kernel
theorem dX6_joins_25 : decode cX6_joins 25 = .ok (.iload 4, 2) := by decide +kernel
theorem dX6_joins_27 : decode cX6_joins 27 = .ok (.invokevirtual 76, 3) := by decide +kernel
theorem dX6_joins_30 : decode cX6_joins 30 = .ok (.ireturn, 1) := by decide +kernel
set_option maxRecDepth 20000 in
theorem ggX6_join_X6_isLeaf : GoodIn wsX6_join wsX6_isLeaf := goodIn_r _ [6, 7, 8, 9, 5, 10, 33, 34, 35, 36, 37, 38, 39, 40, 41, 42, 43, 44, 45, 46, 47, 48, 49, 50, 51, 52] (by decide +kernel) (by decide +kernel)
set_option maxRecDepth 20000 in
theorem gX6_join_X6_isLeaf : GoodIn wsX6_join (wsV RX6 68 RX6 yX6_isLeaf wsX6_isLeaf) := goodIn_app (goodIn_of _ (by decide +kernel)) ggX6_join_X6_isLeaf
set_option maxRecDepth 20000 in
theorem ggX6_join_X6_joins : GoodIn wsX6_join wsX6_joins := goodIn_r _ [14, 15, 16, 17, 18, 5, 19, 20, 21, 22, 23, 24, 25, 26, 27, 28, 29, 30, 31, 32, 33, 34, 35, 36, 37, 38, 39, 40, 41, 42, 43, 44, 45, 46, 47, 48, 49, 50, 51, 52] (by decide +kernel) (by decide +kernel)
set_option maxRecDepth 20000 in
theorem gX6_join_X6_joins : GoodIn wsX6_join (wsV RX6 84 RX6 yX6_joins wsX6_joins) := goodIn_app (goodIn_of _ (by decide +kernel)) ggX6_join_X6_joins
theorem dX6_join_0 : decode cX6_join 0 = .ok (.aload_n 0, 1) := by decide +kernel
theorem dX6_join_1 : decode cX6_join 1 = .ok (.iload_n 1, 1) := by decide +kernel
theorem dX6_join_2 : decode cX6_join 2 = .ok (.invokevirtual 68, 3) := by decide +kernel
theorem dX6_join_5 : decode cX6_join 5 = .ok (.ifCond .eq 32, 3) := by decide +kernel
theorem dX6_join_8 : decode cX6_join 8 = .ok (.aload_n 0, 1) := by decide +kernel
theorem dX6_join_9 : decode cX6_join 9 = .ok (.iload_n 3, 1) := by decide +kernel
theorem dX6_join_10 : decode cX6_join 10 = .ok (.invokevirtual 68, 3) := by decide +kernel
theorem dX6_join_13 : decode cX6_join 13 = .ok (.ifCond .eq 24, 3) := by decide +kernel
theorem dX6_join_16 : decode cX6_join 16 = .ok (.iload_n 1, 1) := by decide +kernel
theorem dX6_join_17 : decode cX6_join 17 = .ok (.iload_n 3, 1) := by decide +kernel
theorem dX6_join_18 : decode cX6_join 18 = .ok (.if_icmp .eq 19, 3) := by decide +kernel
theorem dX6_join_21 : decode cX6_join 21 = .ok (.aload_n 0, 1) := by decide +kernel
theorem dX6_join_22 : decode cX6_join 22 = .ok (.getfield 31, 3) := by decide +kernel
theorem dX6_join_25 : decode cX6_join 25 = .ok (.ifCond .ne 14, 3) := by decide +kernel
theorem dX6_join_28 : decode cX6_join 28 = .ok (.iload_n 2, 1) := by decide +kernel
theorem dX6_join_29 : decode cX6_join 29 = .ok (.ifCond .ne 8, 3) := by decide +kernel
theorem dX6_join_32 : decode cX6_join 32 = .ok (.iload 4, 2) := by decide +kernel
theorem dX6_join_34 : decode cX6_join 34 = .ok (.ifCond .eq 5, 3) := by decide +kernel
theorem dX6_join_37 : decode cX6_join 37 = .ok (.iconst (-1), 1) := by decide +kernel
theorem dX6_join_38 : decode cX6_join 38 = .ok (.ireturn, 1) := by decide +kernel
theorem dX6_join_39 : decode cX6_join 39 = .ok (.aload_n 0, 1) := by decide +kernel
theorem dX6_join_40 : decode cX6_join 40 = .ok (.iload_n 1, 1) := by decide +kernel
theorem dX6_join_41 : decode cX6_join 41 = .ok (.iload_n 2, 1) := by decide +kernel
theorem dX6_join_42 : decode cX6_join 42 = .ok (.ifCond .eq 7, 3) := by decide +kernel
theorem dX6_join_45 : decode cX6_join 45 = .ok (.iconst 1, 1) := by decide +kernel
theorem dX6_join_46 : decode cX6_join 46 = .ok (.goto 4, 3) := by decide +kernel
theorem dX6_join_49 : decode cX6_join 49 = .ok (.iconst 0, 1) := by decide +kernel
theorem dX6_join_50 : decode cX6_join 50 = .ok (.iload_n 3, 1) := by decide +kernel
theorem dX6_join_51 : decode cX6_join 51 = .ok (.iload 4, 2) := by decide +kernel
theorem dX6_join_53 : decode cX6_join 53 = .ok (.ifCond .eq 7, 3) := by decide +kernel
theorem dX6_join_56 : decode cX6_join 56 = .ok (.iconst 1, 1) := by decide +kernel
theorem dX6_join_57 : decode cX6_join 57 = .ok (.goto 4, 3) := by decide +kernel
theorem dX6_join_60 : decode cX6_join 60 = .ok (.iconst 0, 1) := by decide +kernel
theorem dX6_join_61 : decode cX6_join 61 = .ok (.invokevirtual 84, 3) := by decide +kernel
theorem dX6_join_64 : decode cX6_join 64 = .ok (.ireturn, 1) := by decide +kernel
theorem dX6_mayFollow_0 : decode cX6_mayFollow 0 = .ok (.iconst 0, 1) := by decide +kernel
theorem dX6_mayFollow_1 : decode cX6_mayFollow 1 = .ok (.istore 4, 2) := by decide +kernel
theorem dX6_mayFollow_3 : decode cX6_mayFollow 3 = .ok (.iload 4, 2) := by decide +kernel
theorem dX6_mayFollow_5 : decode cX6_mayFollow 5 = .ok (.aload_n 0, 1) := by decide +kernel
theorem dX6_mayFollow_6 : decode cX6_mayFollow 6 = .ok (.getfield 61, 3) := by decide +kernel
theorem dX6_mayFollow_9 : decode cX6_mayFollow 9 = .ok (.if_icmp .ge 74, 3) := by decide +kernel
theorem dX6_mayFollow_12 : decode cX6_mayFollow 12 = .ok (.iload_n 1, 1) := by decide +kernel
theorem dX6_mayFollow_13 : decode cX6_mayFollow 13 = .ok (.iload 4, 2) := by decide +kernel
theorem dX6_mayFollow_15 : decode cX6_mayFollow 15 = .ok (.ishr, 1) := by decide +kernel
theorem dX6_mayFollow_16 : decode cX6_mayFollow 16 = .ok (.iconst 1, 1) := by decide +kernel
theorem dX6_mayFollow_17 : decode cX6_mayFollow 17 = .ok (.iand, 1) := by decide +kernel
theorem dX6_mayFollow_18 : decode cX6_mayFollow 18 = .ok (.ifCond .ne 6, 3) := by decide +kernel
theorem dX6_mayFollow_21 : decode cX6_mayFollow 21 = .ok (.goto 56, 3) := by decide +kernel
theorem dX6_mayFollow_24 : decode cX6_mayFollow 24 = .ok (.aload_n 0, 1) := by decide +kernel
theorem dX6_mayFollow_25 : decode cX6_mayFollow 25 = .ok (.getfield 35, 3) := by decide +kernel
theorem dX6_mayFollow_28 : decode cX6_mayFollow 28 = .ok (.bipush 9, 2) := by decide +kernel
theorem dX6_mayFollow_30 : decode cX6_mayFollow 30 = .ok (.iload_n 3, 1) := by decide +kernel
theorem dX6_mayFollow_31 : decode cX6_mayFollow 31 = .ok (.imul, 1) := by decide +kernel
theorem dX6_mayFollow_32 : decode cX6_mayFollow 32 = .ok (.iload 4, 2) := by decide +kernel
theorem dX6_mayFollow_34 : decode cX6_mayFollow 34 = .ok (.iadd, 1) := by decide +kernel
theorem dX6_mayFollow_35 : decode cX6_mayFollow 35 = .ok (.baload, 1) := by decide +kernel
theorem dX6_mayFollow_36 : decode cX6_mayFollow 36 = .ok (.ifCond .ne 39, 3) := by decide +kernel
theorem dX6_mayFollow_39 : decode cX6_mayFollow 39 = .ok (.aload_n 0, 1) := by decide +kernel
theorem dX6_mayFollow_40 : decode cX6_mayFollow 40 = .ok (.getfield 39, 3) := by decide +kernel
theorem dX6_mayFollow_43 : decode cX6_mayFollow 43 = .ok (.bipush 9, 2) := by decide +kernel
theorem dX6_mayFollow_45 : decode cX6_mayFollow 45 = .ok (.iload_n 3, 1) := by decide +kernel
theorem dX6_mayFollow_46 : decode cX6_mayFollow 46 = .ok (.imul, 1) := by decide +kernel
theorem dX6_mayFollow_47 : decode cX6_mayFollow 47 = .ok (.iload 4, 2) := by decide +kernel
theorem dX6_mayFollow_49 : decode cX6_mayFollow 49 = .ok (.iadd, 1) := by decide +kernel
theorem dX6_mayFollow_50 : decode cX6_mayFollow 50 = .ok (.baload, 1) := by decide +kernel
theorem dX6_mayFollow_51 : decode cX6_mayFollow 51 = .ok (.ifCond .ne 24, 3) := by decide +kernel
theorem dX6_mayFollow_54 : decode cX6_mayFollow 54 = .ok (.aload_n 0, 1) := by decide +kernel
theorem dX6_mayFollow_55 : decode cX6_mayFollow 55 = .ok (.getfield 39, 3) := by decide +kernel
theorem dX6_mayFollow_58 : decode cX6_mayFollow 58 = .ok (.bipush 9, 2) := by decide +kernel
theorem dX6_mayFollow_60 : decode cX6_mayFollow 60 = .ok (.iload 4, 2) := by decide +kernel
theorem dX6_mayFollow_62 : decode cX6_mayFollow 62 = .ok (.imul, 1) := by decide +kernel
theorem dX6_mayFollow_63 : decode cX6_mayFollow 63 = .ok (.iload_n 3, 1) := by decide +kernel
theorem dX6_mayFollow_64 : decode cX6_mayFollow 64 = .ok (.iadd, 1) := by decide +kernel
theorem dX6_mayFollow_65 : decode cX6_mayFollow 65 = .ok (.baload, 1) := by decide +kernel
theorem dX6_mayFollow_66 : decode cX6_mayFollow 66 = .ok (.ifCond .eq 11, 3) := by decide +kernel
theorem dX6_mayFollow_69 : decode cX6_mayFollow 69 = .ok (.iload 4, 2) := by decide +kernel
theorem dX6_mayFollow_71 : decode cX6_mayFollow 71 = .ok (.iload_n 2, 1) := by decide +kernel
theorem dX6_mayFollow_72 : decode cX6_mayFollow 72 = .ok (.if_icmp .eq 5, 3) := by decide +kernel
theorem dX6_mayFollow_75 : decode cX6_mayFollow 75 = .ok (.iconst 0, 1) := by decide +kernel
theorem dX6_mayFollow_76 : decode cX6_mayFollow 76 = .ok (.ireturn, 1) := by decide +kernel
theorem dX6_mayFollow_77 : decode cX6_mayFollow 77 = .ok (.iinc 4 1, 3) := by decide +kernel
theorem dX6_mayFollow_80 : decode cX6_mayFollow 80 = .ok (.goto (-77), 3) := by decide +kernel
theorem dX6_mayFollow_83 : decode cX6_mayFollow 83 = .ok (.iload_n 2, 1) := by decide +kernel
theorem dX6_mayFollow_84 : decode cX6_mayFollow 84 = .ok (.aload_n 0, 1) := by decide +kernel
theorem dX6_mayFollow_85 : decode cX6_mayFollow 85 = .ok (.getfield 48, 3) := by decide +kernel
theorem dX6_mayFollow_88 : decode cX6_mayFollow 88 = .ok (.if_icmp .ne 16, 3) := by decide +kernel
theorem dX6_mayFollow_91 : decode cX6_mayFollow 91 = .ok (.iload_n 3, 1) := by decide +kernel
theorem dX6_mayFollow_92 : decode cX6_mayFollow 92 = .ok (.aload_n 0, 1) := by decide +kernel
theorem dX6_mayFollow_93 : decode cX6_mayFollow 93 = .ok (.getfield 52, 3) := by decide +kernel
theorem dX6_mayFollow_96 : decode cX6_mayFollow 96 = .ok (.if_icmp .ne 8, 3) := by decide +kernel
theorem dX6_mayFollow_99 : decode cX6_mayFollow 99 = .ok (.iload_n 2, 1) := by decide +kernel
theorem dX6_mayFollow_100 : decode cX6_mayFollow 100 = .ok (.iconst (-1), 1) := by decide +kernel
theorem dX6_mayFollow_101 : decode cX6_mayFollow 101 = .ok (.if_icmp .ne 7, 3) := by decide +kernel
theorem dX6_mayFollow_104 : decode cX6_mayFollow 104 = .ok (.iconst 1, 1) := by decide +kernel
theorem dX6_mayFollow_105 : decode cX6_mayFollow 105 = .ok (.goto 4, 3) := by decide +kernel
theorem dX6_mayFollow_108 : decode cX6_mayFollow 108 = .ok (.iconst 0, 1) := by decide +kernel
theorem dX6_mayFollow_109 : decode cX6_mayFollow 109 = .ok (.ireturn, 1) := by decide +kernel
theorem dX6_keeps_0 : decode cX6_keeps 0 = .ok (.iload_n 2, 1) := by decide +kernel
theorem dX6_keeps_1 : decode cX6_keeps 1 = .ok (.aload_n 0, 1) := by decide +kernel
theorem dX6_keeps_2 : decode cX6_keeps 2 = .ok (.getfield 42, 3) := by decide +kernel
theorem dX6_keeps_5 : decode cX6_keeps 5 = .ok (.iload_n 1, 1) := by decide +kernel
theorem dX6_keeps_6 : decode cX6_keeps 6 = .ok (.iaload, 1) := by decide +kernel
theorem dX6_keeps_7 : decode cX6_keeps 7 = .ok (.if_icmp .ge 25, 3) := by decide +kernel
theorem dX6_keeps_10 : decode cX6_keeps 10 = .ok (.aload_n 0, 1) := by decide +kernel
theorem dX6_keeps_11 : decode cX6_keeps 11 = .ok (.getfield 45, 3) := by decide +kernel
theorem dX6_keeps_14 : decode cX6_keeps 14 = .ok (.iload_n 1, 1) := by decide +kernel
theorem dX6_keeps_15 : decode cX6_keeps 15 = .ok (.aload_n 0, 1) := by decide +kernel
theorem dX6_keeps_16 : decode cX6_keeps 16 = .ok (.getfield 42, 3) := by decide +kernel
theorem dX6_keeps_19 : decode cX6_keeps 19 = .ok (.iload_n 1, 1) := by decide +kernel
theorem dX6_keeps_20 : decode cX6_keeps 20 = .ok (.iaload, 1) := by decide +kernel
theorem dX6_keeps_21 : decode cX6_keeps 21 = .ok (.iastore, 1) := by decide +kernel
theorem dX6_keeps_22 : decode cX6_keeps 22 = .ok (.aload_n 0, 1) := by decide +kernel
theorem dX6_keeps_23 : decode cX6_keeps 23 = .ok (.getfield 42, 3) := by decide +kernel
theorem dX6_keeps_26 : decode cX6_keeps 26 = .ok (.iload_n 1, 1) := by decide +kernel
theorem dX6_keeps_27 : decode cX6_keeps 27 = .ok (.iload_n 2, 1) := by decide +kernel
theorem dX6_keeps_28 : decode cX6_keeps 28 = .ok (.iastore, 1) := by decide +kernel
theorem dX6_keeps_29 : decode cX6_keeps 29 = .ok (.goto 20, 3) := by decide +kernel
theorem dX6_keeps_32 : decode cX6_keeps 32 = .ok (.iload_n 2, 1) := by decide +kernel
theorem dX6_keeps_33 : decode cX6_keeps 33 = .ok (.aload_n 0, 1) := by decide +kernel
theorem dX6_keeps_34 : decode cX6_keeps 34 = .ok (.getfield 45, 3) := by decide +kernel
theorem dX6_keeps_37 : decode cX6_keeps 37 = .ok (.iload_n 1, 1) := by decide +kernel
theorem dX6_keeps_38 : decode cX6_keeps 38 = .ok (.iaload, 1) := by decide +kernel
theorem dX6_keeps_39 : decode cX6_keeps 39 = .ok (.if_icmp .ge 10, 3) := by decide +kernel
theorem dX6_keeps_42 : decode cX6_keeps 42 = .ok (.aload_n 0, 1) := by decide +kernel
theorem dX6_keeps_43 : decode cX6_keeps 43 = .ok (.getfield 45, 3) := by decide +kernel
theorem dX6_keeps_46 : decode cX6_keeps 46 = .ok (.iload_n 1, 1) := by decide +kernel
theorem dX6_keeps_47 : decode cX6_keeps 47 = .ok (.iload_n 2, 1) := by decide +kernel
theorem dX6_keeps_48 : decode cX6_keeps 48 = .ok (.iastore, 1) := by decide +kernel
theorem dX6_keeps_49 : decode cX6_keeps 49 = .ok (.return_, 1) := by decide +kernel
theorem dX6_stands_0 : decode cX6_stands 0 = .ok (.bipush 18, 2) := by decide +kernel
theorem dX6_stands_2 : decode cX6_stands 2 = .ok (.iload_n 1, 1) := by decide +kernel
theorem dX6_stands_3 : decode cX6_stands 3 = .ok (.imul, 1) := by decide +kernel
theorem dX6_stands_4 : decode cX6_stands 4 = .ok (.iconst 2, 1) := by decide +kernel
theorem dX6_stands_5 : decode cX6_stands 5 = .ok (.iload_n 2, 1) := by decide +kernel
theorem dX6_stands_6 : decode cX6_stands 6 = .ok (.imul, 1) := by decide +kernel
theorem dX6_stands_7 : decode cX6_stands 7 = .ok (.iadd, 1) := by decide +kernel
theorem dX6_stands_8 : decode cX6_stands 8 = .ok (.iload_n 3, 1) := by decide +kernel
theorem dX6_stands_9 : decode cX6_stands 9 = .ok (.iadd, 1) := by decide +kernel
theorem dX6_stands_10 : decode cX6_stands 10 = .ok (.ireturn, 1) := by decide +kernel
set_option maxRecDepth 20000 in
theorem ggX6_orders_X6_stands : GoodIn wsX6_orders wsX6_stands := goodIn_r _ [11] (by decide +kernel) (by decide +kernel)
set_option maxRecDepth 20000 in
theorem gX6_orders_X6_stands : GoodIn wsX6_orders (wsV RX6 88 RX6 yX6_stands wsX6_stands) := goodIn_app (goodIn_of _ (by decide +kernel)) ggX6_orders_X6_stands
set_option maxRecDepth 20000 in
theorem ggX6_orders_X6_goesOn : GoodIn wsX6_orders wsX6_goesOn := goodIn_r _ [15, 1, 6, 4, 16, 17, 18, 10, 19, 20, 21, 22, 23, 24, 25, 26, 27, 28, 29, 30, 31, 32, 33, 34, 35, 36, 37, 38, 39, 40, 41, 42, 43, 44, 7, 8, 9, 11, 45, 46, 47, 48, 3, 5, 49, 50, 51, 52, 53, 54, 55, 56, 57, 58, 59, 60, 61, 62, 63, 64, 65, 66, 67, 68] (by decide +kernel) (by decide +kernel)
set_option maxRecDepth 20000 in
theorem gX6_orders_X6_goesOn : GoodIn wsX6_orders (wsV RX6 92 RX6 yX6_goesOn wsX6_goesOn) := goodIn_app (goodIn_of _ (by decide +kernel)) ggX6_orders_X6_goesOn
theorem dX6_orders_0 : decode cX6_orders 0 = .ok (.iconst 1, 1) := by decide +kernel
theorem dX6_orders_1 : decode cX6_orders 1 = .ok (.aload_n 0, 1) := by decide +kernel
theorem dX6_orders_2 : decode cX6_orders 2 = .ok (.getfield 61, 3) := by decide +kernel
theorem dX6_orders_5 : decode cX6_orders 5 = .ok (.ishl, 1) := by decide +kernel
theorem dX6_orders_6 : decode cX6_orders 6 = .ok (.istore_n 1, 1) := by decide +kernel
theorem dX6_orders_7 : decode cX6_orders 7 = .ok (.aload_n 0, 1) := by decide +kernel
theorem dX6_orders_8 : decode cX6_orders 8 = .ok (.getfield 31, 3) := by decide +kernel
theorem dX6_orders_11 : decode cX6_orders 11 = .ok (.ifCond .eq 7, 3) := by decide +kernel
theorem dX6_orders_14 : decode cX6_orders 14 = .ok (.iconst 2, 1) := by decide +kernel
theorem dX6_orders_15 : decode cX6_orders 15 = .ok (.goto 4, 3) := by decide +kernel
theorem dX6_orders_18 : decode cX6_orders 18 = .ok (.iconst 1, 1) := by decide +kernel
theorem dX6_orders_19 : decode cX6_orders 19 = .ok (.istore_n 2, 1) := by decide +kernel
theorem dX6_orders_20 : decode cX6_orders 20 = .ok (.iconst 0, 1) := by decide +kernel
theorem dX6_orders_21 : decode cX6_orders 21 = .ok (.istore_n 3, 1) := by decide +kernel
theorem dX6_orders_22 : decode cX6_orders 22 = .ok (.iload_n 3, 1) := by decide +kernel
theorem dX6_orders_23 : decode cX6_orders 23 = .ok (.bipush 18, 2) := by decide +kernel
theorem dX6_orders_25 : decode cX6_orders 25 = .ok (.iload_n 1, 1) := by decide +kernel
theorem dX6_orders_26 : decode cX6_orders 26 = .ok (.imul, 1) := by decide +kernel
theorem dX6_orders_27 : decode cX6_orders 27 = .ok (.if_icmp .ge 25, 3) := by decide +kernel
theorem dX6_orders_30 : decode cX6_orders 30 = .ok (.aload_n 0, 1) := by decide +kernel
theorem dX6_orders_31 : decode cX6_orders 31 = .ok (.getfield 42, 3) := by decide +kernel
theorem dX6_orders_34 : decode cX6_orders 34 = .ok (.iload_n 3, 1) := by decide +kernel
theorem dX6_orders_35 : decode cX6_orders 35 = .ok (.ldc 87, 2) := by decide +kernel
theorem dX6_orders_37 : decode cX6_orders 37 = .ok (.iastore, 1) := by decide +kernel
theorem dX6_orders_38 : decode cX6_orders 38 = .ok (.aload_n 0, 1) := by decide +kernel
theorem dX6_orders_39 : decode cX6_orders 39 = .ok (.getfield 45, 3) := by decide +kernel
theorem dX6_orders_42 : decode cX6_orders 42 = .ok (.iload_n 3, 1) := by decide +kernel
theorem dX6_orders_43 : decode cX6_orders 43 = .ok (.ldc 87, 2) := by decide +kernel
theorem dX6_orders_45 : decode cX6_orders 45 = .ok (.iastore, 1) := by decide +kernel
theorem dX6_orders_46 : decode cX6_orders 46 = .ok (.iinc 3 1, 3) := by decide +kernel
theorem dX6_orders_49 : decode cX6_orders 49 = .ok (.goto (-27), 3) := by decide +kernel
theorem dX6_orders_52 : decode cX6_orders 52 = .ok (.iconst 0, 1) := by decide +kernel
theorem dX6_orders_53 : decode cX6_orders 53 = .ok (.istore_n 3, 1) := by decide +kernel
theorem dX6_orders_54 : decode cX6_orders 54 = .ok (.iload_n 3, 1) := by decide +kernel
theorem dX6_orders_55 : decode cX6_orders 55 = .ok (.aload_n 0, 1) := by decide +kernel
theorem dX6_orders_56 : decode cX6_orders 56 = .ok (.getfield 61, 3) := by decide +kernel
theorem dX6_orders_59 : decode cX6_orders 59 = .ok (.if_icmp .ge 48, 3) := by decide +kernel
theorem dX6_orders_62 : decode cX6_orders 62 = .ok (.iconst 0, 1) := by decide +kernel
theorem dX6_orders_63 : decode cX6_orders 63 = .ok (.istore 4, 2) := by decide +kernel
theorem dX6_orders_65 : decode cX6_orders 65 = .ok (.iload 4, 2) := by decide +kernel
theorem dX6_orders_67 : decode cX6_orders 67 = .ok (.iload_n 2, 1) := by decide +kernel
theorem dX6_orders_68 : decode cX6_orders 68 = .ok (.if_icmp .ge 33, 3) := by decide +kernel
theorem dX6_orders_71 : decode cX6_orders 71 = .ok (.aload_n 0, 1) := by decide +kernel
theorem dX6_orders_72 : decode cX6_orders 72 = .ok (.getfield 42, 3) := by decide +kernel
theorem dX6_orders_75 : decode cX6_orders 75 = .ok (.aload_n 0, 1) := by decide +kernel
theorem dX6_orders_76 : decode cX6_orders 76 = .ok (.iconst 1, 1) := by decide +kernel
theorem dX6_orders_77 : decode cX6_orders 77 = .ok (.iload_n 3, 1) := by decide +kernel
theorem dX6_orders_78 : decode cX6_orders 78 = .ok (.ishl, 1) := by decide +kernel
theorem dX6_orders_79 : decode cX6_orders 79 = .ok (.iload_n 3, 1) := by decide +kernel
theorem dX6_orders_80 : decode cX6_orders 80 = .ok (.iload 4, 2) := by decide +kernel
theorem dX6_orders_82 : decode cX6_orders 82 = .ok (.invokevirtual 88, 3) := by decide +kernel
theorem dX6_orders_85 : decode cX6_orders 85 = .ok (.iload 4, 2) := by decide +kernel
theorem dX6_orders_87 : decode cX6_orders 87 = .ok (.aload_n 0, 1) := by decide +kernel
theorem dX6_orders_88 : decode cX6_orders 88 = .ok (.getfield 28, 3) := by decide +kernel
theorem dX6_orders_91 : decode cX6_orders 91 = .ok (.iconst 4, 1) := by decide +kernel
theorem dX6_orders_92 : decode cX6_orders 92 = .ok (.iaload, 1) := by decide +kernel
theorem dX6_orders_93 : decode cX6_orders 93 = .ok (.imul, 1) := by decide +kernel
theorem dX6_orders_94 : decode cX6_orders 94 = .ok (.iastore, 1) := by decide +kernel
theorem dX6_orders_95 : decode cX6_orders 95 = .ok (.iinc 4 1, 3) := by decide +kernel
theorem dX6_orders_98 : decode cX6_orders 98 = .ok (.goto (-33), 3) := by decide +kernel
theorem dX6_orders_101 : decode cX6_orders 101 = .ok (.iinc 3 1, 3) := by decide +kernel
theorem dX6_orders_104 : decode cX6_orders 104 = .ok (.goto (-50), 3) := by decide +kernel
theorem dX6_orders_107 : decode cX6_orders 107 = .ok (.iconst 1, 1) := by decide +kernel
theorem dX6_orders_108 : decode cX6_orders 108 = .ok (.istore_n 3, 1) := by decide +kernel
theorem dX6_orders_109 : decode cX6_orders 109 = .ok (.iload_n 3, 1) := by decide +kernel
theorem dX6_orders_110 : decode cX6_orders 110 = .ok (.iload_n 1, 1) := by decide +kernel
theorem dX6_orders_111 : decode cX6_orders 111 = .ok (.if_icmp .ge 89, 3) := by decide +kernel
theorem dX6_orders_114 : decode cX6_orders 114 = .ok (.iconst 0, 1) := by decide +kernel
theorem dX6_orders_115 : decode cX6_orders 115 = .ok (.istore 4, 2) := by decide +kernel
theorem dX6_orders_117 : decode cX6_orders 117 = .ok (.iload 4, 2) := by decide +kernel
theorem dX6_orders_119 : decode cX6_orders 119 = .ok (.aload_n 0, 1) := by decide +kernel
theorem dX6_orders_120 : decode cX6_orders 120 = .ok (.getfield 61, 3) := by decide +kernel
theorem dX6_orders_123 : decode cX6_orders 123 = .ok (.if_icmp .ge 71, 3) := by decide +kernel
theorem dX6_orders_126 : decode cX6_orders 126 = .ok (.iconst 0, 1) := by decide +kernel
theorem dX6_orders_127 : decode cX6_orders 127 = .ok (.istore 5, 2) := by decide +kernel
theorem dX6_orders_129 : decode cX6_orders 129 = .ok (.iload 5, 2) := by decide +kernel
theorem dX6_orders_131 : decode cX6_orders 131 = .ok (.iload_n 2, 1) := by decide +kernel
theorem dX6_orders_132 : decode cX6_orders 132 = .ok (.if_icmp .ge 56, 3) := by decide +kernel
theorem dX6_orders_135 : decode cX6_orders 135 = .ok (.aload_n 0, 1) := by decide +kernel
theorem dX6_orders_136 : decode cX6_orders 136 = .ok (.iload_n 3, 1) := by decide +kernel
theorem dX6_orders_137 : decode cX6_orders 137 = .ok (.iload 4, 2) := by decide +kernel
theorem dX6_orders_139 : decode cX6_orders 139 = .ok (.iload 5, 2) := by decide +kernel
theorem dX6_orders_141 : decode cX6_orders 141 = .ok (.invokevirtual 88, 3) := by decide +kernel
theorem dX6_orders_144 : decode cX6_orders 144 = .ok (.istore 6, 2) := by decide +kernel
theorem dX6_orders_146 : decode cX6_orders 146 = .ok (.aload_n 0, 1) := by decide +kernel
theorem dX6_orders_147 : decode cX6_orders 147 = .ok (.getfield 42, 3) := by decide +kernel
theorem dX6_orders_150 : decode cX6_orders 150 = .ok (.iload 6, 2) := by decide +kernel
theorem dX6_orders_152 : decode cX6_orders 152 = .ok (.iaload, 1) := by decide +kernel
theorem dX6_orders_153 : decode cX6_orders 153 = .ok (.ldc 87, 2) := by decide +kernel
theorem dX6_orders_155 : decode cX6_orders 155 = .ok (.if_icmp .ge 27, 3) := by decide +kernel
theorem dX6_orders_158 : decode cX6_orders 158 = .ok (.aload_n 0, 1) := by decide +kernel
theorem dX6_orders_159 : decode cX6_orders 159 = .ok (.iload_n 3, 1) := by decide +kernel
theorem dX6_orders_160 : decode cX6_orders 160 = .ok (.iload 4, 2) := by decide +kernel
theorem dX6_orders_162 : decode cX6_orders 162 = .ok (.iload 5, 2) := by decide +kernel
theorem dX6_orders_164 : decode cX6_orders 164 = .ok (.aload_n 0, 1) := by decide +kernel
theorem dX6_orders_165 : decode cX6_orders 165 = .ok (.getfield 42, 3) := by decide +kernel
theorem dX6_orders_168 : decode cX6_orders 168 = .ok (.iload 6, 2) := by decide +kernel
theorem dX6_orders_170 : decode cX6_orders 170 = .ok (.iaload, 1) := by decide +kernel
theorem dX6_orders_171 : decode cX6_orders 171 = .ok (.aload_n 0, 1) := by decide +kernel
theorem dX6_orders_172 : decode cX6_orders 172 = .ok (.getfield 45, 3) := by decide +kernel
theorem dX6_orders_175 : decode cX6_orders 175 = .ok (.iload 6, 2) := by decide +kernel
theorem dX6_orders_177 : decode cX6_orders 177 = .ok (.iaload, 1) := by decide +kernel
theorem dX6_orders_178 : decode cX6_orders 178 = .ok (.iload_n 2, 1) := by decide +kernel
theorem dX6_orders_179 : decode cX6_orders 179 = .ok (.invokevirtual 92, 3) := by decide +kernel
theorem dX6_orders_182 : decode cX6_orders 182 = .ok (.iinc 5 1, 3) := by decide +kernel
theorem dX6_orders_185 : decode cX6_orders 185 = .ok (.goto (-56), 3) := by decide +kernel
theorem dX6_orders_188 : decode cX6_orders 188 = .ok (.iinc 4 1, 3) := by decide +kernel
theorem dX6_orders_191 : decode cX6_orders 191 = .ok (.goto (-74), 3) := by decide +kernel
theorem dX6_orders_194 : decode cX6_orders 194 = .ok (.iinc 3 1, 3) := by decide +kernel
theorem dX6_orders_197 : decode cX6_orders 197 = .ok (.goto (-88), 3) := by decide +kernel
theorem dX6_orders_200 : decode cX6_orders 200 = .ok (.return_, 1) := by decide +kernel
set_option maxRecDepth 20000 in
theorem ggX6_goesOn_X6_mayFollow : GoodIn wsX6_goesOn wsX6_mayFollow := goodIn_r _ [8, 1, 9, 10, 11, 12, 44, 45, 46, 47, 48, 49, 50, 51, 52, 53, 54, 55, 56, 57, 58, 59, 60, 61, 62, 63] (by decide +kernel) (by decide +kernel)
set_option maxRecDepth 20000 in
theorem gX6_goesOn_X6_mayFollow : GoodIn wsX6_goesOn (wsV RX6 96 RX6 yX6_mayFollow wsX6_mayFollow) := goodIn_app (goodIn_of _ (by decide +kernel)) ggX6_goesOn_X6_mayFollow
set_option maxRecDepth 20000 in
theorem ggX6_goesOn_X6_joins : GoodIn wsX6_goesOn wsX6_joins := goodIn_r _ [16, 2, 17, 18, 19, 7, 20, 21, 22, 23, 24, 25, 26, 27, 28, 29, 30, 31, 32, 33, 44, 45, 46, 47, 48, 49, 50, 51, 52, 53, 54, 55, 56, 57, 58, 59, 60, 61, 62, 63] (by decide +kernel) (by decide +kernel)
set_option maxRecDepth 20000 in
theorem gX6_goesOn_X6_joins : GoodIn wsX6_goesOn (wsV RX6 84 RX6 yX6_joins wsX6_joins) := goodIn_app (goodIn_of _ (by decide +kernel)) ggX6_goesOn_X6_joins
set_option maxRecDepth 20000 in
theorem ggX6_goesOn_X6_stands : GoodIn wsX6_goesOn wsX6_stands := goodIn_r _ [37] (by decide +kernel) (by decide +kernel)
set_option maxRecDepth 20000 in
theorem gX6_goesOn_X6_stands : GoodIn wsX6_goesOn (wsV RX6 88 RX6 yX6_stands wsX6_stands) := goodIn_app (goodIn_of _ (by decide +kernel)) ggX6_goesOn_X6_stands
set_option maxRecDepth 20000 in
theorem ggX6_goesOn_X6_keeps : GoodIn wsX6_goesOn wsX6_keeps := goodIn_r _ [41, 42, 43, 44, 45, 46, 47, 48, 49, 50, 51, 52, 53, 54, 55, 56, 57, 58, 59, 60, 61, 62, 63] (by decide +kernel) (by decide +kernel)
set_option maxRecDepth 20000 in
theorem gX6_goesOn_X6_keeps : GoodIn wsX6_goesOn (wsV RX6 99 RX6 yX6_keeps wsX6_keeps) := goodIn_app (goodIn_of _ (by decide +kernel)) ggX6_goesOn_X6_keeps
theorem dX6_goesOn_0 : decode cX6_goesOn 0 = .ok (.iconst 0, 1) := by decide +kernel
theorem dX6_goesOn_1 : decode cX6_goesOn 1 = .ok (.istore 7, 2) := by decide +kernel
theorem dX6_goesOn_3 : decode cX6_goesOn 3 = .ok (.iload 7, 2) := by decide +kernel
theorem dX6_goesOn_5 : decode cX6_goesOn 5 = .ok (.aload_n 0, 1) := by decide +kernel
theorem dX6_goesOn_6 : decode cX6_goesOn 6 = .ok (.getfield 61, 3) := by decide +kernel
theorem dX6_goesOn_9 : decode cX6_goesOn 9 = .ok (.if_icmp .ge 116, 3) := by decide +kernel
theorem dX6_goesOn_12 : decode cX6_goesOn 12 = .ok (.iload_n 1, 1) := by decide +kernel
theorem dX6_goesOn_13 : decode cX6_goesOn 13 = .ok (.iload 7, 2) := by decide +kernel
theorem dX6_goesOn_15 : decode cX6_goesOn 15 = .ok (.ishr, 1) := by decide +kernel
theorem dX6_goesOn_16 : decode cX6_goesOn 16 = .ok (.iconst 1, 1) := by decide +kernel
theorem dX6_goesOn_17 : decode cX6_goesOn 17 = .ok (.iand, 1) := by decide +kernel
theorem dX6_goesOn_18 : decode cX6_goesOn 18 = .ok (.iconst 1, 1) := by decide +kernel
theorem dX6_goesOn_19 : decode cX6_goesOn 19 = .ok (.if_icmp .eq 100, 3) := by decide +kernel
theorem dX6_goesOn_22 : decode cX6_goesOn 22 = .ok (.aload_n 0, 1) := by decide +kernel
theorem dX6_goesOn_23 : decode cX6_goesOn 23 = .ok (.iload_n 1, 1) := by decide +kernel
theorem dX6_goesOn_24 : decode cX6_goesOn 24 = .ok (.iload_n 2, 1) := by decide +kernel
theorem dX6_goesOn_25 : decode cX6_goesOn 25 = .ok (.iload 7, 2) := by decide +kernel
theorem dX6_goesOn_27 : decode cX6_goesOn 27 = .ok (.invokevirtual 96, 3) := by decide +kernel
theorem dX6_goesOn_30 : decode cX6_goesOn 30 = .ok (.ifCond .ne 6, 3) := by decide +kernel
theorem dX6_goesOn_33 : decode cX6_goesOn 33 = .ok (.goto 86, 3) := by decide +kernel
theorem dX6_goesOn_36 : decode cX6_goesOn 36 = .ok (.iconst 0, 1) := by decide +kernel
theorem dX6_goesOn_37 : decode cX6_goesOn 37 = .ok (.istore 8, 2) := by decide +kernel
theorem dX6_goesOn_39 : decode cX6_goesOn 39 = .ok (.iload 8, 2) := by decide +kernel
theorem dX6_goesOn_41 : decode cX6_goesOn 41 = .ok (.iload 6, 2) := by decide +kernel
theorem dX6_goesOn_43 : decode cX6_goesOn 43 = .ok (.if_icmp .ge 76, 3) := by decide +kernel
theorem dX6_goesOn_46 : decode cX6_goesOn 46 = .ok (.aload_n 0, 1) := by decide +kernel
theorem dX6_goesOn_47 : decode cX6_goesOn 47 = .ok (.iload_n 2, 1) := by decide +kernel
theorem dX6_goesOn_48 : decode cX6_goesOn 48 = .ok (.iload_n 3, 1) := by decide +kernel
theorem dX6_goesOn_49 : decode cX6_goesOn 49 = .ok (.iload 7, 2) := by decide +kernel
theorem dX6_goesOn_51 : decode cX6_goesOn 51 = .ok (.iload 8, 2) := by decide +kernel
theorem dX6_goesOn_53 : decode cX6_goesOn 53 = .ok (.invokevirtual 84, 3) := by decide +kernel
theorem dX6_goesOn_56 : decode cX6_goesOn 56 = .ok (.iload 8, 2) := by decide +kernel
theorem dX6_goesOn_58 : decode cX6_goesOn 58 = .ok (.aload_n 0, 1) := by decide +kernel
theorem dX6_goesOn_59 : decode cX6_goesOn 59 = .ok (.getfield 28, 3) := by decide +kernel
theorem dX6_goesOn_62 : decode cX6_goesOn 62 = .ok (.iconst 4, 1) := by decide +kernel
theorem dX6_goesOn_63 : decode cX6_goesOn 63 = .ok (.iaload, 1) := by decide +kernel
theorem dX6_goesOn_64 : decode cX6_goesOn 64 = .ok (.imul, 1) := by decide +kernel
theorem dX6_goesOn_65 : decode cX6_goesOn 65 = .ok (.iadd, 1) := by decide +kernel
theorem dX6_goesOn_66 : decode cX6_goesOn 66 = .ok (.istore 9, 2) := by decide +kernel
theorem dX6_goesOn_68 : decode cX6_goesOn 68 = .ok (.aload_n 0, 1) := by decide +kernel
theorem dX6_goesOn_69 : decode cX6_goesOn 69 = .ok (.iload_n 1, 1) := by decide +kernel
theorem dX6_goesOn_70 : decode cX6_goesOn 70 = .ok (.iconst 1, 1) := by decide +kernel
theorem dX6_goesOn_71 : decode cX6_goesOn 71 = .ok (.iload 7, 2) := by decide +kernel
theorem dX6_goesOn_73 : decode cX6_goesOn 73 = .ok (.ishl, 1) := by decide +kernel
theorem dX6_goesOn_74 : decode cX6_goesOn 74 = .ok (.ior, 1) := by decide +kernel
theorem dX6_goesOn_75 : decode cX6_goesOn 75 = .ok (.iload 7, 2) := by decide +kernel
theorem dX6_goesOn_77 : decode cX6_goesOn 77 = .ok (.iload 8, 2) := by decide +kernel
theorem dX6_goesOn_79 : decode cX6_goesOn 79 = .ok (.invokevirtual 88, 3) := by decide +kernel
theorem dX6_goesOn_82 : decode cX6_goesOn 82 = .ok (.istore 10, 2) := by decide +kernel
theorem dX6_goesOn_84 : decode cX6_goesOn 84 = .ok (.aload_n 0, 1) := by decide +kernel
theorem dX6_goesOn_85 : decode cX6_goesOn 85 = .ok (.iload 10, 2) := by decide +kernel
theorem dX6_goesOn_87 : decode cX6_goesOn 87 = .ok (.iload 4, 2) := by decide +kernel
theorem dX6_goesOn_89 : decode cX6_goesOn 89 = .ok (.iload 9, 2) := by decide +kernel
theorem dX6_goesOn_91 : decode cX6_goesOn 91 = .ok (.iadd, 1) := by decide +kernel
theorem dX6_goesOn_92 : decode cX6_goesOn 92 = .ok (.invokevirtual 99, 3) := by decide +kernel
theorem dX6_goesOn_95 : decode cX6_goesOn 95 = .ok (.iload 5, 2) := by decide +kernel
theorem dX6_goesOn_97 : decode cX6_goesOn 97 = .ok (.ldc 87, 2) := by decide +kernel
theorem dX6_goesOn_99 : decode cX6_goesOn 99 = .ok (.if_icmp .ge 14, 3) := by decide +kernel
theorem dX6_goesOn_102 : decode cX6_goesOn 102 = .ok (.aload_n 0, 1) := by decide +kernel
theorem dX6_goesOn_103 : decode cX6_goesOn 103 = .ok (.iload 10, 2) := by decide +kernel
theorem dX6_goesOn_105 : decode cX6_goesOn 105 = .ok (.iload 5, 2) := by decide +kernel
theorem dX6_goesOn_107 : decode cX6_goesOn 107 = .ok (.iload 9, 2) := by decide +kernel
theorem dX6_goesOn_109 : decode cX6_goesOn 109 = .ok (.iadd, 1) := by decide +kernel
theorem dX6_goesOn_110 : decode cX6_goesOn 110 = .ok (.invokevirtual 99, 3) := by decide +kernel
theorem dX6_goesOn_113 : decode cX6_goesOn 113 = .ok (.iinc 8 1, 3) := by decide +kernel
theorem dX6_goesOn_116 : decode cX6_goesOn 116 = .ok (.goto (-77), 3) := by decide +kernel
theorem dX6_goesOn_119 : decode cX6_goesOn 119 = .ok (.iinc 7 1, 3) := by decide +kernel
theorem dX6_goesOn_122 : decode cX6_goesOn 122 = .ok (.goto (-119), 3) := by decide +kernel
theorem dX6_goesOn_125 : decode cX6_goesOn 125 = .ok (.return_, 1) := by decide +kernel
theorem dX6_looks_0 : decode cX6_looks 0 = .ok (.aload_n 0, 1) := by decide +kernel
theorem dX6_looks_1 : decode cX6_looks 1 = .ok (.iload_n 1, 1) := by decide +kernel
theorem dX6_looks_2 : decode cX6_looks 2 = .ok (.ifCond .ne 7, 3) := by decide +kernel
theorem dX6_looks_5 : decode cX6_looks 5 = .ok (.iconst 0, 1) := by decide +kernel
theorem dX6_looks_6 : decode cX6_looks 6 = .ok (.goto 5, 3) := by decide +kernel
theorem dX6_looks_9 : decode cX6_looks 9 = .ok (.ldc 87, 2) := by decide +kernel
theorem dX6_looks_11 : decode cX6_looks 11 = .ok (.putfield 103, 3) := by decide +kernel
theorem dX6_looks_14 : decode cX6_looks 14 = .ok (.aload_n 0, 1) := by decide +kernel
theorem dX6_looks_15 : decode cX6_looks 15 = .ok (.ldc 87, 2) := by decide +kernel
theorem dX6_looks_17 : decode cX6_looks 17 = .ok (.putfield 106, 3) := by decide +kernel
theorem dX6_looks_20 : decode cX6_looks 20 = .ok (.bipush 18, 2) := by decide +kernel
theorem dX6_looks_22 : decode cX6_looks 22 = .ok (.iload_n 1, 1) := by decide +kernel
theorem dX6_looks_23 : decode cX6_looks 23 = .ok (.imul, 1) := by decide +kernel
theorem dX6_looks_24 : decode cX6_looks 24 = .ok (.istore_n 2, 1) := by decide +kernel
theorem dX6_looks_25 : decode cX6_looks 25 = .ok (.iload_n 2, 1) := by decide +kernel
theorem dX6_looks_26 : decode cX6_looks 26 = .ok (.bipush 18, 2) := by decide +kernel
theorem dX6_looks_28 : decode cX6_looks 28 = .ok (.iload_n 1, 1) := by decide +kernel
theorem dX6_looks_29 : decode cX6_looks 29 = .ok (.imul, 1) := by decide +kernel
theorem dX6_looks_30 : decode cX6_looks 30 = .ok (.bipush 18, 2) := by decide +kernel
theorem dX6_looks_32 : decode cX6_looks 32 = .ok (.iadd, 1) := by decide +kernel
theorem dX6_looks_33 : decode cX6_looks 33 = .ok (.if_icmp .ge 92, 3) := by decide +kernel
theorem dX6_looks_36 : decode cX6_looks 36 = .ok (.iload_n 1, 1) := by decide +kernel
theorem dX6_looks_37 : decode cX6_looks 37 = .ok (.ifCond .le 88, 3) := by decide +kernel
theorem dX6_looks_40 : decode cX6_looks 40 = .ok (.aload_n 0, 1) := by decide +kernel
theorem dX6_looks_41 : decode cX6_looks 41 = .ok (.getfield 42, 3) := by decide +kernel
theorem dX6_looks_44 : decode cX6_looks 44 = .ok (.iload_n 2, 1) := by decide +kernel
theorem dX6_looks_45 : decode cX6_looks 45 = .ok (.iaload, 1) := by decide +kernel
theorem dX6_looks_46 : decode cX6_looks 46 = .ok (.aload_n 0, 1) := by decide +kernel
theorem dX6_looks_47 : decode cX6_looks 47 = .ok (.getfield 103, 3) := by decide +kernel
theorem dX6_looks_50 : decode cX6_looks 50 = .ok (.if_icmp .ge 46, 3) := by decide +kernel
theorem dX6_looks_53 : decode cX6_looks 53 = .ok (.aload_n 0, 1) := by decide +kernel
theorem dX6_looks_54 : decode cX6_looks 54 = .ok (.aload_n 0, 1) := by decide +kernel
theorem dX6_looks_55 : decode cX6_looks 55 = .ok (.getfield 45, 3) := by decide +kernel
theorem dX6_looks_58 : decode cX6_looks 58 = .ok (.iload_n 2, 1) := by decide +kernel
theorem dX6_looks_59 : decode cX6_looks 59 = .ok (.iaload, 1) := by decide +kernel
theorem dX6_looks_60 : decode cX6_looks 60 = .ok (.aload_n 0, 1) := by decide +kernel
theorem dX6_looks_61 : decode cX6_looks 61 = .ok (.getfield 103, 3) := by decide +kernel
theorem dX6_looks_64 : decode cX6_looks 64 = .ok (.if_icmp .ge 12, 3) := by decide +kernel
theorem dX6_looks_67 : decode cX6_looks 67 = .ok (.aload_n 0, 1) := by decide +kernel
theorem dX6_looks_68 : decode cX6_looks 68 = .ok (.getfield 45, 3) := by decide +kernel
theorem dX6_looks_71 : decode cX6_looks 71 = .ok (.iload_n 2, 1) := by decide +kernel
theorem dX6_looks_72 : decode cX6_looks 72 = .ok (.iaload, 1) := by decide +kernel
theorem dX6_looks_73 : decode cX6_looks 73 = .ok (.goto 7, 3) := by decide +kernel
theorem dX6_looks_76 : decode cX6_looks 76 = .ok (.aload_n 0, 1) := by decide +kernel
theorem dX6_looks_77 : decode cX6_looks 77 = .ok (.getfield 103, 3) := by decide +kernel
theorem dX6_looks_80 : decode cX6_looks 80 = .ok (.putfield 106, 3) := by decide +kernel
theorem dX6_looks_83 : decode cX6_looks 83 = .ok (.aload_n 0, 1) := by decide +kernel
theorem dX6_looks_84 : decode cX6_looks 84 = .ok (.aload_n 0, 1) := by decide +kernel
theorem dX6_looks_85 : decode cX6_looks 85 = .ok (.getfield 42, 3) := by decide +kernel
theorem dX6_looks_88 : decode cX6_looks 88 = .ok (.iload_n 2, 1) := by decide +kernel
theorem dX6_looks_89 : decode cX6_looks 89 = .ok (.iaload, 1) := by decide +kernel
theorem dX6_looks_90 : decode cX6_looks 90 = .ok (.putfield 103, 3) := by decide +kernel
theorem dX6_looks_93 : decode cX6_looks 93 = .ok (.goto 26, 3) := by decide +kernel
theorem dX6_looks_96 : decode cX6_looks 96 = .ok (.aload_n 0, 1) := by decide +kernel
theorem dX6_looks_97 : decode cX6_looks 97 = .ok (.getfield 42, 3) := by decide +kernel
theorem dX6_looks_100 : decode cX6_looks 100 = .ok (.iload_n 2, 1) := by decide +kernel
theorem dX6_looks_101 : decode cX6_looks 101 = .ok (.iaload, 1) := by decide +kernel
theorem dX6_looks_102 : decode cX6_looks 102 = .ok (.aload_n 0, 1) := by decide +kernel
theorem dX6_looks_103 : decode cX6_looks 103 = .ok (.getfield 106, 3) := by decide +kernel
theorem dX6_looks_106 : decode cX6_looks 106 = .ok (.if_icmp .ge 13, 3) := by decide +kernel
theorem dX6_looks_109 : decode cX6_looks 109 = .ok (.aload_n 0, 1) := by decide +kernel
theorem dX6_looks_110 : decode cX6_looks 110 = .ok (.aload_n 0, 1) := by decide +kernel
theorem dX6_looks_111 : decode cX6_looks 111 = .ok (.getfield 42, 3) := by decide +kernel
theorem dX6_looks_114 : decode cX6_looks 114 = .ok (.iload_n 2, 1) := by decide +kernel
theorem dX6_looks_115 : decode cX6_looks 115 = .ok (.iaload, 1) := by decide +kernel
theorem dX6_looks_116 : decode cX6_looks 116 = .ok (.putfield 106, 3) := by decide +kernel
theorem dX6_looks_119 : decode cX6_looks 119 = .ok (.iinc 2 1, 3) := by decide +kernel
theorem dX6_looks_122 : decode cX6_looks 122 = .ok (.goto (-97), 3) := by decide +kernel
theorem dX6_looks_125 : decode cX6_looks 125 = .ok (.return_, 1) := by decide +kernel
theorem dX6_told_0 : decode cX6_told 0 = .ok (.iload_n 1, 1) := by decide +kernel
theorem dX6_told_1 : decode cX6_told 1 = .ok (.ldc 87, 2) := by decide +kernel
theorem dX6_told_3 : decode cX6_told 3 = .ok (.if_icmp .ne 7, 3) := by decide +kernel
theorem dX6_told_6 : decode cX6_told 6 = .ok (.iconst (-1), 1) := by decide +kernel
theorem dX6_told_7 : decode cX6_told 7 = .ok (.goto 4, 3) := by decide +kernel
theorem dX6_told_10 : decode cX6_told 10 = .ok (.iload_n 1, 1) := by decide +kernel
theorem dX6_told_11 : decode cX6_told 11 = .ok (.ireturn, 1) := by decide +kernel
theorem dX6_all_0 : decode cX6_all 0 = .ok (.iconst 1, 1) := by decide +kernel
theorem dX6_all_1 : decode cX6_all 1 = .ok (.aload_n 0, 1) := by decide +kernel
theorem dX6_all_2 : decode cX6_all 2 = .ok (.getfield 61, 3) := by decide +kernel
theorem dX6_all_5 : decode cX6_all 5 = .ok (.ishl, 1) := by decide +kernel
theorem dX6_all_6 : decode cX6_all 6 = .ok (.iconst 1, 1) := by decide +kernel
theorem dX6_all_7 : decode cX6_all 7 = .ok (.isub, 1) := by decide +kernel
theorem dX6_all_8 : decode cX6_all 8 = .ok (.ireturn, 1) := by decide +kernel
set_option maxRecDepth 20000 in
theorem ggX6_best_X6_orders : GoodIn wsX6_best wsX6_orders := goodIn_r _ [6, 7, 8, 9, 10, 11, 12, 13, 14, 15, 5, 16, 17, 18, 19, 20, 21, 22, 23, 24, 25, 26, 27, 28, 29, 30, 31, 32, 33, 34, 35, 36, 37, 38, 39, 40, 41, 42, 43, 44, 45, 46, 47, 48, 49, 50, 51, 52, 53, 67, 68, 69, 70, 71, 72, 73, 74, 75, 76, 77, 78, 79, 80, 81, 82, 83, 84, 85, 86] (by decide +kernel) (by decide +kernel)
set_option maxRecDepth 20000 in
theorem gX6_best_X6_orders : GoodIn wsX6_best (wsV RX6 109 RX6 yX6_orders wsX6_orders) := goodIn_app (goodIn_of _ (by decide +kernel)) ggX6_best_X6_orders
set_option maxRecDepth 20000 in
theorem ggX6_best_X6_all : GoodIn wsX6_best wsX6_all := goodIn_r _ [57, 7, 67, 68, 69, 70, 71, 72, 73, 74, 75, 76, 77, 78, 79, 80, 81, 82, 83, 84, 85, 86] (by decide +kernel) (by decide +kernel)
set_option maxRecDepth 20000 in
theorem gX6_best_X6_all : GoodIn wsX6_best (wsV RX6 112 RX6 yX6_all wsX6_all) := goodIn_app (goodIn_of _ (by decide +kernel)) ggX6_best_X6_all
set_option maxRecDepth 20000 in
theorem ggX6_best_X6_looks : GoodIn wsX6_best wsX6_looks := goodIn_r _ [61, 10, 1, 62, 9, 11, 67, 68, 69, 70, 71, 72, 73, 74, 75, 76, 77, 78, 79, 80, 81, 82, 83, 84, 85, 86] (by decide +kernel) (by decide +kernel)
set_option maxRecDepth 20000 in
theorem gX6_best_X6_looks : GoodIn wsX6_best (wsV RX6 116 RX6 yX6_looks wsX6_looks) := goodIn_app (goodIn_of _ (by decide +kernel)) ggX6_best_X6_looks
set_option maxRecDepth 20000 in
theorem ggX6_best_X6_told : GoodIn wsX6_best wsX6_told := goodIn_r _ [66, 10] (by decide +kernel) (by decide +kernel)
set_option maxRecDepth 20000 in
theorem gX6_best_X6_told : GoodIn wsX6_best (wsV RX6 120 RX6 yX6_told wsX6_told) := goodIn_app (goodIn_of _ (by decide +kernel)) ggX6_best_X6_told
theorem dX6_best_0 : decode cX6_best 0 = .ok (.aload_n 0, 1) := by decide +kernel
theorem dX6_best_1 : decode cX6_best 1 = .ok (.invokevirtual 109, 3) := by decide +kernel
theorem dX6_best_4 : decode cX6_best 4 = .ok (.aload_n 0, 1) := by decide +kernel
theorem dX6_best_5 : decode cX6_best 5 = .ok (.aload_n 0, 1) := by decide +kernel
theorem dX6_best_6 : decode cX6_best 6 = .ok (.invokevirtual 112, 3) := by decide +kernel
theorem dX6_best_9 : decode cX6_best 9 = .ok (.invokevirtual 116, 3) := by decide +kernel
theorem dX6_best_12 : decode cX6_best 12 = .ok (.aload_n 0, 1) := by decide +kernel
theorem dX6_best_13 : decode cX6_best 13 = .ok (.aload_n 0, 1) := by decide +kernel
theorem dX6_best_14 : decode cX6_best 14 = .ok (.getfield 103, 3) := by decide +kernel
theorem dX6_best_17 : decode cX6_best 17 = .ok (.invokevirtual 120, 3) := by decide +kernel
theorem dX6_best_20 : decode cX6_best 20 = .ok (.ireturn, 1) := by decide +kernel
set_option maxRecDepth 20000 in
theorem ggX6_reads_X6_best : GoodIn wsX6_reads wsX6_best := goodIn_r _ [11, 12, 13, 14, 15, 10, 16, 1, 17, 2, 3, 18, 5, 19, 20, 21, 22, 23, 24, 25, 26, 27, 28, 29, 30, 31, 32, 33, 34, 35, 36, 37, 38, 39, 40, 41, 42, 43, 44, 45, 46, 47, 48, 49, 50, 51, 52, 53, 54, 55, 56, 57, 58, 59, 60, 61, 62, 63, 64, 65, 66, 67, 68, 69, 70, 71, 72, 73, 74, 75, 76, 77, 78, 79, 80, 81, 82, 83, 84, 85, 86, 87, 88, 89, 90, 91, 92] (by decide +kernel) (by decide +kernel)
set_option maxRecDepth 20000 in
theorem gX6_reads_X6_best : GoodIn wsX6_reads (wsV RX6 124 RX6 yX6_best wsX6_best) := goodIn_app (goodIn_of _ (by decide +kernel)) ggX6_reads_X6_best
set_option maxRecDepth 20000 in
theorem ggX6_reads_X6_all : GoodIn wsX6_reads wsX6_all := goodIn_r _ [63, 1, 73, 74, 75, 76, 77, 78, 79, 80, 81, 82, 83, 84, 85, 86, 87, 88, 89, 90, 91, 92] (by decide +kernel) (by decide +kernel)
set_option maxRecDepth 20000 in
theorem gX6_reads_X6_all : GoodIn wsX6_reads (wsV RX6 112 RX6 yX6_all wsX6_all) := goodIn_app (goodIn_of _ (by decide +kernel)) ggX6_reads_X6_all
set_option maxRecDepth 20000 in
theorem ggX6_reads_X6_mayFollow : GoodIn wsX6_reads wsX6_mayFollow := goodIn_r _ [30, 1, 31, 32, 33, 34, 73, 74, 75, 76, 77, 78, 79, 80, 81, 82, 83, 84, 85, 86, 87, 88, 89, 90, 91, 92] (by decide +kernel) (by decide +kernel)
set_option maxRecDepth 20000 in
theorem gX6_reads_X6_mayFollow : GoodIn wsX6_reads (wsV RX6 96 RX6 yX6_mayFollow wsX6_mayFollow) := goodIn_app (goodIn_of _ (by decide +kernel)) ggX6_reads_X6_mayFollow
set_option maxRecDepth 20000 in
theorem ggX6_reads_X6_joins : GoodIn wsX6_reads wsX6_joins := goodIn_r _ [38, 5, 39, 40, 41, 10, 42, 43, 44, 45, 46, 47, 48, 49, 50, 51, 52, 53, 54, 55, 73, 74, 75, 76, 77, 78, 79, 80, 81, 82, 83, 84, 85, 86, 87, 88, 89, 90, 91, 92] (by decide +kernel) (by decide +kernel)
set_option maxRecDepth 20000 in
theorem gX6_reads_X6_joins : GoodIn wsX6_reads (wsV RX6 84 RX6 yX6_joins wsX6_joins) := goodIn_app (goodIn_of _ (by decide +kernel)) ggX6_reads_X6_joins
theorem dX6_reads_0 : decode cX6_reads 0 = .ok (.aload_n 0, 1) := by decide +kernel
theorem dX6_reads_1 : decode cX6_reads 1 = .ok (.invokevirtual 124, 3) := by decide +kernel
theorem dX6_reads_4 : decode cX6_reads 4 = .ok (.istore_n 1, 1) := by decide +kernel
theorem dX6_reads_5 : decode cX6_reads 5 = .ok (.aload_n 0, 1) := by decide +kernel
theorem dX6_reads_6 : decode cX6_reads 6 = .ok (.invokevirtual 112, 3) := by decide +kernel
theorem dX6_reads_9 : decode cX6_reads 9 = .ok (.istore_n 2, 1) := by decide +kernel
theorem dX6_reads_10 : decode cX6_reads 10 = .ok (.iconst (-1), 1) := by decide +kernel
theorem dX6_reads_11 : decode cX6_reads 11 = .ok (.istore_n 3, 1) := by decide +kernel
theorem dX6_reads_12 : decode cX6_reads 12 = .ok (.aload_n 0, 1) := by decide +kernel
theorem dX6_reads_13 : decode cX6_reads 13 = .ok (.getfield 61, 3) := by decide +kernel
theorem dX6_reads_16 : decode cX6_reads 16 = .ok (.iconst 1, 1) := by decide +kernel
theorem dX6_reads_17 : decode cX6_reads 17 = .ok (.isub, 1) := by decide +kernel
theorem dX6_reads_18 : decode cX6_reads 18 = .ok (.istore 4, 2) := by decide +kernel
theorem dX6_reads_20 : decode cX6_reads 20 = .ok (.iload 4, 2) := by decide +kernel
theorem dX6_reads_22 : decode cX6_reads 22 = .ok (.ifCond .lt 213, 3) := by decide +kernel
theorem dX6_reads_25 : decode cX6_reads 25 = .ok (.iload_n 1, 1) := by decide +kernel
theorem dX6_reads_26 : decode cX6_reads 26 = .ok (.ifCond .lt 209, 3) := by decide +kernel
theorem dX6_reads_29 : decode cX6_reads 29 = .ok (.iconst (-1), 1) := by decide +kernel
theorem dX6_reads_30 : decode cX6_reads 30 = .ok (.istore 5, 2) := by decide +kernel
theorem dX6_reads_32 : decode cX6_reads 32 = .ok (.iconst 0, 1) := by decide +kernel
theorem dX6_reads_33 : decode cX6_reads 33 = .ok (.istore 6, 2) := by decide +kernel
theorem dX6_reads_35 : decode cX6_reads 35 = .ok (.iload 6, 2) := by decide +kernel
theorem dX6_reads_37 : decode cX6_reads 37 = .ok (.bipush 18, 2) := by decide +kernel
theorem dX6_reads_39 : decode cX6_reads 39 = .ok (.if_icmp .ge 129, 3) := by decide +kernel
theorem dX6_reads_42 : decode cX6_reads 42 = .ok (.iload 5, 2) := by decide +kernel
theorem dX6_reads_44 : decode cX6_reads 44 = .ok (.ifCond .ge 124, 3) := by decide +kernel
theorem dX6_reads_47 : decode cX6_reads 47 = .ok (.iload 6, 2) := by decide +kernel
theorem dX6_reads_49 : decode cX6_reads 49 = .ok (.iconst 2, 1) := by decide +kernel
theorem dX6_reads_50 : decode cX6_reads 50 = .ok (.idiv, 1) := by decide +kernel
theorem dX6_reads_51 : decode cX6_reads 51 = .ok (.istore 7, 2) := by decide +kernel
theorem dX6_reads_53 : decode cX6_reads 53 = .ok (.aload_n 0, 1) := by decide +kernel
theorem dX6_reads_54 : decode cX6_reads 54 = .ok (.getfield 42, 3) := by decide +kernel
theorem dX6_reads_57 : decode cX6_reads 57 = .ok (.bipush 18, 2) := by decide +kernel
theorem dX6_reads_59 : decode cX6_reads 59 = .ok (.iload_n 2, 1) := by decide +kernel
theorem dX6_reads_60 : decode cX6_reads 60 = .ok (.imul, 1) := by decide +kernel
theorem dX6_reads_61 : decode cX6_reads 61 = .ok (.iload 6, 2) := by decide +kernel
theorem dX6_reads_63 : decode cX6_reads 63 = .ok (.iadd, 1) := by decide +kernel
theorem dX6_reads_64 : decode cX6_reads 64 = .ok (.iaload, 1) := by decide +kernel
theorem dX6_reads_65 : decode cX6_reads 65 = .ok (.ldc 87, 2) := by decide +kernel
theorem dX6_reads_67 : decode cX6_reads 67 = .ok (.if_icmp .eq 95, 3) := by decide +kernel
theorem dX6_reads_70 : decode cX6_reads 70 = .ok (.iload_n 3, 1) := by decide +kernel
theorem dX6_reads_71 : decode cX6_reads 71 = .ok (.ifCond .lt 17, 3) := by decide +kernel
theorem dX6_reads_74 : decode cX6_reads 74 = .ok (.aload_n 0, 1) := by decide +kernel
theorem dX6_reads_75 : decode cX6_reads 75 = .ok (.iload_n 2, 1) := by decide +kernel
theorem dX6_reads_76 : decode cX6_reads 76 = .ok (.iload 7, 2) := by decide +kernel
theorem dX6_reads_78 : decode cX6_reads 78 = .ok (.iload_n 3, 1) := by decide +kernel
theorem dX6_reads_79 : decode cX6_reads 79 = .ok (.invokevirtual 96, 3) := by decide +kernel
theorem dX6_reads_82 : decode cX6_reads 82 = .ok (.ifCond .ne 6, 3) := by decide +kernel
theorem dX6_reads_85 : decode cX6_reads 85 = .ok (.goto 77, 3) := by decide +kernel
theorem dX6_reads_88 : decode cX6_reads 88 = .ok (.iload_n 3, 1) := by decide +kernel
theorem dX6_reads_89 : decode cX6_reads 89 = .ok (.ifCond .ge 7, 3) := by decide +kernel
theorem dX6_reads_92 : decode cX6_reads 92 = .ok (.iconst 0, 1) := by decide +kernel
theorem dX6_reads_93 : decode cX6_reads 93 = .ok (.goto 40, 3) := by decide +kernel
theorem dX6_reads_96 : decode cX6_reads 96 = .ok (.aload_n 0, 1) := by decide +kernel
theorem dX6_reads_97 : decode cX6_reads 97 = .ok (.iload 7, 2) := by decide +kernel
theorem dX6_reads_99 : decode cX6_reads 99 = .ok (.iload 6, 2) := by decide +kernel
theorem dX6_reads_101 : decode cX6_reads 101 = .ok (.iconst 2, 1) := by decide +kernel
theorem dX6_reads_102 : decode cX6_reads 102 = .ok (.irem, 1) := by decide +kernel
theorem dX6_reads_103 : decode cX6_reads 103 = .ok (.iload_n 3, 1) := by decide +kernel
theorem dX6_reads_104 : decode cX6_reads 104 = .ok (.aload_n 0, 1) := by decide +kernel
theorem dX6_reads_105 : decode cX6_reads 105 = .ok (.getfield 58, 3) := by decide +kernel
theorem dX6_reads_108 : decode cX6_reads 108 = .ok (.iload 4, 2) := by decide +kernel
theorem dX6_reads_110 : decode cX6_reads 110 = .ok (.iconst 1, 1) := by decide +kernel
theorem dX6_reads_111 : decode cX6_reads 111 = .ok (.iadd, 1) := by decide +kernel
theorem dX6_reads_112 : decode cX6_reads 112 = .ok (.iaload, 1) := by decide +kernel
theorem dX6_reads_113 : decode cX6_reads 113 = .ok (.invokevirtual 84, 3) := by decide +kernel
theorem dX6_reads_116 : decode cX6_reads 116 = .ok (.aload_n 0, 1) := by decide +kernel
theorem dX6_reads_117 : decode cX6_reads 117 = .ok (.getfield 58, 3) := by decide +kernel
theorem dX6_reads_120 : decode cX6_reads 120 = .ok (.iload 4, 2) := by decide +kernel
theorem dX6_reads_122 : decode cX6_reads 122 = .ok (.iconst 1, 1) := by decide +kernel
theorem dX6_reads_123 : decode cX6_reads 123 = .ok (.iadd, 1) := by decide +kernel
theorem dX6_reads_124 : decode cX6_reads 124 = .ok (.iaload, 1) := by decide +kernel
theorem dX6_reads_125 : decode cX6_reads 125 = .ok (.aload_n 0, 1) := by decide +kernel
theorem dX6_reads_126 : decode cX6_reads 126 = .ok (.getfield 28, 3) := by decide +kernel
theorem dX6_reads_129 : decode cX6_reads 129 = .ok (.iconst 4, 1) := by decide +kernel
theorem dX6_reads_130 : decode cX6_reads 130 = .ok (.iaload, 1) := by decide +kernel
theorem dX6_reads_131 : decode cX6_reads 131 = .ok (.imul, 1) := by decide +kernel
theorem dX6_reads_132 : decode cX6_reads 132 = .ok (.iadd, 1) := by decide +kernel
theorem dX6_reads_133 : decode cX6_reads 133 = .ok (.istore 8, 2) := by decide +kernel
theorem dX6_reads_135 : decode cX6_reads 135 = .ok (.aload_n 0, 1) := by decide +kernel
theorem dX6_reads_136 : decode cX6_reads 136 = .ok (.getfield 42, 3) := by decide +kernel
theorem dX6_reads_139 : decode cX6_reads 139 = .ok (.bipush 18, 2) := by decide +kernel
theorem dX6_reads_141 : decode cX6_reads 141 = .ok (.iload_n 2, 1) := by decide +kernel
theorem dX6_reads_142 : decode cX6_reads 142 = .ok (.imul, 1) := by decide +kernel
theorem dX6_reads_143 : decode cX6_reads 143 = .ok (.iload 6, 2) := by decide +kernel
theorem dX6_reads_145 : decode cX6_reads 145 = .ok (.iadd, 1) := by decide +kernel
theorem dX6_reads_146 : decode cX6_reads 146 = .ok (.iaload, 1) := by decide +kernel
theorem dX6_reads_147 : decode cX6_reads 147 = .ok (.iload 8, 2) := by decide +kernel
theorem dX6_reads_149 : decode cX6_reads 149 = .ok (.iadd, 1) := by decide +kernel
theorem dX6_reads_150 : decode cX6_reads 150 = .ok (.iload_n 1, 1) := by decide +kernel
theorem dX6_reads_151 : decode cX6_reads 151 = .ok (.if_icmp .ne 8, 3) := by decide +kernel
theorem dX6_reads_154 : decode cX6_reads 154 = .ok (.iload 6, 2) := by decide +kernel
theorem dX6_reads_156 : decode cX6_reads 156 = .ok (.goto 4, 3) := by decide +kernel
theorem dX6_reads_159 : decode cX6_reads 159 = .ok (.iconst (-1), 1) := by decide +kernel
theorem dX6_reads_160 : decode cX6_reads 160 = .ok (.istore 5, 2) := by decide +kernel
theorem dX6_reads_162 : decode cX6_reads 162 = .ok (.iinc 6 1, 3) := by decide +kernel
theorem dX6_reads_165 : decode cX6_reads 165 = .ok (.goto (-130), 3) := by decide +kernel
theorem dX6_reads_168 : decode cX6_reads 168 = .ok (.iload_n 1, 1) := by decide +kernel
theorem dX6_reads_169 : decode cX6_reads 169 = .ok (.iload_n 3, 1) := by decide +kernel
theorem dX6_reads_170 : decode cX6_reads 170 = .ok (.ifCond .ge 7, 3) := by decide +kernel
theorem dX6_reads_173 : decode cX6_reads 173 = .ok (.iconst 0, 1) := by decide +kernel
theorem dX6_reads_174 : decode cX6_reads 174 = .ok (.goto 17, 3) := by decide +kernel
theorem dX6_reads_177 : decode cX6_reads 177 = .ok (.iload_n 1, 1) := by decide +kernel
theorem dX6_reads_178 : decode cX6_reads 178 = .ok (.aload_n 0, 1) := by decide +kernel
theorem dX6_reads_179 : decode cX6_reads 179 = .ok (.getfield 42, 3) := by decide +kernel
theorem dX6_reads_182 : decode cX6_reads 182 = .ok (.bipush 18, 2) := by decide +kernel
theorem dX6_reads_184 : decode cX6_reads 184 = .ok (.iload_n 2, 1) := by decide +kernel
theorem dX6_reads_185 : decode cX6_reads 185 = .ok (.imul, 1) := by decide +kernel
theorem dX6_reads_186 : decode cX6_reads 186 = .ok (.iload 5, 2) := by decide +kernel
theorem dX6_reads_188 : decode cX6_reads 188 = .ok (.iadd, 1) := by decide +kernel
theorem dX6_reads_189 : decode cX6_reads 189 = .ok (.iaload, 1) := by decide +kernel
theorem dX6_reads_190 : decode cX6_reads 190 = .ok (.isub, 1) := by decide +kernel
theorem dX6_reads_191 : decode cX6_reads 191 = .ok (.isub, 1) := by decide +kernel
theorem dX6_reads_192 : decode cX6_reads 192 = .ok (.istore_n 1, 1) := by decide +kernel
theorem dX6_reads_193 : decode cX6_reads 193 = .ok (.aload_n 0, 1) := by decide +kernel
theorem dX6_reads_194 : decode cX6_reads 194 = .ok (.getfield 55, 3) := by decide +kernel
theorem dX6_reads_197 : decode cX6_reads 197 = .ok (.iload 4, 2) := by decide +kernel
theorem dX6_reads_199 : decode cX6_reads 199 = .ok (.iload 5, 2) := by decide +kernel
theorem dX6_reads_201 : decode cX6_reads 201 = .ok (.iconst 2, 1) := by decide +kernel
theorem dX6_reads_202 : decode cX6_reads 202 = .ok (.idiv, 1) := by decide +kernel
theorem dX6_reads_203 : decode cX6_reads 203 = .ok (.iastore, 1) := by decide +kernel
theorem dX6_reads_204 : decode cX6_reads 204 = .ok (.aload_n 0, 1) := by decide +kernel
theorem dX6_reads_205 : decode cX6_reads 205 = .ok (.getfield 58, 3) := by decide +kernel
theorem dX6_reads_208 : decode cX6_reads 208 = .ok (.iload 4, 2) := by decide +kernel
theorem dX6_reads_210 : decode cX6_reads 210 = .ok (.iload 5, 2) := by decide +kernel
theorem dX6_reads_212 : decode cX6_reads 212 = .ok (.iconst 2, 1) := by decide +kernel
theorem dX6_reads_213 : decode cX6_reads 213 = .ok (.irem, 1) := by decide +kernel
theorem dX6_reads_214 : decode cX6_reads 214 = .ok (.iastore, 1) := by decide +kernel
theorem dX6_reads_215 : decode cX6_reads 215 = .ok (.aload_n 0, 1) := by decide +kernel
theorem dX6_reads_216 : decode cX6_reads 216 = .ok (.getfield 55, 3) := by decide +kernel
theorem dX6_reads_219 : decode cX6_reads 219 = .ok (.iload 4, 2) := by decide +kernel
theorem dX6_reads_221 : decode cX6_reads 221 = .ok (.iaload, 1) := by decide +kernel
theorem dX6_reads_222 : decode cX6_reads 222 = .ok (.istore_n 3, 1) := by decide +kernel
theorem dX6_reads_223 : decode cX6_reads 223 = .ok (.iload_n 2, 1) := by decide +kernel
theorem dX6_reads_224 : decode cX6_reads 224 = .ok (.iconst 1, 1) := by decide +kernel
theorem dX6_reads_225 : decode cX6_reads 225 = .ok (.iload_n 3, 1) := by decide +kernel
theorem dX6_reads_226 : decode cX6_reads 226 = .ok (.ishl, 1) := by decide +kernel
theorem dX6_reads_227 : decode cX6_reads 227 = .ok (.isub, 1) := by decide +kernel
theorem dX6_reads_228 : decode cX6_reads 228 = .ok (.istore_n 2, 1) := by decide +kernel
theorem dX6_reads_229 : decode cX6_reads 229 = .ok (.iinc 4 (-1), 3) := by decide +kernel
theorem dX6_reads_232 : decode cX6_reads 232 = .ok (.goto (-212), 3) := by decide +kernel
theorem dX6_reads_235 : decode cX6_reads 235 = .ok (.iload_n 1, 1) := by decide +kernel
theorem dX6_reads_236 : decode cX6_reads 236 = .ok (.ifCond .lt 7, 3) := by decide +kernel
theorem dX6_reads_239 : decode cX6_reads 239 = .ok (.iconst 1, 1) := by decide +kernel
theorem dX6_reads_240 : decode cX6_reads 240 = .ok (.goto 4, 3) := by decide +kernel
theorem dX6_reads_243 : decode cX6_reads 243 = .ok (.iconst 0, 1) := by decide +kernel
theorem dX6_reads_244 : decode cX6_reads 244 = .ok (.ireturn, 1) := by decide +kernel
set_option maxRecDepth 20000 in
theorem ggX6_at_X6_in : GoodIn wsX6_at wsX6_in := goodIn_r _ [7] (by decide +kernel) (by decide +kernel)
set_option maxRecDepth 20000 in
theorem gX6_at_X6_in : GoodIn wsX6_at (va_wsS RX6 64 yX6_in wsX6_in) := goodIn_app (goodIn_of _ (by decide +kernel)) ggX6_at_X6_in
set_option maxRecDepth 20000 in
theorem ggX6_at_X6_reads : GoodIn wsX6_at wsX6_reads := goodIn_r _ [11, 1, 12, 13, 3, 14, 2, 15, 16, 17, 6, 18, 19, 20, 21, 22, 23, 24, 25, 26, 27, 28, 29, 30, 31, 32, 33, 34, 35, 36, 37, 38, 39, 40, 41, 42, 43, 44, 45, 46, 47, 48, 49, 50, 51, 52, 53, 54, 55, 56, 57, 58, 59, 60, 61, 62, 63, 64, 65, 66, 67, 68, 69, 70, 71, 72, 73, 74, 75, 76, 77, 78, 79, 80, 81, 82, 83, 84, 85, 86, 87, 88, 89, 90, 91, 92, 93, 94, 95, 96, 97, 98, 99] (by decide +kernel) (by decide +kernel)
set_option maxRecDepth 20000 in
theorem gX6_at_X6_reads : GoodIn wsX6_at (wsV RX6 127 RX6 yX6_reads wsX6_reads) := goodIn_app (goodIn_of _ (by decide +kernel)) ggX6_at_X6_reads
set_option maxRecDepth 20000 in
theorem ggX6_at_X6_isMissing : GoodIn wsX6_at wsX6_isMissing := goodIn_r _ [49, 14, 50, 51, 52, 6, 53, 54, 55, 56, 57, 58, 59, 60, 61, 62, 80, 81, 82, 83, 84, 85, 86, 87, 88, 89, 90, 91, 92, 93, 94, 95, 96, 97, 98, 99] (by decide +kernel) (by decide +kernel)
set_option maxRecDepth 20000 in
theorem gX6_at_X6_isMissing : GoodIn wsX6_at (wsV RX6 80 RX6 yX6_isMissing wsX6_isMissing) := goodIn_app (goodIn_of _ (by decide +kernel)) ggX6_at_X6_isMissing
theorem dX6_at_0 : decode cX6_at 0 = .ok (.iload_n 1, 1) := by decide +kernel
theorem dX6_at_1 : decode cX6_at 1 = .ok (.iconst 0, 1) := by decide +kernel
theorem dX6_at_2 : decode cX6_at 2 = .ok (.aload_n 0, 1) := by decide +kernel
theorem dX6_at_3 : decode cX6_at 3 = .ok (.getfield 61, 3) := by decide +kernel
theorem dX6_at_6 : decode cX6_at 6 = .ok (.iconst 1, 1) := by decide +kernel
theorem dX6_at_7 : decode cX6_at 7 = .ok (.isub, 1) := by decide +kernel
theorem dX6_at_8 : decode cX6_at 8 = .ok (.invokestatic 64, 3) := by decide +kernel
theorem dX6_at_11 : decode cX6_at 11 = .ok (.ifCond .eq 19, 3) := by decide +kernel
theorem dX6_at_14 : decode cX6_at 14 = .ok (.iload_n 2, 1) := by decide +kernel
theorem dX6_at_15 : decode cX6_at 15 = .ok (.iconst 0, 1) := by decide +kernel
theorem dX6_at_16 : decode cX6_at 16 = .ok (.iconst 2, 1) := by decide +kernel
theorem dX6_at_17 : decode cX6_at 17 = .ok (.invokestatic 64, 3) := by decide +kernel
theorem dX6_at_20 : decode cX6_at 20 = .ok (.ifCond .eq 10, 3) := by decide +kernel
theorem dX6_at_23 : decode cX6_at 23 = .ok (.aload_n 0, 1) := by decide +kernel
theorem dX6_at_24 : decode cX6_at 24 = .ok (.invokevirtual 127, 3) := by decide +kernel
theorem dX6_at_27 : decode cX6_at 27 = .ok (.ifCond .ne 5, 3) := by decide +kernel
theorem dX6_at_30 : decode cX6_at 30 = .ok (.iconst (-1), 1) := by decide +kernel
theorem dX6_at_31 : decode cX6_at 31 = .ok (.ireturn, 1) := by decide +kernel
theorem dX6_at_32 : decode cX6_at 32 = .ok (.iload_n 2, 1) := by decide +kernel
theorem dX6_at_33 : decode cX6_at 33 = .ok (.ifCond .ne 12, 3) := by decide +kernel
theorem dX6_at_36 : decode cX6_at 36 = .ok (.aload_n 0, 1) := by decide +kernel
theorem dX6_at_37 : decode cX6_at 37 = .ok (.getfield 55, 3) := by decide +kernel
theorem dX6_at_40 : decode cX6_at 40 = .ok (.iload_n 1, 1) := by decide +kernel
theorem dX6_at_41 : decode cX6_at 41 = .ok (.iaload, 1) := by decide +kernel
theorem dX6_at_42 : decode cX6_at 42 = .ok (.goto 61, 3) := by decide +kernel
theorem dX6_at_45 : decode cX6_at 45 = .ok (.iload_n 2, 1) := by decide +kernel
theorem dX6_at_46 : decode cX6_at 46 = .ok (.iconst 1, 1) := by decide +kernel
theorem dX6_at_47 : decode cX6_at 47 = .ok (.if_icmp .ne 12, 3) := by decide +kernel
theorem dX6_at_50 : decode cX6_at 50 = .ok (.aload_n 0, 1) := by decide +kernel
theorem dX6_at_51 : decode cX6_at 51 = .ok (.getfield 58, 3) := by decide +kernel
theorem dX6_at_54 : decode cX6_at 54 = .ok (.iload_n 1, 1) := by decide +kernel
theorem dX6_at_55 : decode cX6_at 55 = .ok (.iaload, 1) := by decide +kernel
theorem dX6_at_56 : decode cX6_at 56 = .ok (.goto 47, 3) := by decide +kernel
theorem dX6_at_59 : decode cX6_at 59 = .ok (.iload_n 1, 1) := by decide +kernel
theorem dX6_at_60 : decode cX6_at 60 = .ok (.ifCond .le 42, 3) := by decide +kernel
theorem dX6_at_63 : decode cX6_at 63 = .ok (.aload_n 0, 1) := by decide +kernel
theorem dX6_at_64 : decode cX6_at 64 = .ok (.aload_n 0, 1) := by decide +kernel
theorem dX6_at_65 : decode cX6_at 65 = .ok (.getfield 55, 3) := by decide +kernel
theorem dX6_at_68 : decode cX6_at 68 = .ok (.iload_n 1, 1) := by decide +kernel
theorem dX6_at_69 : decode cX6_at 69 = .ok (.iconst 1, 1) := by decide +kernel
theorem dX6_at_70 : decode cX6_at 70 = .ok (.isub, 1) := by decide +kernel
theorem dX6_at_71 : decode cX6_at 71 = .ok (.iaload, 1) := by decide +kernel
theorem dX6_at_72 : decode cX6_at 72 = .ok (.aload_n 0, 1) := by decide +kernel
theorem dX6_at_73 : decode cX6_at 73 = .ok (.getfield 58, 3) := by decide +kernel
theorem dX6_at_76 : decode cX6_at 76 = .ok (.iload_n 1, 1) := by decide +kernel
theorem dX6_at_77 : decode cX6_at 77 = .ok (.iconst 1, 1) := by decide +kernel
theorem dX6_at_78 : decode cX6_at 78 = .ok (.isub, 1) := by decide +kernel
theorem dX6_at_79 : decode cX6_at 79 = .ok (.iaload, 1) := by decide +kernel
theorem dX6_at_80 : decode cX6_at 80 = .ok (.aload_n 0, 1) := by decide +kernel
theorem dX6_at_81 : decode cX6_at 81 = .ok (.getfield 55, 3) := by decide +kernel
theorem dX6_at_84 : decode cX6_at 84 = .ok (.iload_n 1, 1) := by decide +kernel
theorem dX6_at_85 : decode cX6_at 85 = .ok (.iaload, 1) := by decide +kernel
theorem dX6_at_86 : decode cX6_at 86 = .ok (.aload_n 0, 1) := by decide +kernel
theorem dX6_at_87 : decode cX6_at 87 = .ok (.getfield 58, 3) := by decide +kernel
theorem dX6_at_90 : decode cX6_at 90 = .ok (.iload_n 1, 1) := by decide +kernel
theorem dX6_at_91 : decode cX6_at 91 = .ok (.iaload, 1) := by decide +kernel
theorem dX6_at_92 : decode cX6_at 92 = .ok (.invokevirtual 80, 3) := by decide +kernel
theorem dX6_at_95 : decode cX6_at 95 = .ok (.ifCond .eq 7, 3) := by decide +kernel
theorem dX6_at_98 : decode cX6_at 98 = .ok (.iconst 1, 1) := by decide +kernel
theorem dX6_at_99 : decode cX6_at 99 = .ok (.goto 4, 3) := by decide +kernel
theorem dX6_at_102 : decode cX6_at 102 = .ok (.iconst 0, 1) := by decide +kernel
theorem dX6_at_103 : decode cX6_at 103 = .ok (.ireturn, 1) := by decide +kernel
set_option maxRecDepth 20000 in
theorem ggX6_next_X6_orders : GoodIn wsX6_next wsX6_orders := goodIn_r _ [6, 7, 8, 9, 10, 11, 12, 13, 14, 15, 5, 16, 17, 18, 19, 20, 21, 22, 23, 24, 25, 26, 27, 28, 29, 30, 31, 32, 33, 34, 35, 36, 37, 38, 39, 40, 41, 42, 43, 44, 45, 46, 47, 48, 49, 50, 51, 52, 53, 67, 68, 69, 70, 71, 72, 73, 74, 75, 76, 77, 78, 79, 80, 81, 82, 83, 84, 85, 86] (by decide +kernel) (by decide +kernel)
set_option maxRecDepth 20000 in
theorem gX6_next_X6_orders : GoodIn wsX6_next (wsV RX6 109 RX6 yX6_orders wsX6_orders) := goodIn_app (goodIn_of _ (by decide +kernel)) ggX6_next_X6_orders
set_option maxRecDepth 20000 in
theorem ggX6_next_X6_all : GoodIn wsX6_next wsX6_all := goodIn_r _ [57, 7, 67, 68, 69, 70, 71, 72, 73, 74, 75, 76, 77, 78, 79, 80, 81, 82, 83, 84, 85, 86] (by decide +kernel) (by decide +kernel)
set_option maxRecDepth 20000 in
theorem gX6_next_X6_all : GoodIn wsX6_next (wsV RX6 112 RX6 yX6_all wsX6_all) := goodIn_app (goodIn_of _ (by decide +kernel)) ggX6_next_X6_all
set_option maxRecDepth 20000 in
theorem ggX6_next_X6_looks : GoodIn wsX6_next wsX6_looks := goodIn_r _ [61, 10, 62, 1, 9, 11, 67, 68, 69, 70, 71, 72, 73, 74, 75, 76, 77, 78, 79, 80, 81, 82, 83, 84, 85, 86] (by decide +kernel) (by decide +kernel)
set_option maxRecDepth 20000 in
theorem gX6_next_X6_looks : GoodIn wsX6_next (wsV RX6 116 RX6 yX6_looks wsX6_looks) := goodIn_app (goodIn_of _ (by decide +kernel)) ggX6_next_X6_looks
set_option maxRecDepth 20000 in
theorem ggX6_next_X6_told : GoodIn wsX6_next wsX6_told := goodIn_r _ [66, 10] (by decide +kernel) (by decide +kernel)
set_option maxRecDepth 20000 in
theorem gX6_next_X6_told : GoodIn wsX6_next (wsV RX6 120 RX6 yX6_told wsX6_told) := goodIn_app (goodIn_of _ (by decide +kernel)) ggX6_next_X6_told
theorem dX6_next_0 : decode cX6_next 0 = .ok (.aload_n 0, 1) := by decide +kernel
theorem dX6_next_1 : decode cX6_next 1 = .ok (.invokevirtual 109, 3) := by decide +kernel
theorem dX6_next_4 : decode cX6_next 4 = .ok (.aload_n 0, 1) := by decide +kernel
theorem dX6_next_5 : decode cX6_next 5 = .ok (.aload_n 0, 1) := by decide +kernel
theorem dX6_next_6 : decode cX6_next 6 = .ok (.invokevirtual 112, 3) := by decide +kernel
theorem dX6_next_9 : decode cX6_next 9 = .ok (.invokevirtual 116, 3) := by decide +kernel
theorem dX6_next_12 : decode cX6_next 12 = .ok (.aload_n 0, 1) := by decide +kernel
theorem dX6_next_13 : decode cX6_next 13 = .ok (.aload_n 0, 1) := by decide +kernel
theorem dX6_next_14 : decode cX6_next 14 = .ok (.getfield 106, 3) := by decide +kernel
theorem dX6_next_17 : decode cX6_next 17 = .ok (.invokevirtual 120, 3) := by decide +kernel
theorem dX6_next_20 : decode cX6_next 20 = .ok (.ireturn, 1) := by decide +kernel
set_option maxRecDepth 20000 in
theorem ggX6_sure_X6_isLeaf : GoodIn wsX6_sure wsX6_isLeaf := goodIn_r _ [7, 8, 9, 10, 6, 11, 78, 79, 80, 81, 82, 83, 84, 85, 86, 87, 88, 89, 90, 91, 92, 93, 94, 95, 96, 97] (by decide +kernel) (by decide +kernel)
set_option maxRecDepth 20000 in
theorem gX6_sure_X6_isLeaf : GoodIn wsX6_sure (wsV RX6 68 RX6 yX6_isLeaf wsX6_isLeaf) := goodIn_app (goodIn_of _ (by decide +kernel)) ggX6_sure_X6_isLeaf
set_option maxRecDepth 20000 in
theorem ggX6_sure_X6_in : GoodIn wsX6_sure wsX6_in := goodIn_r _ [11] (by decide +kernel) (by decide +kernel)
set_option maxRecDepth 20000 in
theorem gX6_sure_X6_in : GoodIn wsX6_sure (va_wsS RX6 64 yX6_in wsX6_in) := goodIn_app (goodIn_of _ (by decide +kernel)) ggX6_sure_X6_in
set_option maxRecDepth 20000 in
theorem ggX6_sure_X6_best : GoodIn wsX6_sure wsX6_best := goodIn_r _ [15, 16, 17, 18, 19, 6, 20, 8, 21, 22, 23, 24, 25, 26, 27, 28, 29, 30, 31, 32, 33, 34, 35, 36, 37, 38, 39, 1, 2, 40, 41, 42, 43, 44, 45, 46, 47, 48, 49, 50, 51, 52, 53, 54, 55, 56, 57, 58, 59, 60, 61, 62, 63, 64, 65, 66, 67, 68, 69, 70, 71, 72, 73, 74, 75, 76, 77, 78, 79, 80, 81, 82, 83, 84, 85, 86, 87, 88, 89, 90, 91, 92, 93, 94, 95, 96, 97] (by decide +kernel) (by decide +kernel)
set_option maxRecDepth 20000 in
theorem gX6_sure_X6_best : GoodIn wsX6_sure (wsV RX6 124 RX6 yX6_best wsX6_best) := goodIn_app (goodIn_of _ (by decide +kernel)) ggX6_sure_X6_best
theorem dX6_sure_0 : decode cX6_sure 0 = .ok (.aload_n 0, 1) := by decide +kernel
theorem dX6_sure_1 : decode cX6_sure 1 = .ok (.iload_n 1, 1) := by decide +kernel
theorem dX6_sure_2 : decode cX6_sure 2 = .ok (.invokevirtual 68, 3) := by decide +kernel
theorem dX6_sure_5 : decode cX6_sure 5 = .ok (.ifCond .eq 27, 3) := by decide +kernel
theorem dX6_sure_8 : decode cX6_sure 8 = .ok (.aload_n 0, 1) := by decide +kernel
theorem dX6_sure_9 : decode cX6_sure 9 = .ok (.iload_n 2, 1) := by decide +kernel
theorem dX6_sure_10 : decode cX6_sure 10 = .ok (.invokevirtual 68, 3) := by decide +kernel
theorem dX6_sure_13 : decode cX6_sure 13 = .ok (.ifCond .eq 19, 3) := by decide +kernel
theorem dX6_sure_16 : decode cX6_sure 16 = .ok (.iload_n 1, 1) := by decide +kernel
theorem dX6_sure_17 : decode cX6_sure 17 = .ok (.iload_n 2, 1) := by decide +kernel
theorem dX6_sure_18 : decode cX6_sure 18 = .ok (.if_icmp .eq 14, 3) := by decide +kernel
theorem dX6_sure_21 : decode cX6_sure 21 = .ok (.iload_n 3, 1) := by decide +kernel
theorem dX6_sure_22 : decode cX6_sure 22 = .ok (.iconst 0, 1) := by decide +kernel
theorem dX6_sure_23 : decode cX6_sure 23 = .ok (.sipush 1000, 3) := by decide +kernel
theorem dX6_sure_26 : decode cX6_sure 26 = .ok (.invokestatic 64, 3) := by decide +kernel
theorem dX6_sure_29 : decode cX6_sure 29 = .ok (.ifCond .ne 5, 3) := by decide +kernel
theorem dX6_sure_32 : decode cX6_sure 32 = .ok (.iconst (-1), 1) := by decide +kernel
theorem dX6_sure_33 : decode cX6_sure 33 = .ok (.ireturn, 1) := by decide +kernel
theorem dX6_sure_34 : decode cX6_sure 34 = .ok (.aload_n 0, 1) := by decide +kernel
theorem dX6_sure_35 : decode cX6_sure 35 = .ok (.invokevirtual 124, 3) := by decide +kernel
theorem dX6_sure_38 : decode cX6_sure 38 = .ok (.istore 4, 2) := by decide +kernel
theorem dX6_sure_40 : decode cX6_sure 40 = .ok (.iload 4, 2) := by decide +kernel
theorem dX6_sure_42 : decode cX6_sure 42 = .ok (.ifCond .ge 5, 3) := by decide +kernel
theorem dX6_sure_45 : decode cX6_sure 45 = .ok (.iconst (-1), 1) := by decide +kernel
theorem dX6_sure_46 : decode cX6_sure 46 = .ok (.ireturn, 1) := by decide +kernel
theorem dX6_sure_47 : decode cX6_sure 47 = .ok (.aload_n 0, 1) := by decide +kernel
theorem dX6_sure_48 : decode cX6_sure 48 = .ok (.iload_n 1, 1) := by decide +kernel
theorem dX6_sure_49 : decode cX6_sure 49 = .ok (.putfield 48, 3) := by decide +kernel
theorem dX6_sure_52 : decode cX6_sure 52 = .ok (.aload_n 0, 1) := by decide +kernel
theorem dX6_sure_53 : decode cX6_sure 53 = .ok (.iload_n 2, 1) := by decide +kernel
theorem dX6_sure_54 : decode cX6_sure 54 = .ok (.putfield 52, 3) := by decide +kernel
theorem dX6_sure_57 : decode cX6_sure 57 = .ok (.aload_n 0, 1) := by decide +kernel
theorem dX6_sure_58 : decode cX6_sure 58 = .ok (.invokevirtual 124, 3) := by decide +kernel
theorem dX6_sure_61 : decode cX6_sure 61 = .ok (.istore 5, 2) := by decide +kernel
theorem dX6_sure_63 : decode cX6_sure 63 = .ok (.aload_n 0, 1) := by decide +kernel
theorem dX6_sure_64 : decode cX6_sure 64 = .ok (.iconst (-1), 1) := by decide +kernel
theorem dX6_sure_65 : decode cX6_sure 65 = .ok (.putfield 48, 3) := by decide +kernel
theorem dX6_sure_68 : decode cX6_sure 68 = .ok (.aload_n 0, 1) := by decide +kernel
theorem dX6_sure_69 : decode cX6_sure 69 = .ok (.iconst (-1), 1) := by decide +kernel
theorem dX6_sure_70 : decode cX6_sure 70 = .ok (.putfield 52, 3) := by decide +kernel
theorem dX6_sure_73 : decode cX6_sure 73 = .ok (.iload 5, 2) := by decide +kernel
theorem dX6_sure_75 : decode cX6_sure 75 = .ok (.ifCond .lt 12, 3) := by decide +kernel
theorem dX6_sure_78 : decode cX6_sure 78 = .ok (.iload 5, 2) := by decide +kernel
theorem dX6_sure_80 : decode cX6_sure 80 = .ok (.iload 4, 2) := by decide +kernel
theorem dX6_sure_82 : decode cX6_sure 82 = .ok (.iload_n 3, 1) := by decide +kernel
theorem dX6_sure_83 : decode cX6_sure 83 = .ok (.iadd, 1) := by decide +kernel
theorem dX6_sure_84 : decode cX6_sure 84 = .ok (.if_icmp .le 7, 3) := by decide +kernel
theorem dX6_sure_87 : decode cX6_sure 87 = .ok (.iconst 1, 1) := by decide +kernel
theorem dX6_sure_88 : decode cX6_sure 88 = .ok (.goto 4, 3) := by decide +kernel
theorem dX6_sure_91 : decode cX6_sure 91 = .ok (.iconst 0, 1) := by decide +kernel
theorem dX6_sure_92 : decode cX6_sure 92 = .ok (.ireturn, 1) := by decide +kernel
set_option maxRecDepth 20000 in
theorem ggX6_parts_X6_all : GoodIn wsX6_parts wsX6_all := goodIn_r _ [8, 9, 17, 18, 19, 20, 21, 22, 23, 24, 25, 26, 27, 28, 29, 30, 31, 32, 33, 34, 35, 36] (by decide +kernel) (by decide +kernel)
set_option maxRecDepth 20000 in
theorem gX6_parts_X6_all : GoodIn wsX6_parts (wsV RX6 112 RX6 yX6_all wsX6_all) := goodIn_app (goodIn_of _ (by decide +kernel)) ggX6_parts_X6_all
set_option maxRecDepth 20000 in
theorem ggX6_parts_X6_looks : GoodIn wsX6_parts wsX6_looks := goodIn_r _ [13, 1, 2, 14, 15, 16, 17, 18, 19, 20, 21, 22, 23, 24, 25, 26, 27, 28, 29, 30, 31, 32, 33, 34, 35, 36] (by decide +kernel) (by decide +kernel)
set_option maxRecDepth 20000 in
theorem gX6_parts_X6_looks : GoodIn wsX6_parts (wsV RX6 116 RX6 yX6_looks wsX6_looks) := goodIn_app (goodIn_of _ (by decide +kernel)) ggX6_parts_X6_looks
theorem dX6_parts_0 : decode cX6_parts 0 = .ok (.ldc 87, 2) := by decide +kernel
theorem dX6_parts_2 : decode cX6_parts 2 = .ok (.istore_n 3, 1) := by decide +kernel
theorem dX6_parts_3 : decode cX6_parts 3 = .ok (.iconst 2, 1) := by decide +kernel
theorem dX6_parts_4 : decode cX6_parts 4 = .ok (.istore 4, 2) := by decide +kernel
theorem dX6_parts_6 : decode cX6_parts 6 = .ok (.iload 4, 2) := by decide +kernel
theorem dX6_parts_8 : decode cX6_parts 8 = .ok (.aload_n 0, 1) := by decide +kernel
theorem dX6_parts_9 : decode cX6_parts 9 = .ok (.invokevirtual 112, 3) := by decide +kernel
theorem dX6_parts_12 : decode cX6_parts 12 = .ok (.if_icmp .gt 108, 3) := by decide +kernel
theorem dX6_parts_15 : decode cX6_parts 15 = .ok (.iload_n 1, 1) := by decide +kernel
theorem dX6_parts_16 : decode cX6_parts 16 = .ok (.ifCond .lt 34, 3) := by decide +kernel
theorem dX6_parts_19 : decode cX6_parts 19 = .ok (.iload 4, 2) := by decide +kernel
theorem dX6_parts_21 : decode cX6_parts 21 = .ok (.iload_n 1, 1) := by decide +kernel
theorem dX6_parts_22 : decode cX6_parts 22 = .ok (.ishr, 1) := by decide +kernel
theorem dX6_parts_23 : decode cX6_parts 23 = .ok (.iconst 1, 1) := by decide +kernel
theorem dX6_parts_24 : decode cX6_parts 24 = .ok (.iand, 1) := by decide +kernel
theorem dX6_parts_25 : decode cX6_parts 25 = .ok (.iconst 1, 1) := by decide +kernel
theorem dX6_parts_26 : decode cX6_parts 26 = .ok (.if_icmp .ne 7, 3) := by decide +kernel
theorem dX6_parts_29 : decode cX6_parts 29 = .ok (.iconst 1, 1) := by decide +kernel
theorem dX6_parts_30 : decode cX6_parts 30 = .ok (.goto 4, 3) := by decide +kernel
theorem dX6_parts_33 : decode cX6_parts 33 = .ok (.iconst 0, 1) := by decide +kernel
theorem dX6_parts_34 : decode cX6_parts 34 = .ok (.iload_n 2, 1) := by decide +kernel
theorem dX6_parts_35 : decode cX6_parts 35 = .ok (.iconst 2, 1) := by decide +kernel
theorem dX6_parts_36 : decode cX6_parts 36 = .ok (.if_icmp .ne 7, 3) := by decide +kernel
theorem dX6_parts_39 : decode cX6_parts 39 = .ok (.iconst 1, 1) := by decide +kernel
theorem dX6_parts_40 : decode cX6_parts 40 = .ok (.goto 4, 3) := by decide +kernel
theorem dX6_parts_43 : decode cX6_parts 43 = .ok (.iconst 0, 1) := by decide +kernel
theorem dX6_parts_44 : decode cX6_parts 44 = .ok (.if_icmp .eq 6, 3) := by decide +kernel
theorem dX6_parts_47 : decode cX6_parts 47 = .ok (.goto 67, 3) := by decide +kernel
theorem dX6_parts_50 : decode cX6_parts 50 = .ok (.aload_n 0, 1) := by decide +kernel
theorem dX6_parts_51 : decode cX6_parts 51 = .ok (.iload 4, 2) := by decide +kernel
theorem dX6_parts_53 : decode cX6_parts 53 = .ok (.invokevirtual 116, 3) := by decide +kernel
theorem dX6_parts_56 : decode cX6_parts 56 = .ok (.aload_n 0, 1) := by decide +kernel
theorem dX6_parts_57 : decode cX6_parts 57 = .ok (.getfield 103, 3) := by decide +kernel
theorem dX6_parts_60 : decode cX6_parts 60 = .ok (.istore 5, 2) := by decide +kernel
theorem dX6_parts_62 : decode cX6_parts 62 = .ok (.aload_n 0, 1) := by decide +kernel
theorem dX6_parts_63 : decode cX6_parts 63 = .ok (.aload_n 0, 1) := by decide +kernel
theorem dX6_parts_64 : decode cX6_parts 64 = .ok (.invokevirtual 112, 3) := by decide +kernel
theorem dX6_parts_67 : decode cX6_parts 67 = .ok (.iload 4, 2) := by decide +kernel
theorem dX6_parts_69 : decode cX6_parts 69 = .ok (.isub, 1) := by decide +kernel
theorem dX6_parts_70 : decode cX6_parts 70 = .ok (.invokevirtual 116, 3) := by decide +kernel
theorem dX6_parts_73 : decode cX6_parts 73 = .ok (.iload 5, 2) := by decide +kernel
theorem dX6_parts_75 : decode cX6_parts 75 = .ok (.ldc 87, 2) := by decide +kernel
theorem dX6_parts_77 : decode cX6_parts 77 = .ok (.if_icmp .ge 37, 3) := by decide +kernel
theorem dX6_parts_80 : decode cX6_parts 80 = .ok (.aload_n 0, 1) := by decide +kernel
theorem dX6_parts_81 : decode cX6_parts 81 = .ok (.getfield 103, 3) := by decide +kernel
theorem dX6_parts_84 : decode cX6_parts 84 = .ok (.ldc 87, 2) := by decide +kernel
theorem dX6_parts_86 : decode cX6_parts 86 = .ok (.if_icmp .ge 28, 3) := by decide +kernel
theorem dX6_parts_89 : decode cX6_parts 89 = .ok (.iload 5, 2) := by decide +kernel
theorem dX6_parts_91 : decode cX6_parts 91 = .ok (.aload_n 0, 1) := by decide +kernel
theorem dX6_parts_92 : decode cX6_parts 92 = .ok (.getfield 103, 3) := by decide +kernel
theorem dX6_parts_95 : decode cX6_parts 95 = .ok (.iadd, 1) := by decide +kernel
theorem dX6_parts_96 : decode cX6_parts 96 = .ok (.iload_n 3, 1) := by decide +kernel
theorem dX6_parts_97 : decode cX6_parts 97 = .ok (.if_icmp .ge 17, 3) := by decide +kernel
theorem dX6_parts_100 : decode cX6_parts 100 = .ok (.iload 5, 2) := by decide +kernel
theorem dX6_parts_102 : decode cX6_parts 102 = .ok (.aload_n 0, 1) := by decide +kernel
theorem dX6_parts_103 : decode cX6_parts 103 = .ok (.getfield 103, 3) := by decide +kernel
theorem dX6_parts_106 : decode cX6_parts 106 = .ok (.iadd, 1) := by decide +kernel
theorem dX6_parts_107 : decode cX6_parts 107 = .ok (.istore_n 3, 1) := by decide +kernel
theorem dX6_parts_108 : decode cX6_parts 108 = .ok (.aload_n 0, 1) := by decide +kernel
theorem dX6_parts_109 : decode cX6_parts 109 = .ok (.iload 4, 2) := by decide +kernel
theorem dX6_parts_111 : decode cX6_parts 111 = .ok (.putfield 131, 3) := by decide +kernel
theorem dX6_parts_114 : decode cX6_parts 114 = .ok (.iinc 4 2, 3) := by decide +kernel
theorem dX6_parts_117 : decode cX6_parts 117 = .ok (.goto (-111), 3) := by decide +kernel
theorem dX6_parts_120 : decode cX6_parts 120 = .ok (.iload_n 3, 1) := by decide +kernel
theorem dX6_parts_121 : decode cX6_parts 121 = .ok (.ireturn, 1) := by decide +kernel
set_option maxRecDepth 20000 in
theorem ggX6_two_X6_orders : GoodIn wsX6_two wsX6_orders := goodIn_r _ [6, 1, 7, 8, 9, 10, 11, 12, 13, 14, 5, 15, 16, 17, 18, 19, 20, 21, 22, 23, 24, 25, 26, 27, 28, 29, 30, 31, 32, 33, 34, 35, 36, 37, 38, 39, 40, 41, 42, 43, 44, 45, 46, 47, 48, 49, 50, 51, 52, 72, 73, 74, 75, 76, 77, 78, 79, 80, 81, 82, 83, 84, 85, 86, 87, 88, 89, 90, 91] (by decide +kernel) (by decide +kernel)
set_option maxRecDepth 20000 in
theorem gX6_two_X6_orders : GoodIn wsX6_two (wsV RX6 109 RX6 yX6_orders wsX6_orders) := goodIn_app (goodIn_of _ (by decide +kernel)) ggX6_two_X6_orders
set_option maxRecDepth 20000 in
theorem ggX6_two_X6_parts : GoodIn wsX6_two wsX6_parts := goodIn_r _ [56, 9, 57, 58, 59, 60, 61, 5, 62, 1, 63, 64, 65, 66, 67, 8, 10, 72, 73, 74, 75, 76, 77, 78, 79, 80, 81, 82, 83, 84, 85, 86, 87, 88, 89, 90, 91] (by decide +kernel) (by decide +kernel)
set_option maxRecDepth 20000 in
theorem gX6_two_X6_parts : GoodIn wsX6_two (wsV RX6 134 RX6 yX6_parts wsX6_parts) := goodIn_app (goodIn_of _ (by decide +kernel)) ggX6_two_X6_parts
set_option maxRecDepth 20000 in
theorem ggX6_two_X6_told : GoodIn wsX6_two wsX6_told := goodIn_r _ [71, 9] (by decide +kernel) (by decide +kernel)
set_option maxRecDepth 20000 in
theorem gX6_two_X6_told : GoodIn wsX6_two (wsV RX6 120 RX6 yX6_told wsX6_told) := goodIn_app (goodIn_of _ (by decide +kernel)) ggX6_two_X6_told
theorem dX6_two_0 : decode cX6_two 0 = .ok (.aload_n 0, 1) := by decide +kernel
theorem dX6_two_1 : decode cX6_two 1 = .ok (.getfield 61, 3) := by decide +kernel
theorem dX6_two_4 : decode cX6_two 4 = .ok (.iconst 2, 1) := by decide +kernel
theorem dX6_two_5 : decode cX6_two 5 = .ok (.if_icmp .ge 5, 3) := by decide +kernel
theorem dX6_two_8 : decode cX6_two 8 = .ok (.iconst (-1), 1) := by decide +kernel
theorem dX6_two_9 : decode cX6_two 9 = .ok (.ireturn, 1) := by decide +kernel
theorem dX6_two_10 : decode cX6_two 10 = .ok (.aload_n 0, 1) := by decide +kernel
theorem dX6_two_11 : decode cX6_two 11 = .ok (.invokevirtual 109, 3) := by decide +kernel
theorem dX6_two_14 : decode cX6_two 14 = .ok (.aload_n 0, 1) := by decide +kernel
theorem dX6_two_15 : decode cX6_two 15 = .ok (.aload_n 0, 1) := by decide +kernel
theorem dX6_two_16 : decode cX6_two 16 = .ok (.iconst (-1), 1) := by decide +kernel
theorem dX6_two_17 : decode cX6_two 17 = .ok (.iconst 0, 1) := by decide +kernel
theorem dX6_two_18 : decode cX6_two 18 = .ok (.invokevirtual 134, 3) := by decide +kernel
theorem dX6_two_21 : decode cX6_two 21 = .ok (.invokevirtual 120, 3) := by decide +kernel
theorem dX6_two_24 : decode cX6_two 24 = .ok (.ireturn, 1) := by decide +kernel
set_option maxRecDepth 20000 in
theorem ggX6_book_X6_isLeaf : GoodIn wsX6_book wsX6_isLeaf := goodIn_r _ [6, 7, 8, 9, 5, 10, 83, 84, 85, 86, 87, 88, 89, 90, 91, 92, 93, 94, 95, 96, 97, 98, 99, 100, 101, 102] (by decide +kernel) (by decide +kernel)
set_option maxRecDepth 20000 in
theorem gX6_book_X6_isLeaf : GoodIn wsX6_book (wsV RX6 68 RX6 yX6_isLeaf wsX6_isLeaf) := goodIn_app (goodIn_of _ (by decide +kernel)) ggX6_book_X6_isLeaf
set_option maxRecDepth 20000 in
theorem ggX6_book_X6_two : GoodIn wsX6_book wsX6_two := goodIn_r _ [14, 7, 15, 16, 17, 5, 18, 19, 20, 21, 22, 23, 24, 25, 26, 27, 28, 29, 30, 31, 32, 33, 34, 35, 36, 37, 38, 39, 40, 41, 42, 43, 44, 45, 46, 47, 48, 49, 50, 51, 52, 53, 54, 55, 56, 57, 58, 59, 60, 61, 62, 63, 64, 65, 66, 67, 68, 69, 1, 70, 71, 72, 73, 74, 75, 76, 77, 78, 79, 80, 81, 82, 83, 84, 85, 86, 87, 88, 89, 90, 91, 92, 93, 94, 95, 96, 97, 98, 99, 100, 101, 102] (by decide +kernel) (by decide +kernel)
set_option maxRecDepth 20000 in
theorem gX6_book_X6_two : GoodIn wsX6_book (wsV RX6 137 RX6 yX6_two wsX6_two) := goodIn_app (goodIn_of _ (by decide +kernel)) ggX6_book_X6_two
theorem dX6_book_0 : decode cX6_book 0 = .ok (.aload_n 0, 1) := by decide +kernel
theorem dX6_book_1 : decode cX6_book 1 = .ok (.iload_n 1, 1) := by decide +kernel
theorem dX6_book_2 : decode cX6_book 2 = .ok (.invokevirtual 68, 3) := by decide +kernel
theorem dX6_book_5 : decode cX6_book 5 = .ok (.ifCond .eq 10, 3) := by decide +kernel
theorem dX6_book_8 : decode cX6_book 8 = .ok (.aload_n 0, 1) := by decide +kernel
theorem dX6_book_9 : decode cX6_book 9 = .ok (.invokevirtual 137, 3) := by decide +kernel
theorem dX6_book_12 : decode cX6_book 12 = .ok (.ifCond .ge 7, 3) := by decide +kernel
theorem dX6_book_15 : decode cX6_book 15 = .ok (.iconst (-1), 1) := by decide +kernel
theorem dX6_book_16 : decode cX6_book 16 = .ok (.goto 11, 3) := by decide +kernel
theorem dX6_book_19 : decode cX6_book 19 = .ok (.aload_n 0, 1) := by decide +kernel
theorem dX6_book_20 : decode cX6_book 20 = .ok (.getfield 131, 3) := by decide +kernel
theorem dX6_book_23 : decode cX6_book 23 = .ok (.iload_n 1, 1) := by decide +kernel
theorem dX6_book_24 : decode cX6_book 24 = .ok (.ishr, 1) := by decide +kernel
theorem dX6_book_25 : decode cX6_book 25 = .ok (.iconst 1, 1) := by decide +kernel
theorem dX6_book_26 : decode cX6_book 26 = .ok (.iand, 1) := by decide +kernel
theorem dX6_book_27 : decode cX6_book 27 = .ok (.ireturn, 1) := by decide +kernel
set_option maxRecDepth 20000 in
theorem ggX6_doubt_X6_isLeaf : GoodIn wsX6_doubt wsX6_isLeaf := goodIn_r _ [6, 7, 8, 9, 5, 10, 83, 84, 85, 86, 87, 88, 89, 90, 91, 92, 93, 94, 95, 96, 97, 98, 99, 100, 101, 102] (by decide +kernel) (by decide +kernel)
set_option maxRecDepth 20000 in
theorem gX6_doubt_X6_isLeaf : GoodIn wsX6_doubt (wsV RX6 68 RX6 yX6_isLeaf wsX6_isLeaf) := goodIn_app (goodIn_of _ (by decide +kernel)) ggX6_doubt_X6_isLeaf
set_option maxRecDepth 20000 in
theorem ggX6_doubt_X6_in : GoodIn wsX6_doubt wsX6_in := goodIn_r _ [10] (by decide +kernel) (by decide +kernel)
set_option maxRecDepth 20000 in
theorem gX6_doubt_X6_in : GoodIn wsX6_doubt (va_wsS RX6 64 yX6_in wsX6_in) := goodIn_app (goodIn_of _ (by decide +kernel)) ggX6_doubt_X6_in
set_option maxRecDepth 20000 in
theorem ggX6_doubt_X6_two : GoodIn wsX6_doubt wsX6_two := goodIn_r _ [14, 7, 15, 16, 17, 5, 18, 19, 20, 21, 22, 23, 24, 25, 26, 27, 28, 29, 30, 31, 32, 33, 34, 35, 36, 37, 38, 39, 40, 41, 42, 43, 44, 45, 46, 47, 48, 49, 50, 51, 52, 53, 54, 55, 56, 57, 58, 59, 60, 61, 62, 63, 64, 65, 66, 67, 68, 69, 1, 70, 71, 72, 73, 74, 75, 76, 77, 78, 79, 80, 81, 82, 83, 84, 85, 86, 87, 88, 89, 90, 91, 92, 93, 94, 95, 96, 97, 98, 99, 100, 101, 102] (by decide +kernel) (by decide +kernel)
set_option maxRecDepth 20000 in
theorem gX6_doubt_X6_two : GoodIn wsX6_doubt (wsV RX6 137 RX6 yX6_two wsX6_two) := goodIn_app (goodIn_of _ (by decide +kernel)) ggX6_doubt_X6_two
set_option maxRecDepth 20000 in
theorem ggX6_doubt_X6_parts : GoodIn wsX6_doubt wsX6_parts := goodIn_r _ [68, 21, 69, 1, 70, 71, 72, 5, 73, 7, 74, 75, 76, 77, 78, 20, 22, 83, 84, 85, 86, 87, 88, 89, 90, 91, 92, 93, 94, 95, 96, 97, 98, 99, 100, 101, 102] (by decide +kernel) (by decide +kernel)
set_option maxRecDepth 20000 in
theorem gX6_doubt_X6_parts : GoodIn wsX6_doubt (wsV RX6 134 RX6 yX6_parts wsX6_parts) := goodIn_app (goodIn_of _ (by decide +kernel)) ggX6_doubt_X6_parts
theorem dX6_doubt_0 : decode cX6_doubt 0 = .ok (.aload_n 0, 1) := by decide +kernel
theorem dX6_doubt_1 : decode cX6_doubt 1 = .ok (.iload_n 1, 1) := by decide +kernel
theorem dX6_doubt_2 : decode cX6_doubt 2 = .ok (.invokevirtual 68, 3) := by decide +kernel
theorem dX6_doubt_5 : decode cX6_doubt 5 = .ok (.ifCond .eq 18, 3) := by decide +kernel
theorem dX6_doubt_8 : decode cX6_doubt 8 = .ok (.iload_n 1, 1) := by decide +kernel
theorem dX6_doubt_9 : decode cX6_doubt 9 = .ok (.ifCond .eq 14, 3) := by decide +kernel
theorem dX6_doubt_12 : decode cX6_doubt 12 = .ok (.iload_n 2, 1) := by decide +kernel
theorem dX6_doubt_13 : decode cX6_doubt 13 = .ok (.iconst 0, 1) := by decide +kernel
theorem dX6_doubt_14 : decode cX6_doubt 14 = .ok (.sipush 1000, 3) := by decide +kernel
theorem dX6_doubt_17 : decode cX6_doubt 17 = .ok (.invokestatic 64, 3) := by decide +kernel
theorem dX6_doubt_20 : decode cX6_doubt 20 = .ok (.ifCond .ne 5, 3) := by decide +kernel
theorem dX6_doubt_23 : decode cX6_doubt 23 = .ok (.iconst (-1), 1) := by decide +kernel
theorem dX6_doubt_24 : decode cX6_doubt 24 = .ok (.ireturn, 1) := by decide +kernel
theorem dX6_doubt_25 : decode cX6_doubt 25 = .ok (.aload_n 0, 1) := by decide +kernel
theorem dX6_doubt_26 : decode cX6_doubt 26 = .ok (.invokevirtual 137, 3) := by decide +kernel
theorem dX6_doubt_29 : decode cX6_doubt 29 = .ok (.istore_n 3, 1) := by decide +kernel
theorem dX6_doubt_30 : decode cX6_doubt 30 = .ok (.iload_n 3, 1) := by decide +kernel
theorem dX6_doubt_31 : decode cX6_doubt 31 = .ok (.ifCond .ge 5, 3) := by decide +kernel
theorem dX6_doubt_34 : decode cX6_doubt 34 = .ok (.iconst (-1), 1) := by decide +kernel
theorem dX6_doubt_35 : decode cX6_doubt 35 = .ok (.ireturn, 1) := by decide +kernel
theorem dX6_doubt_36 : decode cX6_doubt 36 = .ok (.aload_n 0, 1) := by decide +kernel
theorem dX6_doubt_37 : decode cX6_doubt 37 = .ok (.iload_n 1, 1) := by decide +kernel
theorem dX6_doubt_38 : decode cX6_doubt 38 = .ok (.aload_n 0, 1) := by decide +kernel
theorem dX6_doubt_39 : decode cX6_doubt 39 = .ok (.getfield 131, 3) := by decide +kernel
theorem dX6_doubt_42 : decode cX6_doubt 42 = .ok (.iload_n 1, 1) := by decide +kernel
theorem dX6_doubt_43 : decode cX6_doubt 43 = .ok (.ishr, 1) := by decide +kernel
theorem dX6_doubt_44 : decode cX6_doubt 44 = .ok (.iconst 1, 1) := by decide +kernel
theorem dX6_doubt_45 : decode cX6_doubt 45 = .ok (.iand, 1) := by decide +kernel
theorem dX6_doubt_46 : decode cX6_doubt 46 = .ok (.iconst 1, 1) := by decide +kernel
theorem dX6_doubt_47 : decode cX6_doubt 47 = .ok (.if_icmp .ne 7, 3) := by decide +kernel
theorem dX6_doubt_50 : decode cX6_doubt 50 = .ok (.iconst 1, 1) := by decide +kernel
theorem dX6_doubt_51 : decode cX6_doubt 51 = .ok (.goto 4, 3) := by decide +kernel
theorem dX6_doubt_54 : decode cX6_doubt 54 = .ok (.iconst 2, 1) := by decide +kernel
theorem dX6_doubt_55 : decode cX6_doubt 55 = .ok (.invokevirtual 134, 3) := by decide +kernel
theorem dX6_doubt_58 : decode cX6_doubt 58 = .ok (.istore 4, 2) := by decide +kernel
theorem dX6_doubt_60 : decode cX6_doubt 60 = .ok (.iload 4, 2) := by decide +kernel
theorem dX6_doubt_62 : decode cX6_doubt 62 = .ok (.iload_n 3, 1) := by decide +kernel
theorem dX6_doubt_63 : decode cX6_doubt 63 = .ok (.iload_n 2, 1) := by decide +kernel
theorem dX6_doubt_64 : decode cX6_doubt 64 = .ok (.iadd, 1) := by decide +kernel
theorem dX6_doubt_65 : decode cX6_doubt 65 = .ok (.if_icmp .gt 7, 3) := by decide +kernel
theorem dX6_doubt_68 : decode cX6_doubt 68 = .ok (.iconst 1, 1) := by decide +kernel
theorem dX6_doubt_69 : decode cX6_doubt 69 = .ok (.goto 4, 3) := by decide +kernel
theorem dX6_doubt_72 : decode cX6_doubt 72 = .ok (.iconst 0, 1) := by decide +kernel
theorem dX6_doubt_73 : decode cX6_doubt 73 = .ok (.ireturn, 1) := by decide +kernel
set_option maxRecDepth 20000 in
theorem ggX6_about_X6_in : GoodIn wsX6_about wsX6_in := goodIn_r _ [7] (by decide +kernel) (by decide +kernel)
set_option maxRecDepth 20000 in
theorem gX6_about_X6_in : GoodIn wsX6_about (va_wsS RX6 64 yX6_in wsX6_in) := goodIn_app (goodIn_of _ (by decide +kernel)) ggX6_about_X6_in
theorem dX6_about_0 : decode cX6_about 0 = .ok (.iload_n 1, 1) := by decide +kernel
theorem dX6_about_1 : decode cX6_about 1 = .ok (.ifCond .ne 10, 3) := by decide +kernel
theorem dX6_about_4 : decode cX6_about 4 = .ok (.aload_n 0, 1) := by decide +kernel
theorem dX6_about_5 : decode cX6_about 5 = .ok (.getfield 61, 3) := by decide +kernel
theorem dX6_about_8 : decode cX6_about 8 = .ok (.goto 46, 3) := by decide +kernel
theorem dX6_about_11 : decode cX6_about 11 = .ok (.iload_n 1, 1) := by decide +kernel
theorem dX6_about_12 : decode cX6_about 12 = .ok (.iconst 1, 1) := by decide +kernel
theorem dX6_about_13 : decode cX6_about 13 = .ok (.bipush 6, 2) := by decide +kernel
theorem dX6_about_15 : decode cX6_about 15 = .ok (.invokestatic 64, 3) := by decide +kernel
theorem dX6_about_18 : decode cX6_about 18 = .ok (.ifCond .eq 14, 3) := by decide +kernel
theorem dX6_about_21 : decode cX6_about 21 = .ok (.aload_n 0, 1) := by decide +kernel
theorem dX6_about_22 : decode cX6_about 22 = .ok (.getfield 28, 3) := by decide +kernel
theorem dX6_about_25 : decode cX6_about 25 = .ok (.iload_n 1, 1) := by decide +kernel
theorem dX6_about_26 : decode cX6_about 26 = .ok (.iconst 1, 1) := by decide +kernel
theorem dX6_about_27 : decode cX6_about 27 = .ok (.isub, 1) := by decide +kernel
theorem dX6_about_28 : decode cX6_about 28 = .ok (.iaload, 1) := by decide +kernel
theorem dX6_about_29 : decode cX6_about 29 = .ok (.goto 25, 3) := by decide +kernel
theorem dX6_about_32 : decode cX6_about 32 = .ok (.iload_n 1, 1) := by decide +kernel
theorem dX6_about_33 : decode cX6_about 33 = .ok (.bipush 7, 2) := by decide +kernel
theorem dX6_about_35 : decode cX6_about 35 = .ok (.if_icmp .ne 18, 3) := by decide +kernel
theorem dX6_about_38 : decode cX6_about 38 = .ok (.aload_n 0, 1) := by decide +kernel
theorem dX6_about_39 : decode cX6_about 39 = .ok (.getfield 31, 3) := by decide +kernel
theorem dX6_about_42 : decode cX6_about 42 = .ok (.ifCond .eq 7, 3) := by decide +kernel
theorem dX6_about_45 : decode cX6_about 45 = .ok (.iconst 1, 1) := by decide +kernel
theorem dX6_about_46 : decode cX6_about 46 = .ok (.goto 8, 3) := by decide +kernel
theorem dX6_about_49 : decode cX6_about 49 = .ok (.iconst 0, 1) := by decide +kernel
theorem dX6_about_50 : decode cX6_about 50 = .ok (.goto 4, 3) := by decide +kernel
theorem dX6_about_53 : decode cX6_about 53 = .ok (.iconst (-1), 1) := by decide +kernel
theorem dX6_about_54 : decode cX6_about 54 = .ok (.ireturn, 1) := by decide +kernel
theorem dJ6_bitCount_0f7a4_0 : decode cJ6_bitCount_0f7a4 0 = .ok (.iload_n 0, 1) := by decide +kernel
theorem dJ6_bitCount_0f7a4_1 : decode cJ6_bitCount_0f7a4 1 = .ok (.iload_n 0, 1) := by decide +kernel
theorem dJ6_bitCount_0f7a4_2 : decode cJ6_bitCount_0f7a4 2 = .ok (.iconst 1, 1) := by decide +kernel
theorem dJ6_bitCount_0f7a4_3 : decode cJ6_bitCount_0f7a4 3 = .ok (.iushr, 1) := by decide +kernel
theorem dJ6_bitCount_0f7a4_4 : decode cJ6_bitCount_0f7a4 4 = .ok (.ldc_w 265, 3) := by decide +kernel
theorem dJ6_bitCount_0f7a4_7 : decode cJ6_bitCount_0f7a4 7 = .ok (.iand, 1) := by decide +kernel
theorem dJ6_bitCount_0f7a4_8 : decode cJ6_bitCount_0f7a4 8 = .ok (.isub, 1) := by decide +kernel
theorem dJ6_bitCount_0f7a4_9 : decode cJ6_bitCount_0f7a4 9 = .ok (.istore_n 0, 1) := by decide +kernel
theorem dJ6_bitCount_0f7a4_10 : decode cJ6_bitCount_0f7a4 10 = .ok (.iload_n 0, 1) := by decide +kernel
theorem dJ6_bitCount_0f7a4_11 : decode cJ6_bitCount_0f7a4 11 = .ok (.ldc_w 266, 3) := by decide +kernel
theorem dJ6_bitCount_0f7a4_14 : decode cJ6_bitCount_0f7a4 14 = .ok (.iand, 1) := by decide +kernel
theorem dJ6_bitCount_0f7a4_15 : decode cJ6_bitCount_0f7a4 15 = .ok (.iload_n 0, 1) := by decide +kernel
theorem dJ6_bitCount_0f7a4_16 : decode cJ6_bitCount_0f7a4 16 = .ok (.iconst 2, 1) := by decide +kernel
theorem dJ6_bitCount_0f7a4_17 : decode cJ6_bitCount_0f7a4 17 = .ok (.iushr, 1) := by decide +kernel
theorem dJ6_bitCount_0f7a4_18 : decode cJ6_bitCount_0f7a4 18 = .ok (.ldc_w 266, 3) := by decide +kernel
theorem dJ6_bitCount_0f7a4_21 : decode cJ6_bitCount_0f7a4 21 = .ok (.iand, 1) := by decide +kernel
theorem dJ6_bitCount_0f7a4_22 : decode cJ6_bitCount_0f7a4 22 = .ok (.iadd, 1) := by decide +kernel
theorem dJ6_bitCount_0f7a4_23 : decode cJ6_bitCount_0f7a4 23 = .ok (.istore_n 0, 1) := by decide +kernel
theorem dJ6_bitCount_0f7a4_24 : decode cJ6_bitCount_0f7a4 24 = .ok (.iload_n 0, 1) := by decide +kernel
theorem dJ6_bitCount_0f7a4_25 : decode cJ6_bitCount_0f7a4 25 = .ok (.iload_n 0, 1) := by decide +kernel
theorem dJ6_bitCount_0f7a4_26 : decode cJ6_bitCount_0f7a4 26 = .ok (.iconst 4, 1) := by decide +kernel
theorem dJ6_bitCount_0f7a4_27 : decode cJ6_bitCount_0f7a4 27 = .ok (.iushr, 1) := by decide +kernel
theorem dJ6_bitCount_0f7a4_28 : decode cJ6_bitCount_0f7a4 28 = .ok (.iadd, 1) := by decide +kernel
theorem dJ6_bitCount_0f7a4_29 : decode cJ6_bitCount_0f7a4 29 = .ok (.ldc_w 267, 3) := by decide +kernel
theorem dJ6_bitCount_0f7a4_32 : decode cJ6_bitCount_0f7a4 32 = .ok (.iand, 1) := by decide +kernel
theorem dJ6_bitCount_0f7a4_33 : decode cJ6_bitCount_0f7a4 33 = .ok (.istore_n 0, 1) := by decide +kernel
theorem dJ6_bitCount_0f7a4_34 : decode cJ6_bitCount_0f7a4 34 = .ok (.iload_n 0, 1) := by decide +kernel
theorem dJ6_bitCount_0f7a4_35 : decode cJ6_bitCount_0f7a4 35 = .ok (.iload_n 0, 1) := by decide +kernel
theorem dJ6_bitCount_0f7a4_36 : decode cJ6_bitCount_0f7a4 36 = .ok (.bipush 8, 2) := by decide +kernel
theorem dJ6_bitCount_0f7a4_38 : decode cJ6_bitCount_0f7a4 38 = .ok (.iushr, 1) := by decide +kernel
theorem dJ6_bitCount_0f7a4_39 : decode cJ6_bitCount_0f7a4 39 = .ok (.iadd, 1) := by decide +kernel
theorem dJ6_bitCount_0f7a4_40 : decode cJ6_bitCount_0f7a4 40 = .ok (.istore_n 0, 1) := by decide +kernel
theorem dJ6_bitCount_0f7a4_41 : decode cJ6_bitCount_0f7a4 41 = .ok (.iload_n 0, 1) := by decide +kernel
theorem dJ6_bitCount_0f7a4_42 : decode cJ6_bitCount_0f7a4 42 = .ok (.iload_n 0, 1) := by decide +kernel
theorem dJ6_bitCount_0f7a4_43 : decode cJ6_bitCount_0f7a4 43 = .ok (.bipush 16, 2) := by decide +kernel
theorem dJ6_bitCount_0f7a4_45 : decode cJ6_bitCount_0f7a4 45 = .ok (.iushr, 1) := by decide +kernel
theorem dJ6_bitCount_0f7a4_46 : decode cJ6_bitCount_0f7a4 46 = .ok (.iadd, 1) := by decide +kernel
theorem dJ6_bitCount_0f7a4_47 : decode cJ6_bitCount_0f7a4 47 = .ok (.istore_n 0, 1) := by decide +kernel
theorem dJ6_bitCount_0f7a4_48 : decode cJ6_bitCount_0f7a4 48 = .ok (.iload_n 0, 1) := by decide +kernel
theorem dJ6_bitCount_0f7a4_49 : decode cJ6_bitCount_0f7a4 49 = .ok (.bipush 63, 2) := by decide +kernel
theorem dJ6_bitCount_0f7a4_51 : decode cJ6_bitCount_0f7a4 51 = .ok (.iand, 1) := by decide +kernel
theorem dJ6_bitCount_0f7a4_52 : decode cJ6_bitCount_0f7a4 52 = .ok (.ireturn, 1) := by decide +kernel
theorem dJ9_abs_0f7a4_0 : decode cJ9_abs_0f7a4 0 = .ok (.iload_n 0, 1) := by decide +kernel
theorem dJ9_abs_0f7a4_1 : decode cJ9_abs_0f7a4 1 = .ok (.ifCond .ge 8, 3) := by decide +kernel
theorem dJ9_abs_0f7a4_4 : decode cJ9_abs_0f7a4 4 = .ok (.iload_n 0, 1) := by decide +kernel
theorem dJ9_abs_0f7a4_5 : decode cJ9_abs_0f7a4 5 = .ok (.ineg, 1) := by decide +kernel
theorem dJ9_abs_0f7a4_6 : decode cJ9_abs_0f7a4 6 = .ok (.goto 4, 3) := by decide +kernel
theorem dJ9_abs_0f7a4_9 : decode cJ9_abs_0f7a4 9 = .ok (.iload_n 0, 1) := by decide +kernel
theorem dJ9_abs_0f7a4_10 : decode cJ9_abs_0f7a4 10 = .ok (.ireturn, 1) := by decide +kernel
theorem dJ9_min_7cf53_0 : decode cJ9_min_7cf53 0 = .ok (.iload_n 0, 1) := by decide +kernel
theorem dJ9_min_7cf53_1 : decode cJ9_min_7cf53 1 = .ok (.iload_n 1, 1) := by decide +kernel
theorem dJ9_min_7cf53_2 : decode cJ9_min_7cf53 2 = .ok (.if_icmp .gt 7, 3) := by decide +kernel
theorem dJ9_min_7cf53_5 : decode cJ9_min_7cf53 5 = .ok (.iload_n 0, 1) := by decide +kernel
theorem dJ9_min_7cf53_6 : decode cJ9_min_7cf53 6 = .ok (.goto 4, 3) := by decide +kernel
theorem dJ9_min_7cf53_9 : decode cJ9_min_7cf53 9 = .ok (.iload_n 1, 1) := by decide +kernel
theorem dJ9_min_7cf53_10 : decode cJ9_min_7cf53 10 = .ok (.ireturn, 1) := by decide +kernel
set_option maxRecDepth 20000 in
theorem ggL_law_X5_init : GoodIn wsL_law wsX5_init := goodIn_r _ [8, 9, 10, 11, 12, 13, 14, 15, 16, 17, 18, 19, 20, 21, 22, 23, 24, 25, 26, 27, 28, 29, 30, 31, 32, 33, 34, 35, 36, 37, 38, 39, 40, 41, 42, 43, 44, 45, 46, 47, 48, 49, 50, 51, 52, 53, 54, 55, 56, 57, 58, 59, 60, 61, 62, 63, 64, 65, 66, 67, 68, 69, 495, 496, 497, 498, 499, 500, 501, 468, 469, 470, 471, 472, 473, 474, 502, 503, 504, 505, 506, 507, 508, 509, 510, 511, 512, 513, 514, 515, 516, 517, 518] (by decide +kernel) (by decide +kernel)
set_option maxRecDepth 20000 in
theorem gL_law_X5_init : GoodIn wsL_law (wsX5_init) := ggL_law_X5_init
set_option maxRecDepth 20000 in
theorem ggL_law_X6_init : GoodIn wsL_law wsX6_init := goodIn_r _ [72, 73, 10, 11, 37, 74, 75, 76, 77, 78, 79, 80, 81, 82, 83, 84, 85, 86, 87, 88, 89, 90, 475, 476, 477, 478, 479, 480, 481, 482, 483, 484, 485, 486, 487, 488, 489, 490, 491, 492, 493, 494] (by decide +kernel) (by decide +kernel)
set_option maxRecDepth 20000 in
theorem gL_law_X6_init : GoodIn wsL_law (wsX6_init) := ggL_law_X6_init
set_option maxRecDepth 20000 in
theorem ggL_law_X5_leaf : GoodIn wsL_law wsX5_leaf := goodIn_r _ [94, 15, 95, 33, 96, 97, 2, 98, 99, 100, 101, 102, 103, 104, 14, 105, 106, 38, 39, 40, 468, 469, 470, 471, 472, 473, 474, 495, 496, 497, 498, 499, 500, 501] (by decide +kernel) (by decide +kernel)
set_option maxRecDepth 20000 in
theorem gL_law_X5_leaf : GoodIn wsL_law (wsV RL 13 RX5 yX5_leaf wsX5_leaf) := goodIn_app (goodIn_of _ (by decide +kernel)) ggL_law_X5_leaf
set_option maxRecDepth 20000 in
theorem ggL_law_X6_leaf : GoodIn wsL_law wsX6_leaf := goodIn_r _ [110, 111, 74, 75, 76, 112, 113, 5, 114, 475, 476, 477, 478, 479, 480, 481, 482, 483, 484, 485, 486, 487, 488, 489, 490, 491, 492, 493, 494] (by decide +kernel) (by decide +kernel)
set_option maxRecDepth 20000 in
theorem gL_law_X6_leaf : GoodIn wsL_law (wsV RL 17 RX6 yX6_leaf wsX6_leaf) := goodIn_app (goodIn_of _ (by decide +kernel)) ggL_law_X6_leaf
set_option maxRecDepth 20000 in
theorem ggL_law_X5_catchword : GoodIn wsL_law wsX5_catchword := goodIn_r _ [118, 15, 119, 33, 120, 121, 122, 14, 123, 124, 125, 126, 127, 106, 100, 2, 101, 96, 97, 98, 99, 468, 469, 470, 471, 472, 473, 474, 495, 496, 497, 498, 499, 500, 501] (by decide +kernel) (by decide +kernel)
set_option maxRecDepth 20000 in
theorem gL_law_X5_catchword : GoodIn wsL_law (wsV RL 18 RX5 yX5_catchword wsX5_catchword) := goodIn_app (goodIn_of _ (by decide +kernel)) ggL_law_X5_catchword
set_option maxRecDepth 20000 in
theorem ggL_law_X6_catchword : GoodIn wsL_law wsX6_catchword := goodIn_r _ [131, 76, 132, 133, 134, 5, 135, 111, 112, 113, 114, 475, 476, 477, 478, 479, 480, 481, 482, 483, 484, 485, 486, 487, 488, 489, 490, 491, 492, 493, 494] (by decide +kernel) (by decide +kernel)
set_option maxRecDepth 20000 in
theorem gL_law_X6_catchword : GoodIn wsL_law (wsV RL 22 RX6 yX6_catchword wsX6_catchword) := goodIn_app (goodIn_of _ (by decide +kernel)) ggL_law_X6_catchword
set_option maxRecDepth 20000 in
theorem ggL_law_X5_cut : GoodIn wsL_law wsX5_cut := goodIn_r _ [139, 15, 140, 141, 33, 120, 121, 122, 14, 123, 124, 125, 126, 127, 106, 100, 2, 101, 96, 97, 98, 99, 468, 469, 470, 471, 472, 473, 474, 495, 496, 497, 498, 499, 500, 501] (by decide +kernel) (by decide +kernel)
set_option maxRecDepth 20000 in
theorem gL_law_X5_cut : GoodIn wsL_law (wsV RL 23 RX5 yX5_cut wsX5_cut) := goodIn_app (goodIn_of _ (by decide +kernel)) ggL_law_X5_cut
set_option maxRecDepth 20000 in
theorem ggL_law_X6_cut : GoodIn wsL_law wsX6_cut := goodIn_r _ [145, 77, 78, 132, 133, 134, 5, 135, 111, 112, 113, 114, 475, 476, 477, 478, 479, 480, 481, 482, 483, 484, 485, 486, 487, 488, 489, 490, 491, 492, 493, 494] (by decide +kernel) (by decide +kernel)
set_option maxRecDepth 20000 in
theorem gL_law_X6_cut : GoodIn wsL_law (wsV RL 27 RX6 yX6_cut wsX6_cut) := goodIn_app (goodIn_of _ (by decide +kernel)) ggL_law_X6_cut
set_option maxRecDepth 20000 in
theorem ggL_law_X5_stain : GoodIn wsL_law wsX5_stain := goodIn_r _ [149, 15, 150, 33, 151, 125, 126, 14, 127, 106, 99, 100, 2, 101, 96, 97, 98, 468, 469, 470, 471, 472, 473, 474, 495, 496, 497, 498, 499, 500, 501] (by decide +kernel) (by decide +kernel)
set_option maxRecDepth 20000 in
theorem gL_law_X5_stain : GoodIn wsL_law (wsV RL 28 RX5 yX5_stain wsX5_stain) := goodIn_app (goodIn_of _ (by decide +kernel)) ggL_law_X5_stain
set_option maxRecDepth 20000 in
theorem ggL_law_X6_stain : GoodIn wsL_law wsX6_stain := goodIn_r _ [155, 79, 132, 133, 134, 5, 135, 111, 112, 113, 114, 475, 476, 477, 478, 479, 480, 481, 482, 483, 484, 485, 486, 487, 488, 489, 490, 491, 492, 493, 494] (by decide +kernel) (by decide +kernel)
set_option maxRecDepth 20000 in
theorem gL_law_X6_stain : GoodIn wsL_law (wsV RL 31 RX6 yX6_stain wsX6_stain) := goodIn_app (goodIn_of _ (by decide +kernel)) ggL_law_X6_stain
set_option maxRecDepth 20000 in
theorem ggL_law_X5_weights : GoodIn wsL_law wsX5_weights := goodIn_r _ [159, 19, 160, 33, 99, 100, 2, 101, 468, 469, 470, 471, 472, 473, 474, 502, 503] (by decide +kernel) (by decide +kernel)
set_option maxRecDepth 20000 in
theorem gL_law_X5_weights : GoodIn wsL_law (wsV RL 32 RX5 yX5_weights wsX5_weights) := goodIn_app (goodIn_of _ (by decide +kernel)) ggL_law_X5_weights
set_option maxRecDepth 20000 in
theorem ggL_law_X6_weights : GoodIn wsL_law wsX6_weights := goodIn_r _ [164, 80, 112, 113, 5, 114, 475, 476, 477, 478, 479, 480, 481, 482, 483, 484, 485, 486, 487, 488, 489, 490, 491, 492, 493, 494] (by decide +kernel) (by decide +kernel)
set_option maxRecDepth 20000 in
theorem gL_law_X6_weights : GoodIn wsL_law (wsV RL 36 RX6 yX6_weights wsX6_weights) := goodIn_app (goodIn_of _ (by decide +kernel)) ggL_law_X6_weights
set_option maxRecDepth 20000 in
theorem ggL_law_X5_turnable : GoodIn wsL_law wsX5_turnable := goodIn_r _ [168, 32, 33, 468, 469, 470, 471, 472, 473, 474] (by decide +kernel) (by decide +kernel)
set_option maxRecDepth 20000 in
theorem gL_law_X5_turnable : GoodIn wsL_law (wsV RL 37 RX5 yX5_turnable wsX5_turnable) := goodIn_app (goodIn_of _ (by decide +kernel)) ggL_law_X5_turnable
set_option maxRecDepth 20000 in
theorem ggL_law_X6_turnable : GoodIn wsL_law wsX6_turnable := goodIn_r _ [172, 81, 475, 476, 477, 478, 479, 480, 481, 482, 483, 484, 485, 486, 487, 488, 489, 490, 491, 492, 493, 494] (by decide +kernel) (by decide +kernel)
set_option maxRecDepth 20000 in
theorem gL_law_X6_turnable : GoodIn wsL_law (wsV RL 41 RX6 yX6_turnable wsX6_turnable) := goodIn_app (goodIn_of _ (by decide +kernel)) ggL_law_X6_turnable
set_option maxRecDepth 20000 in
theorem ggL_law_X5_must : GoodIn wsL_law wsX5_must := goodIn_r _ [176, 23, 33, 177, 178, 179, 2, 180, 15, 151, 125, 126, 14, 127, 106, 181, 182, 183, 22, 184, 54, 55, 185, 186, 187, 188, 189, 190, 191, 53, 468, 469, 470, 471, 472, 473, 474, 495, 496, 497, 498, 499, 500, 501, 504, 505, 506] (by decide +kernel) (by decide +kernel)
set_option maxRecDepth 20000 in
theorem gL_law_X5_must : GoodIn wsL_law (wsV RL 42 RX5 yX5_must wsX5_must) := goodIn_app (goodIn_of _ (by decide +kernel)) ggL_law_X5_must
set_option maxRecDepth 20000 in
theorem ggL_law_X6_must : GoodIn wsL_law wsX6_must := goodIn_r _ [195, 84, 83, 132, 133, 134, 5, 135, 111, 112, 113, 114, 475, 476, 477, 478, 479, 480, 481, 482, 483, 484, 485, 486, 487, 488, 489, 490, 491, 492, 493, 494] (by decide +kernel) (by decide +kernel)
set_option maxRecDepth 20000 in
theorem gL_law_X6_must : GoodIn wsL_law (wsV RL 46 RX6 yX6_must wsX6_must) := goodIn_app (goodIn_of _ (by decide +kernel)) ggL_law_X6_must
set_option maxRecDepth 20000 in
theorem ggL_law_X5_join : GoodIn wsL_law wsX5_join := goodIn_r _ [199, 32, 19, 177, 178, 179, 2, 180, 15, 151, 125, 126, 14, 127, 106, 200, 201, 202, 203, 204, 205, 18, 206, 48, 207, 208, 209, 210, 49, 211, 212, 213, 214, 215, 216, 217, 218, 219, 220, 221, 222, 223, 43, 224, 225, 226, 227, 228, 468, 469, 470, 471, 472, 473, 474, 495, 496, 497, 498, 499, 500, 501, 502, 503] (by decide +kernel) (by decide +kernel)
set_option maxRecDepth 20000 in
theorem gL_law_X5_join : GoodIn wsL_law (wsV RL 47 RX5 yX5_join wsX5_join) := goodIn_app (goodIn_of _ (by decide +kernel)) ggL_law_X5_join
set_option maxRecDepth 20000 in
theorem ggL_law_X6_join : GoodIn wsL_law wsX6_join := goodIn_r _ [232, 81, 132, 133, 134, 5, 135, 111, 112, 113, 114, 233, 234, 235, 236, 80, 237, 238, 239, 240, 241, 242, 243, 244, 75, 74, 76, 78, 77, 79, 245, 246, 247, 475, 476, 477, 478, 479, 480, 481, 482, 483, 484, 485, 486, 487, 488, 489, 490, 491, 492, 493, 494] (by decide +kernel) (by decide +kernel)
set_option maxRecDepth 20000 in
theorem gL_law_X6_join : GoodIn wsL_law (wsV RL 51 RX6 yX6_join wsX6_join) := goodIn_app (goodIn_of _ (by decide +kernel)) ggL_law_X6_join
set_option maxRecDepth 20000 in
theorem ggL_law_X5_best : GoodIn wsL_law wsX5_best := goodIn_r _ [251, 27, 252, 253, 254, 255, 2, 256, 33, 19, 32, 31, 257, 258, 259, 26, 260, 261, 262, 263, 264, 265, 266, 60, 267, 204, 205, 18, 206, 48, 207, 208, 209, 210, 49, 211, 212, 213, 214, 215, 216, 217, 218, 219, 220, 221, 222, 14, 223, 43, 224, 225, 226, 227, 228, 268, 269, 270, 271, 62, 272, 273, 274, 275, 276, 277, 64, 278, 279, 280, 281, 282, 283, 284, 22, 285, 55, 286, 287, 288, 289, 290, 291, 292, 293, 294, 295, 296, 297, 298, 299, 61, 300, 301, 302, 303, 53, 54, 304, 305, 306, 307, 308, 309, 310, 311, 312, 313, 314, 315, 63, 316, 317, 318, 319, 320, 321, 322, 323, 324, 325, 326, 30, 327, 328, 329, 330, 69, 331, 332, 333, 334, 335, 336, 337, 338, 339, 340, 468, 469, 470, 471, 472, 473, 474, 507, 508, 509, 510, 511, 512, 513, 514, 515, 502, 503, 495, 496, 497, 498, 499, 500, 501, 504, 505, 506, 516, 517, 518] (by decide +kernel) (by decide +kernel)
set_option maxRecDepth 20000 in
theorem gL_law_X5_best : GoodIn wsL_law (wsV RL 52 RX5 yX5_best wsX5_best) := goodIn_app (goodIn_of _ (by decide +kernel)) ggL_law_X5_best
set_option maxRecDepth 20000 in
theorem ggL_law_X6_best : GoodIn wsL_law wsX6_best := goodIn_r _ [344, 345, 346, 347, 348, 5, 349, 111, 81, 85, 350, 86, 80, 351, 352, 353, 354, 355, 356, 357, 358, 359, 360, 361, 362, 83, 84, 87, 88, 233, 234, 235, 236, 237, 238, 239, 240, 241, 242, 243, 244, 75, 74, 76, 78, 77, 79, 245, 246, 247, 363, 364, 365, 366, 367, 368, 369, 370, 371, 372, 373, 374, 375, 376, 377, 378, 379, 475, 476, 477, 478, 479, 480, 481, 482, 483, 484, 485, 486, 487, 488, 489, 490, 491, 492, 493, 494] (by decide +kernel) (by decide +kernel)
set_option maxRecDepth 20000 in
theorem gL_law_X6_best : GoodIn wsL_law (wsV RL 56 RX6 yX6_best wsX6_best) := goodIn_app (goodIn_of _ (by decide +kernel)) ggL_law_X6_best
set_option maxRecDepth 20000 in
theorem ggL_law_X5_at : GoodIn wsL_law wsX5_at := goodIn_r _ [383, 27, 252, 340, 15, 95, 384, 19, 253, 254, 255, 2, 256, 33, 32, 31, 257, 258, 259, 26, 260, 261, 262, 263, 264, 265, 266, 60, 267, 204, 205, 18, 206, 48, 207, 208, 209, 210, 49, 211, 212, 213, 214, 215, 216, 217, 218, 219, 220, 221, 222, 14, 223, 43, 224, 225, 226, 227, 228, 268, 269, 270, 271, 62, 272, 273, 274, 275, 276, 277, 64, 278, 279, 280, 281, 282, 283, 284, 22, 285, 55, 286, 287, 288, 289, 290, 291, 292, 293, 294, 295, 296, 297, 298, 299, 61, 300, 301, 302, 303, 53, 54, 304, 305, 306, 307, 308, 309, 310, 311, 312, 313, 314, 315, 63, 316, 317, 318, 319, 320, 321, 322, 323, 324, 325, 326, 30, 327, 328, 329, 330, 69, 331, 332, 333, 334, 335, 336, 385, 386, 387, 388, 468, 469, 470, 471, 472, 473, 474, 507, 508, 509, 510, 511, 512, 513, 514, 515, 495, 496, 497, 498, 499, 500, 501, 502, 503, 504, 505, 506, 516, 517, 518] (by decide +kernel) (by decide +kernel)
set_option maxRecDepth 20000 in
theorem gL_law_X5_at : GoodIn wsL_law (wsV RL 57 RX5 yX5_at wsX5_at) := goodIn_app (goodIn_of _ (by decide +kernel)) ggL_law_X5_at
set_option maxRecDepth 20000 in
theorem ggL_law_X6_at : GoodIn wsL_law wsX6_at := goodIn_r _ [392, 111, 89, 90, 112, 113, 5, 114, 393, 394, 395, 396, 85, 350, 80, 397, 342, 343, 344, 345, 346, 347, 348, 349, 81, 86, 351, 352, 353, 354, 355, 356, 357, 358, 359, 360, 361, 362, 83, 84, 87, 88, 233, 234, 235, 236, 237, 238, 239, 240, 241, 242, 243, 244, 75, 74, 76, 78, 77, 79, 245, 246, 247, 363, 364, 365, 366, 367, 368, 369, 370, 371, 372, 373, 374, 375, 376, 377, 378, 379, 475, 476, 477, 478, 479, 480, 481, 482, 483, 484, 485, 486, 487, 488, 489, 490, 491, 492, 493, 494] (by decide +kernel) (by decide +kernel)
set_option maxRecDepth 20000 in
theorem gL_law_X6_at : GoodIn wsL_law (wsV RL 61 RX6 yX6_at wsX6_at) := goodIn_app (goodIn_of _ (by decide +kernel)) ggL_law_X6_at
set_option maxRecDepth 20000 in
theorem ggL_law_X5_next : GoodIn wsL_law wsX5_next := goodIn_r _ [401, 27, 402, 253, 254, 255, 2, 256, 33, 19, 32, 31, 257, 258, 259, 26, 260, 261, 262, 263, 264, 265, 266, 60, 267, 204, 205, 18, 206, 48, 207, 208, 209, 210, 49, 211, 212, 213, 214, 215, 216, 217, 218, 219, 220, 221, 222, 14, 223, 43, 224, 225, 226, 227, 228, 268, 269, 270, 271, 62, 272, 273, 274, 275, 276, 277, 64, 278, 279, 280, 281, 282, 283, 284, 22, 285, 55, 286, 287, 288, 289, 290, 291, 292, 293, 294, 295, 296, 297, 298, 299, 61, 300, 301, 302, 303, 53, 54, 304, 305, 306, 307, 308, 309, 310, 311, 312, 313, 314, 315, 63, 316, 317, 318, 319, 320, 321, 322, 323, 324, 325, 326, 30, 327, 328, 329, 330, 69, 331, 332, 333, 334, 335, 336, 337, 338, 339, 340, 468, 469, 470, 471, 472, 473, 474, 507, 508, 509, 510, 511, 512, 513, 514, 515, 502, 503, 495, 496, 497, 498, 499, 500, 501, 504, 505, 506, 516, 517, 518] (by decide +kernel) (by decide +kernel)
set_option maxRecDepth 20000 in
theorem gL_law_X5_next : GoodIn wsL_law (wsV RL 62 RX5 yX5_next wsX5_next) := goodIn_app (goodIn_of _ (by decide +kernel)) ggL_law_X5_next
set_option maxRecDepth 20000 in
theorem ggL_law_X6_next : GoodIn wsL_law wsX6_next := goodIn_r _ [406, 375, 346, 347, 348, 5, 349, 111, 81, 85, 350, 86, 80, 351, 352, 353, 354, 355, 356, 357, 358, 359, 360, 361, 362, 83, 84, 87, 88, 233, 234, 235, 236, 237, 238, 239, 240, 241, 242, 243, 244, 75, 74, 76, 78, 77, 79, 245, 246, 247, 363, 364, 365, 366, 367, 368, 369, 370, 371, 372, 373, 374, 345, 376, 377, 378, 379, 475, 476, 477, 478, 479, 480, 481, 482, 483, 484, 485, 486, 487, 488, 489, 490, 491, 492, 493, 494] (by decide +kernel) (by decide +kernel)
set_option maxRecDepth 20000 in
theorem gL_law_X6_next : GoodIn wsL_law (wsV RL 65 RX6 yX6_next wsX6_next) := goodIn_app (goodIn_of _ (by decide +kernel)) ggL_law_X6_next
set_option maxRecDepth 20000 in
theorem ggL_law_X5_sure : GoodIn wsL_law wsX5_sure := goodIn_r _ [410, 27, 252, 340, 177, 178, 179, 2, 180, 15, 151, 125, 126, 14, 127, 106, 99, 100, 101, 253, 254, 255, 256, 33, 19, 32, 31, 257, 258, 259, 26, 260, 261, 262, 263, 264, 265, 266, 60, 267, 204, 205, 18, 206, 48, 207, 208, 209, 210, 49, 211, 212, 213, 214, 215, 216, 217, 218, 219, 220, 221, 222, 223, 43, 224, 225, 226, 227, 228, 268, 269, 270, 271, 62, 272, 273, 274, 275, 276, 277, 64, 278, 279, 280, 281, 282, 283, 284, 22, 285, 55, 286, 287, 288, 289, 290, 291, 292, 293, 294, 295, 296, 297, 298, 299, 61, 300, 301, 302, 303, 53, 54, 304, 305, 306, 307, 308, 309, 310, 311, 312, 313, 314, 315, 63, 316, 317, 318, 319, 320, 321, 322, 323, 324, 325, 326, 30, 327, 328, 329, 330, 69, 331, 332, 333, 334, 335, 336, 411, 412, 413, 414, 415, 416, 417, 418, 468, 469, 470, 471, 472, 473, 474, 507, 508, 509, 510, 511, 512, 513, 514, 515, 495, 496, 497, 498, 499, 500, 501, 502, 503, 504, 505, 506, 516, 517, 518] (by decide +kernel) (by decide +kernel)
set_option maxRecDepth 20000 in
theorem gL_law_X5_sure : GoodIn wsL_law (wsV RL 66 RX5 yX5_sure wsX5_sure) := goodIn_app (goodIn_of _ (by decide +kernel)) ggL_law_X5_sure
set_option maxRecDepth 20000 in
theorem ggL_law_X6_sure : GoodIn wsL_law wsX6_sure := goodIn_r _ [422, 87, 88, 132, 133, 134, 5, 135, 111, 112, 113, 114, 397, 342, 343, 344, 345, 346, 347, 348, 349, 81, 85, 350, 86, 80, 351, 352, 353, 354, 355, 356, 357, 358, 359, 360, 361, 362, 83, 84, 233, 234, 235, 236, 237, 238, 239, 240, 241, 242, 243, 244, 75, 74, 76, 78, 77, 79, 245, 246, 247, 363, 364, 365, 366, 367, 368, 369, 370, 371, 372, 373, 374, 375, 376, 377, 378, 379, 475, 476, 477, 478, 479, 480, 481, 482, 483, 484, 485, 486, 487, 488, 489, 490, 491, 492, 493, 494] (by decide +kernel) (by decide +kernel)
set_option maxRecDepth 20000 in
theorem gL_law_X6_sure : GoodIn wsL_law (wsV RL 70 RX6 yX6_sure wsX6_sure) := goodIn_app (goodIn_of _ (by decide +kernel)) ggL_law_X6_sure
set_option maxRecDepth 20000 in
theorem ggL_law_X5_two : GoodIn wsL_law wsX5_two := goodIn_r _ [426, 31, 427, 253, 254, 255, 2, 256, 33, 27, 19, 32, 257, 258, 259, 26, 260, 261, 262, 263, 264, 265, 266, 60, 267, 204, 205, 18, 206, 48, 207, 208, 209, 210, 49, 211, 212, 213, 214, 215, 216, 217, 218, 219, 220, 221, 222, 14, 223, 43, 224, 225, 226, 227, 228, 268, 269, 270, 271, 62, 272, 273, 274, 275, 276, 277, 64, 278, 279, 280, 281, 282, 283, 284, 22, 285, 55, 286, 287, 288, 289, 290, 291, 292, 293, 294, 295, 296, 297, 298, 299, 61, 300, 301, 302, 303, 53, 54, 304, 305, 306, 307, 308, 309, 310, 311, 312, 313, 314, 315, 63, 316, 317, 318, 319, 320, 321, 322, 323, 324, 325, 326, 30, 327, 328, 329, 330, 69, 331, 332, 333, 334, 335, 336, 337, 338, 339, 340, 468, 469, 470, 471, 472, 473, 474, 516, 517, 518, 502, 503, 495, 496, 497, 498, 499, 500, 501, 507, 508, 509, 510, 511, 512, 513, 514, 515, 504, 505, 506] (by decide +kernel) (by decide +kernel)
set_option maxRecDepth 20000 in
theorem gL_law_X5_two : GoodIn wsL_law (wsV RL 71 RX5 yX5_two wsX5_two) := goodIn_app (goodIn_of _ (by decide +kernel)) ggL_law_X5_two
set_option maxRecDepth 20000 in
theorem ggL_law_X6_two : GoodIn wsL_law wsX6_two := goodIn_r _ [431, 111, 346, 347, 348, 5, 349, 81, 85, 350, 86, 80, 351, 352, 353, 354, 355, 356, 357, 358, 359, 360, 361, 362, 83, 84, 87, 88, 233, 234, 235, 236, 237, 238, 239, 240, 241, 242, 243, 244, 75, 74, 76, 78, 77, 79, 245, 246, 247, 363, 364, 365, 366, 432, 433, 434, 435, 345, 436, 367, 368, 369, 370, 371, 372, 373, 374, 375, 376, 377, 378, 379, 475, 476, 477, 478, 479, 480, 481, 482, 483, 484, 485, 486, 487, 488, 489, 490, 491, 492, 493, 494] (by decide +kernel) (by decide +kernel)
set_option maxRecDepth 20000 in
theorem gL_law_X6_two : GoodIn wsL_law (wsV RL 74 RX6 yX6_two wsX6_two) := goodIn_app (goodIn_of _ (by decide +kernel)) ggL_law_X6_two
set_option maxRecDepth 20000 in
theorem ggL_law_X5_book : GoodIn wsL_law wsX5_book := goodIn_r _ [440, 15, 31, 427, 340, 441, 253, 254, 255, 2, 256, 33, 27, 19, 32, 257, 258, 259, 26, 260, 261, 262, 263, 264, 265, 266, 60, 267, 204, 205, 18, 206, 48, 207, 208, 209, 210, 49, 211, 212, 213, 214, 215, 216, 217, 218, 219, 220, 221, 222, 14, 223, 43, 224, 225, 226, 227, 228, 268, 269, 270, 271, 62, 272, 273, 274, 275, 276, 277, 64, 278, 279, 280, 281, 282, 283, 284, 22, 285, 55, 286, 287, 288, 289, 290, 291, 292, 293, 294, 295, 296, 297, 298, 299, 61, 300, 301, 302, 303, 53, 54, 304, 305, 306, 307, 308, 309, 310, 311, 312, 313, 314, 315, 63, 316, 317, 318, 319, 320, 321, 322, 323, 324, 325, 326, 30, 327, 328, 329, 330, 69, 331, 332, 333, 334, 335, 336, 151, 125, 126, 127, 106, 468, 469, 470, 471, 472, 473, 474, 516, 517, 518, 502, 503, 495, 496, 497, 498, 499, 500, 501, 507, 508, 509, 510, 511, 512, 513, 514, 515, 504, 505, 506] (by decide +kernel) (by decide +kernel)
set_option maxRecDepth 20000 in
theorem gL_law_X5_book : GoodIn wsL_law (wsV RL 75 RX5 yX5_book wsX5_book) := goodIn_app (goodIn_of _ (by decide +kernel)) ggL_law_X5_book
set_option maxRecDepth 20000 in
theorem ggL_law_X6_book : GoodIn wsL_law wsX6_book := goodIn_r _ [445, 436, 132, 133, 134, 5, 135, 111, 112, 113, 114, 446, 429, 430, 431, 346, 347, 348, 349, 81, 85, 350, 86, 80, 351, 352, 353, 354, 355, 356, 357, 358, 359, 360, 361, 362, 83, 84, 87, 88, 233, 234, 235, 236, 237, 238, 239, 240, 241, 242, 243, 244, 75, 74, 76, 78, 77, 79, 245, 246, 247, 363, 364, 365, 366, 432, 433, 434, 435, 345, 367, 368, 369, 370, 371, 372, 373, 374, 375, 376, 377, 378, 379, 475, 476, 477, 478, 479, 480, 481, 482, 483, 484, 485, 486, 487, 488, 489, 490, 491, 492, 493, 494] (by decide +kernel) (by decide +kernel)
set_option maxRecDepth 20000 in
theorem gL_law_X6_book : GoodIn wsL_law (wsV RL 79 RX6 yX6_book wsX6_book) := goodIn_app (goodIn_of _ (by decide +kernel)) ggL_law_X6_book
set_option maxRecDepth 20000 in
theorem ggL_law_X5_doubt : GoodIn wsL_law wsX5_doubt := goodIn_r _ [450, 15, 31, 427, 340, 151, 125, 126, 14, 127, 106, 99, 100, 2, 101, 253, 254, 255, 256, 33, 27, 19, 32, 257, 258, 259, 26, 260, 261, 262, 263, 264, 265, 266, 60, 267, 204, 205, 18, 206, 48, 207, 208, 209, 210, 49, 211, 212, 213, 214, 215, 216, 217, 218, 219, 220, 221, 222, 223, 43, 224, 225, 226, 227, 228, 268, 269, 270, 271, 62, 272, 273, 274, 275, 276, 277, 64, 278, 279, 280, 281, 282, 283, 284, 22, 285, 55, 286, 287, 288, 289, 290, 291, 292, 293, 294, 295, 296, 297, 298, 299, 61, 300, 301, 302, 303, 53, 54, 304, 305, 306, 307, 308, 309, 310, 311, 312, 313, 314, 315, 63, 316, 317, 318, 319, 320, 321, 322, 323, 324, 325, 326, 30, 327, 328, 329, 330, 69, 331, 332, 333, 334, 335, 336, 451, 452, 453, 454, 455, 468, 469, 470, 471, 472, 473, 474, 516, 517, 518, 495, 496, 497, 498, 499, 500, 501, 502, 503, 507, 508, 509, 510, 511, 512, 513, 514, 515, 504, 505, 506] (by decide +kernel) (by decide +kernel)
set_option maxRecDepth 20000 in
theorem gL_law_X5_doubt : GoodIn wsL_law (wsV RL 80 RX5 yX5_doubt wsX5_doubt) := goodIn_app (goodIn_of _ (by decide +kernel)) ggL_law_X5_doubt
set_option maxRecDepth 20000 in
theorem ggL_law_X6_doubt : GoodIn wsL_law wsX6_doubt := goodIn_r _ [459, 436, 132, 133, 134, 5, 135, 111, 112, 113, 114, 446, 429, 430, 431, 346, 347, 348, 349, 81, 85, 350, 86, 80, 351, 352, 353, 354, 355, 356, 357, 358, 359, 360, 361, 362, 83, 84, 87, 88, 233, 234, 235, 236, 237, 238, 239, 240, 241, 242, 243, 244, 75, 74, 76, 78, 77, 79, 245, 246, 247, 363, 364, 365, 366, 432, 433, 434, 435, 345, 367, 368, 369, 370, 371, 372, 373, 374, 375, 376, 377, 378, 379, 475, 476, 477, 478, 479, 480, 481, 482, 483, 484, 485, 486, 487, 488, 489, 490, 491, 492, 493, 494] (by decide +kernel) (by decide +kernel)
set_option maxRecDepth 20000 in
theorem gL_law_X6_doubt : GoodIn wsL_law (wsV RL 83 RX6 yX6_doubt wsX6_doubt) := goodIn_app (goodIn_of _ (by decide +kernel)) ggL_law_X6_doubt
set_option maxRecDepth 20000 in
theorem ggL_law_X5_about : GoodIn wsL_law wsX5_about := goodIn_r _ [463, 15, 95, 19, 160, 32, 468, 469, 470, 471, 472, 473, 474, 495, 496, 497, 498, 499, 500, 501, 502, 503] (by decide +kernel) (by decide +kernel)
set_option maxRecDepth 20000 in
theorem gL_law_X5_about : GoodIn wsL_law (wsV RL 84 RX5 yX5_about wsX5_about) := goodIn_app (goodIn_of _ (by decide +kernel)) ggL_law_X5_about
set_option maxRecDepth 20000 in
theorem ggL_law_X6_about : GoodIn wsL_law wsX6_about := goodIn_r _ [467, 111, 80, 81, 112, 113, 5, 114, 475, 476, 477, 478, 479, 480, 481, 482, 483, 484, 485, 486, 487, 488, 489, 490, 491, 492, 493, 494] (by decide +kernel) (by decide +kernel)
set_option maxRecDepth 20000 in
theorem gL_law_X6_about : GoodIn wsL_law (wsV RL 87 RX6 yX6_about wsX6_about) := goodIn_app (goodIn_of _ (by decide +kernel)) ggL_law_X6_about
theorem dL_law_0 : decode cL_law 0 = .ok (.new 7, 3) := by decide +kernel
theorem dL_law_3 : decode cL_law 3 = .ok (.dup, 1) := by decide +kernel
theorem dL_law_4 : decode cL_law 4 = .ok (.invokespecial 9, 3) := by decide +kernel
theorem dL_law_7 : decode cL_law 7 = .ok (.astore_n 1, 1) := by decide +kernel
theorem dL_law_8 : decode cL_law 8 = .ok (.new 10, 3) := by decide +kernel
theorem dL_law_11 : decode cL_law 11 = .ok (.dup, 1) := by decide +kernel
theorem dL_law_12 : decode cL_law 12 = .ok (.invokespecial 12, 3) := by decide +kernel
theorem dL_law_15 : decode cL_law 15 = .ok (.astore_n 2, 1) := by decide +kernel
theorem dL_law_16 : decode cL_law 16 = .ok (.iconst 0, 1) := by decide +kernel
theorem dL_law_17 : decode cL_law 17 = .ok (.istore_n 3, 1) := by decide +kernel
theorem dL_law_18 : decode cL_law 18 = .ok (.iload_n 3, 1) := by decide +kernel
theorem dL_law_19 : decode cL_law 19 = .ok (.aload_n 0, 1) := by decide +kernel
theorem dL_law_20 : decode cL_law 20 = .ok (.arraylength, 1) := by decide +kernel
theorem dL_law_21 : decode cL_law 21 = .ok (.bipush 7, 2) := by decide +kernel
theorem dL_law_23 : decode cL_law 23 = .ok (.isub, 1) := by decide +kernel
theorem dL_law_24 : decode cL_law 24 = .ok (.if_icmp .gt 762, 3) := by decide +kernel
theorem dL_law_27 : decode cL_law 27 = .ok (.aload_n 0, 1) := by decide +kernel
theorem dL_law_28 : decode cL_law 28 = .ok (.iload_n 3, 1) := by decide +kernel
theorem dL_law_29 : decode cL_law 29 = .ok (.iaload, 1) := by decide +kernel
theorem dL_law_30 : decode cL_law 30 = .ok (.bipush 15, 2) := by decide +kernel
theorem dL_law_32 : decode cL_law 32 = .ok (.iand, 1) := by decide +kernel
theorem dL_law_33 : decode cL_law 33 = .ok (.tableswitch 747 0 15 #[79, 132, 175, 228, 271, 346, 383, 468, 553, 566, 599, 612, 655, 668, 691, 724], 79) := by decide +kernel
theorem dL_law_112 : decode cL_law 112 = .ok (.aload_n 1, 1) := by decide +kernel
theorem dL_law_113 : decode cL_law 113 = .ok (.aload_n 0, 1) := by decide +kernel
theorem dL_law_114 : decode cL_law 114 = .ok (.iload_n 3, 1) := by decide +kernel
theorem dL_law_115 : decode cL_law 115 = .ok (.iconst 1, 1) := by decide +kernel
theorem dL_law_116 : decode cL_law 116 = .ok (.iadd, 1) := by decide +kernel
theorem dL_law_117 : decode cL_law 117 = .ok (.iaload, 1) := by decide +kernel
theorem dL_law_118 : decode cL_law 118 = .ok (.aload_n 0, 1) := by decide +kernel
theorem dL_law_119 : decode cL_law 119 = .ok (.iload_n 3, 1) := by decide +kernel
theorem dL_law_120 : decode cL_law 120 = .ok (.iconst 2, 1) := by decide +kernel
theorem dL_law_121 : decode cL_law 121 = .ok (.iadd, 1) := by decide +kernel
theorem dL_law_122 : decode cL_law 122 = .ok (.iaload, 1) := by decide +kernel
theorem dL_law_123 : decode cL_law 123 = .ok (.aload_n 0, 1) := by decide +kernel
theorem dL_law_124 : decode cL_law 124 = .ok (.iload_n 3, 1) := by decide +kernel
theorem dL_law_125 : decode cL_law 125 = .ok (.iconst 3, 1) := by decide +kernel
theorem dL_law_126 : decode cL_law 126 = .ok (.iadd, 1) := by decide +kernel
theorem dL_law_127 : decode cL_law 127 = .ok (.iaload, 1) := by decide +kernel
theorem dL_law_128 : decode cL_law 128 = .ok (.aload_n 0, 1) := by decide +kernel
theorem dL_law_129 : decode cL_law 129 = .ok (.iload_n 3, 1) := by decide +kernel
theorem dL_law_130 : decode cL_law 130 = .ok (.iconst 4, 1) := by decide +kernel
theorem dL_law_131 : decode cL_law 131 = .ok (.iadd, 1) := by decide +kernel
theorem dL_law_132 : decode cL_law 132 = .ok (.iaload, 1) := by decide +kernel
theorem dL_law_133 : decode cL_law 133 = .ok (.invokevirtual 13, 3) := by decide +kernel
theorem dL_law_136 : decode cL_law 136 = .ok (.aload_n 2, 1) := by decide +kernel
theorem dL_law_137 : decode cL_law 137 = .ok (.aload_n 0, 1) := by decide +kernel
theorem dL_law_138 : decode cL_law 138 = .ok (.iload_n 3, 1) := by decide +kernel
theorem dL_law_139 : decode cL_law 139 = .ok (.iconst 1, 1) := by decide +kernel
theorem dL_law_140 : decode cL_law 140 = .ok (.iadd, 1) := by decide +kernel
theorem dL_law_141 : decode cL_law 141 = .ok (.iaload, 1) := by decide +kernel
theorem dL_law_142 : decode cL_law 142 = .ok (.aload_n 0, 1) := by decide +kernel
theorem dL_law_143 : decode cL_law 143 = .ok (.iload_n 3, 1) := by decide +kernel
theorem dL_law_144 : decode cL_law 144 = .ok (.iconst 2, 1) := by decide +kernel
theorem dL_law_145 : decode cL_law 145 = .ok (.iadd, 1) := by decide +kernel
theorem dL_law_146 : decode cL_law 146 = .ok (.iaload, 1) := by decide +kernel
theorem dL_law_147 : decode cL_law 147 = .ok (.aload_n 0, 1) := by decide +kernel
theorem dL_law_148 : decode cL_law 148 = .ok (.iload_n 3, 1) := by decide +kernel
theorem dL_law_149 : decode cL_law 149 = .ok (.iconst 3, 1) := by decide +kernel
theorem dL_law_150 : decode cL_law 150 = .ok (.iadd, 1) := by decide +kernel
theorem dL_law_151 : decode cL_law 151 = .ok (.iaload, 1) := by decide +kernel
theorem dL_law_152 : decode cL_law 152 = .ok (.aload_n 0, 1) := by decide +kernel
theorem dL_law_153 : decode cL_law 153 = .ok (.iload_n 3, 1) := by decide +kernel
theorem dL_law_154 : decode cL_law 154 = .ok (.iconst 4, 1) := by decide +kernel
theorem dL_law_155 : decode cL_law 155 = .ok (.iadd, 1) := by decide +kernel
theorem dL_law_156 : decode cL_law 156 = .ok (.iaload, 1) := by decide +kernel
theorem dL_law_157 : decode cL_law 157 = .ok (.invokevirtual 17, 3) := by decide +kernel
theorem dL_law_160 : decode cL_law 160 = .ok (.if_icmp .eq 620, 3) := by decide +kernel
theorem dL_law_163 : decode cL_law 163 = .ok (.iconst 0, 1) := by decide +kernel
theorem dL_law_164 : decode cL_law 164 = .ok (.ireturn, 1) := by decide +kernel
theorem dL_law_165 : decode cL_law 165 = .ok (.aload_n 1, 1) := by decide +kernel
theorem dL_law_166 : decode cL_law 166 = .ok (.aload_n 0, 1) := by decide +kernel
theorem dL_law_167 : decode cL_law 167 = .ok (.iload_n 3, 1) := by decide +kernel
theorem dL_law_168 : decode cL_law 168 = .ok (.iconst 1, 1) := by decide +kernel
theorem dL_law_169 : decode cL_law 169 = .ok (.iadd, 1) := by decide +kernel
theorem dL_law_170 : decode cL_law 170 = .ok (.iaload, 1) := by decide +kernel
theorem dL_law_171 : decode cL_law 171 = .ok (.aload_n 0, 1) := by decide +kernel
theorem dL_law_172 : decode cL_law 172 = .ok (.iload_n 3, 1) := by decide +kernel
theorem dL_law_173 : decode cL_law 173 = .ok (.iconst 2, 1) := by decide +kernel
theorem dL_law_174 : decode cL_law 174 = .ok (.iadd, 1) := by decide +kernel
theorem dL_law_175 : decode cL_law 175 = .ok (.iaload, 1) := by decide +kernel
theorem dL_law_176 : decode cL_law 176 = .ok (.aload_n 0, 1) := by decide +kernel
theorem dL_law_177 : decode cL_law 177 = .ok (.iload_n 3, 1) := by decide +kernel
theorem dL_law_178 : decode cL_law 178 = .ok (.iconst 3, 1) := by decide +kernel
theorem dL_law_179 : decode cL_law 179 = .ok (.iadd, 1) := by decide +kernel
theorem dL_law_180 : decode cL_law 180 = .ok (.iaload, 1) := by decide +kernel
theorem dL_law_181 : decode cL_law 181 = .ok (.invokevirtual 18, 3) := by decide +kernel
theorem dL_law_184 : decode cL_law 184 = .ok (.aload_n 2, 1) := by decide +kernel
theorem dL_law_185 : decode cL_law 185 = .ok (.aload_n 0, 1) := by decide +kernel
theorem dL_law_186 : decode cL_law 186 = .ok (.iload_n 3, 1) := by decide +kernel
theorem dL_law_187 : decode cL_law 187 = .ok (.iconst 1, 1) := by decide +kernel
theorem dL_law_188 : decode cL_law 188 = .ok (.iadd, 1) := by decide +kernel
theorem dL_law_189 : decode cL_law 189 = .ok (.iaload, 1) := by decide +kernel
theorem dL_law_190 : decode cL_law 190 = .ok (.aload_n 0, 1) := by decide +kernel
theorem dL_law_191 : decode cL_law 191 = .ok (.iload_n 3, 1) := by decide +kernel
theorem dL_law_192 : decode cL_law 192 = .ok (.iconst 2, 1) := by decide +kernel
theorem dL_law_193 : decode cL_law 193 = .ok (.iadd, 1) := by decide +kernel
theorem dL_law_194 : decode cL_law 194 = .ok (.iaload, 1) := by decide +kernel
theorem dL_law_195 : decode cL_law 195 = .ok (.aload_n 0, 1) := by decide +kernel
theorem dL_law_196 : decode cL_law 196 = .ok (.iload_n 3, 1) := by decide +kernel
theorem dL_law_197 : decode cL_law 197 = .ok (.iconst 3, 1) := by decide +kernel
theorem dL_law_198 : decode cL_law 198 = .ok (.iadd, 1) := by decide +kernel
theorem dL_law_199 : decode cL_law 199 = .ok (.iaload, 1) := by decide +kernel
theorem dL_law_200 : decode cL_law 200 = .ok (.invokevirtual 22, 3) := by decide +kernel
theorem dL_law_203 : decode cL_law 203 = .ok (.if_icmp .eq 577, 3) := by decide +kernel
theorem dL_law_206 : decode cL_law 206 = .ok (.iconst 0, 1) := by decide +kernel
theorem dL_law_207 : decode cL_law 207 = .ok (.ireturn, 1) := by decide +kernel
theorem dL_law_208 : decode cL_law 208 = .ok (.aload_n 1, 1) := by decide +kernel
theorem dL_law_209 : decode cL_law 209 = .ok (.aload_n 0, 1) := by decide +kernel
theorem dL_law_210 : decode cL_law 210 = .ok (.iload_n 3, 1) := by decide +kernel
theorem dL_law_211 : decode cL_law 211 = .ok (.iconst 1, 1) := by decide +kernel
theorem dL_law_212 : decode cL_law 212 = .ok (.iadd, 1) := by decide +kernel
theorem dL_law_213 : decode cL_law 213 = .ok (.iaload, 1) := by decide +kernel
theorem dL_law_214 : decode cL_law 214 = .ok (.aload_n 0, 1) := by decide +kernel
theorem dL_law_215 : decode cL_law 215 = .ok (.iload_n 3, 1) := by decide +kernel
theorem dL_law_216 : decode cL_law 216 = .ok (.iconst 2, 1) := by decide +kernel
theorem dL_law_217 : decode cL_law 217 = .ok (.iadd, 1) := by decide +kernel
theorem dL_law_218 : decode cL_law 218 = .ok (.iaload, 1) := by decide +kernel
theorem dL_law_219 : decode cL_law 219 = .ok (.aload_n 0, 1) := by decide +kernel
theorem dL_law_220 : decode cL_law 220 = .ok (.iload_n 3, 1) := by decide +kernel
theorem dL_law_221 : decode cL_law 221 = .ok (.iconst 3, 1) := by decide +kernel
theorem dL_law_222 : decode cL_law 222 = .ok (.iadd, 1) := by decide +kernel
theorem dL_law_223 : decode cL_law 223 = .ok (.iaload, 1) := by decide +kernel
theorem dL_law_224 : decode cL_law 224 = .ok (.aload_n 0, 1) := by decide +kernel
theorem dL_law_225 : decode cL_law 225 = .ok (.iload_n 3, 1) := by decide +kernel
theorem dL_law_226 : decode cL_law 226 = .ok (.iconst 4, 1) := by decide +kernel
theorem dL_law_227 : decode cL_law 227 = .ok (.iadd, 1) := by decide +kernel
theorem dL_law_228 : decode cL_law 228 = .ok (.iaload, 1) := by decide +kernel
theorem dL_law_229 : decode cL_law 229 = .ok (.invokevirtual 23, 3) := by decide +kernel
theorem dL_law_232 : decode cL_law 232 = .ok (.aload_n 2, 1) := by decide +kernel
theorem dL_law_233 : decode cL_law 233 = .ok (.aload_n 0, 1) := by decide +kernel
theorem dL_law_234 : decode cL_law 234 = .ok (.iload_n 3, 1) := by decide +kernel
theorem dL_law_235 : decode cL_law 235 = .ok (.iconst 1, 1) := by decide +kernel
theorem dL_law_236 : decode cL_law 236 = .ok (.iadd, 1) := by decide +kernel
theorem dL_law_237 : decode cL_law 237 = .ok (.iaload, 1) := by decide +kernel
theorem dL_law_238 : decode cL_law 238 = .ok (.aload_n 0, 1) := by decide +kernel
theorem dL_law_239 : decode cL_law 239 = .ok (.iload_n 3, 1) := by decide +kernel
theorem dL_law_240 : decode cL_law 240 = .ok (.iconst 2, 1) := by decide +kernel
theorem dL_law_241 : decode cL_law 241 = .ok (.iadd, 1) := by decide +kernel
theorem dL_law_242 : decode cL_law 242 = .ok (.iaload, 1) := by decide +kernel
theorem dL_law_243 : decode cL_law 243 = .ok (.aload_n 0, 1) := by decide +kernel
theorem dL_law_244 : decode cL_law 244 = .ok (.iload_n 3, 1) := by decide +kernel
theorem dL_law_245 : decode cL_law 245 = .ok (.iconst 3, 1) := by decide +kernel
theorem dL_law_246 : decode cL_law 246 = .ok (.iadd, 1) := by decide +kernel
theorem dL_law_247 : decode cL_law 247 = .ok (.iaload, 1) := by decide +kernel
theorem dL_law_248 : decode cL_law 248 = .ok (.aload_n 0, 1) := by decide +kernel
theorem dL_law_249 : decode cL_law 249 = .ok (.iload_n 3, 1) := by decide +kernel
theorem dL_law_250 : decode cL_law 250 = .ok (.iconst 4, 1) := by decide +kernel
theorem dL_law_251 : decode cL_law 251 = .ok (.iadd, 1) := by decide +kernel
theorem dL_law_252 : decode cL_law 252 = .ok (.iaload, 1) := by decide +kernel
theorem dL_law_253 : decode cL_law 253 = .ok (.invokevirtual 27, 3) := by decide +kernel
theorem dL_law_256 : decode cL_law 256 = .ok (.if_icmp .eq 524, 3) := by decide +kernel
theorem dL_law_259 : decode cL_law 259 = .ok (.iconst 0, 1) := by decide +kernel
theorem dL_law_260 : decode cL_law 260 = .ok (.ireturn, 1) := by decide +kernel
theorem dL_law_261 : decode cL_law 261 = .ok (.aload_n 1, 1) := by decide +kernel
theorem dL_law_262 : decode cL_law 262 = .ok (.aload_n 0, 1) := by decide +kernel
theorem dL_law_263 : decode cL_law 263 = .ok (.iload_n 3, 1) := by decide +kernel
theorem dL_law_264 : decode cL_law 264 = .ok (.iconst 1, 1) := by decide +kernel
theorem dL_law_265 : decode cL_law 265 = .ok (.iadd, 1) := by decide +kernel
theorem dL_law_266 : decode cL_law 266 = .ok (.iaload, 1) := by decide +kernel
theorem dL_law_267 : decode cL_law 267 = .ok (.aload_n 0, 1) := by decide +kernel
theorem dL_law_268 : decode cL_law 268 = .ok (.iload_n 3, 1) := by decide +kernel
theorem dL_law_269 : decode cL_law 269 = .ok (.iconst 2, 1) := by decide +kernel
theorem dL_law_270 : decode cL_law 270 = .ok (.iadd, 1) := by decide +kernel
theorem dL_law_271 : decode cL_law 271 = .ok (.iaload, 1) := by decide +kernel
theorem dL_law_272 : decode cL_law 272 = .ok (.aload_n 0, 1) := by decide +kernel
theorem dL_law_273 : decode cL_law 273 = .ok (.iload_n 3, 1) := by decide +kernel
theorem dL_law_274 : decode cL_law 274 = .ok (.iconst 3, 1) := by decide +kernel
theorem dL_law_275 : decode cL_law 275 = .ok (.iadd, 1) := by decide +kernel
theorem dL_law_276 : decode cL_law 276 = .ok (.iaload, 1) := by decide +kernel
theorem dL_law_277 : decode cL_law 277 = .ok (.invokevirtual 28, 3) := by decide +kernel
theorem dL_law_280 : decode cL_law 280 = .ok (.aload_n 2, 1) := by decide +kernel
theorem dL_law_281 : decode cL_law 281 = .ok (.aload_n 0, 1) := by decide +kernel
theorem dL_law_282 : decode cL_law 282 = .ok (.iload_n 3, 1) := by decide +kernel
theorem dL_law_283 : decode cL_law 283 = .ok (.iconst 1, 1) := by decide +kernel
theorem dL_law_284 : decode cL_law 284 = .ok (.iadd, 1) := by decide +kernel
theorem dL_law_285 : decode cL_law 285 = .ok (.iaload, 1) := by decide +kernel
theorem dL_law_286 : decode cL_law 286 = .ok (.aload_n 0, 1) := by decide +kernel
theorem dL_law_287 : decode cL_law 287 = .ok (.iload_n 3, 1) := by decide +kernel
theorem dL_law_288 : decode cL_law 288 = .ok (.iconst 2, 1) := by decide +kernel
theorem dL_law_289 : decode cL_law 289 = .ok (.iadd, 1) := by decide +kernel
theorem dL_law_290 : decode cL_law 290 = .ok (.iaload, 1) := by decide +kernel
theorem dL_law_291 : decode cL_law 291 = .ok (.aload_n 0, 1) := by decide +kernel
theorem dL_law_292 : decode cL_law 292 = .ok (.iload_n 3, 1) := by decide +kernel
theorem dL_law_293 : decode cL_law 293 = .ok (.iconst 3, 1) := by decide +kernel
theorem dL_law_294 : decode cL_law 294 = .ok (.iadd, 1) := by decide +kernel
theorem dL_law_295 : decode cL_law 295 = .ok (.iaload, 1) := by decide +kernel
theorem dL_law_296 : decode cL_law 296 = .ok (.invokevirtual 31, 3) := by decide +kernel
theorem dL_law_299 : decode cL_law 299 = .ok (.if_icmp .eq 481, 3) := by decide +kernel
theorem dL_law_302 : decode cL_law 302 = .ok (.iconst 0, 1) := by decide +kernel
theorem dL_law_303 : decode cL_law 303 = .ok (.ireturn, 1) := by decide +kernel
theorem dL_law_304 : decode cL_law 304 = .ok (.aload_n 1, 1) := by decide +kernel
theorem dL_law_305 : decode cL_law 305 = .ok (.aload_n 0, 1) := by decide +kernel
theorem dL_law_306 : decode cL_law 306 = .ok (.iload_n 3, 1) := by decide +kernel
theorem dL_law_307 : decode cL_law 307 = .ok (.iconst 1, 1) := by decide +kernel
theorem dL_law_308 : decode cL_law 308 = .ok (.iadd, 1) := by decide +kernel
theorem dL_law_309 : decode cL_law 309 = .ok (.iaload, 1) := by decide +kernel
theorem dL_law_310 : decode cL_law 310 = .ok (.aload_n 0, 1) := by decide +kernel
theorem dL_law_311 : decode cL_law 311 = .ok (.iload_n 3, 1) := by decide +kernel
theorem dL_law_312 : decode cL_law 312 = .ok (.iconst 2, 1) := by decide +kernel
theorem dL_law_313 : decode cL_law 313 = .ok (.iadd, 1) := by decide +kernel
theorem dL_law_314 : decode cL_law 314 = .ok (.iaload, 1) := by decide +kernel
theorem dL_law_315 : decode cL_law 315 = .ok (.aload_n 0, 1) := by decide +kernel
theorem dL_law_316 : decode cL_law 316 = .ok (.iload_n 3, 1) := by decide +kernel
theorem dL_law_317 : decode cL_law 317 = .ok (.iconst 3, 1) := by decide +kernel
theorem dL_law_318 : decode cL_law 318 = .ok (.iadd, 1) := by decide +kernel
theorem dL_law_319 : decode cL_law 319 = .ok (.iaload, 1) := by decide +kernel
theorem dL_law_320 : decode cL_law 320 = .ok (.aload_n 0, 1) := by decide +kernel
theorem dL_law_321 : decode cL_law 321 = .ok (.iload_n 3, 1) := by decide +kernel
theorem dL_law_322 : decode cL_law 322 = .ok (.iconst 4, 1) := by decide +kernel
theorem dL_law_323 : decode cL_law 323 = .ok (.iadd, 1) := by decide +kernel
theorem dL_law_324 : decode cL_law 324 = .ok (.iaload, 1) := by decide +kernel
theorem dL_law_325 : decode cL_law 325 = .ok (.aload_n 0, 1) := by decide +kernel
theorem dL_law_326 : decode cL_law 326 = .ok (.iload_n 3, 1) := by decide +kernel
theorem dL_law_327 : decode cL_law 327 = .ok (.iconst 5, 1) := by decide +kernel
theorem dL_law_328 : decode cL_law 328 = .ok (.iadd, 1) := by decide +kernel
theorem dL_law_329 : decode cL_law 329 = .ok (.iaload, 1) := by decide +kernel
theorem dL_law_330 : decode cL_law 330 = .ok (.aload_n 0, 1) := by decide +kernel
theorem dL_law_331 : decode cL_law 331 = .ok (.iload_n 3, 1) := by decide +kernel
theorem dL_law_332 : decode cL_law 332 = .ok (.bipush 6, 2) := by decide +kernel
theorem dL_law_334 : decode cL_law 334 = .ok (.iadd, 1) := by decide +kernel
theorem dL_law_335 : decode cL_law 335 = .ok (.iaload, 1) := by decide +kernel
theorem dL_law_336 : decode cL_law 336 = .ok (.invokevirtual 32, 3) := by decide +kernel
theorem dL_law_339 : decode cL_law 339 = .ok (.aload_n 2, 1) := by decide +kernel
theorem dL_law_340 : decode cL_law 340 = .ok (.aload_n 0, 1) := by decide +kernel
theorem dL_law_341 : decode cL_law 341 = .ok (.iload_n 3, 1) := by decide +kernel
theorem dL_law_342 : decode cL_law 342 = .ok (.iconst 1, 1) := by decide +kernel
theorem dL_law_343 : decode cL_law 343 = .ok (.iadd, 1) := by decide +kernel
theorem dL_law_344 : decode cL_law 344 = .ok (.iaload, 1) := by decide +kernel
theorem dL_law_345 : decode cL_law 345 = .ok (.aload_n 0, 1) := by decide +kernel
theorem dL_law_346 : decode cL_law 346 = .ok (.iload_n 3, 1) := by decide +kernel
theorem dL_law_347 : decode cL_law 347 = .ok (.iconst 2, 1) := by decide +kernel
theorem dL_law_348 : decode cL_law 348 = .ok (.iadd, 1) := by decide +kernel
theorem dL_law_349 : decode cL_law 349 = .ok (.iaload, 1) := by decide +kernel
theorem dL_law_350 : decode cL_law 350 = .ok (.aload_n 0, 1) := by decide +kernel
theorem dL_law_351 : decode cL_law 351 = .ok (.iload_n 3, 1) := by decide +kernel
theorem dL_law_352 : decode cL_law 352 = .ok (.iconst 3, 1) := by decide +kernel
theorem dL_law_353 : decode cL_law 353 = .ok (.iadd, 1) := by decide +kernel
theorem dL_law_354 : decode cL_law 354 = .ok (.iaload, 1) := by decide +kernel
theorem dL_law_355 : decode cL_law 355 = .ok (.aload_n 0, 1) := by decide +kernel
theorem dL_law_356 : decode cL_law 356 = .ok (.iload_n 3, 1) := by decide +kernel
theorem dL_law_357 : decode cL_law 357 = .ok (.iconst 4, 1) := by decide +kernel
theorem dL_law_358 : decode cL_law 358 = .ok (.iadd, 1) := by decide +kernel
theorem dL_law_359 : decode cL_law 359 = .ok (.iaload, 1) := by decide +kernel
theorem dL_law_360 : decode cL_law 360 = .ok (.aload_n 0, 1) := by decide +kernel
theorem dL_law_361 : decode cL_law 361 = .ok (.iload_n 3, 1) := by decide +kernel
theorem dL_law_362 : decode cL_law 362 = .ok (.iconst 5, 1) := by decide +kernel
theorem dL_law_363 : decode cL_law 363 = .ok (.iadd, 1) := by decide +kernel
theorem dL_law_364 : decode cL_law 364 = .ok (.iaload, 1) := by decide +kernel
theorem dL_law_365 : decode cL_law 365 = .ok (.aload_n 0, 1) := by decide +kernel
theorem dL_law_366 : decode cL_law 366 = .ok (.iload_n 3, 1) := by decide +kernel
theorem dL_law_367 : decode cL_law 367 = .ok (.bipush 6, 2) := by decide +kernel
theorem dL_law_369 : decode cL_law 369 = .ok (.iadd, 1) := by decide +kernel
theorem dL_law_370 : decode cL_law 370 = .ok (.iaload, 1) := by decide +kernel
theorem dL_law_371 : decode cL_law 371 = .ok (.invokevirtual 36, 3) := by decide +kernel
theorem dL_law_374 : decode cL_law 374 = .ok (.if_icmp .eq 406, 3) := by decide +kernel
theorem dL_law_377 : decode cL_law 377 = .ok (.iconst 0, 1) := by decide +kernel
theorem dL_law_378 : decode cL_law 378 = .ok (.ireturn, 1) := by decide +kernel
theorem dL_law_379 : decode cL_law 379 = .ok (.aload_n 1, 1) := by decide +kernel
theorem dL_law_380 : decode cL_law 380 = .ok (.aload_n 0, 1) := by decide +kernel
theorem dL_law_381 : decode cL_law 381 = .ok (.iload_n 3, 1) := by decide +kernel
theorem dL_law_382 : decode cL_law 382 = .ok (.iconst 1, 1) := by decide +kernel
theorem dL_law_383 : decode cL_law 383 = .ok (.iadd, 1) := by decide +kernel
theorem dL_law_384 : decode cL_law 384 = .ok (.iaload, 1) := by decide +kernel
theorem dL_law_385 : decode cL_law 385 = .ok (.ifCond .eq 7, 3) := by decide +kernel
theorem dL_law_388 : decode cL_law 388 = .ok (.iconst 1, 1) := by decide +kernel
theorem dL_law_389 : decode cL_law 389 = .ok (.goto 4, 3) := by decide +kernel
theorem dL_law_392 : decode cL_law 392 = .ok (.iconst 0, 1) := by decide +kernel
theorem dL_law_393 : decode cL_law 393 = .ok (.invokevirtual 37, 3) := by decide +kernel
theorem dL_law_396 : decode cL_law 396 = .ok (.aload_n 2, 1) := by decide +kernel
theorem dL_law_397 : decode cL_law 397 = .ok (.aload_n 0, 1) := by decide +kernel
theorem dL_law_398 : decode cL_law 398 = .ok (.iload_n 3, 1) := by decide +kernel
theorem dL_law_399 : decode cL_law 399 = .ok (.iconst 1, 1) := by decide +kernel
theorem dL_law_400 : decode cL_law 400 = .ok (.iadd, 1) := by decide +kernel
theorem dL_law_401 : decode cL_law 401 = .ok (.iaload, 1) := by decide +kernel
theorem dL_law_402 : decode cL_law 402 = .ok (.ifCond .eq 7, 3) := by decide +kernel
theorem dL_law_405 : decode cL_law 405 = .ok (.iconst 1, 1) := by decide +kernel
theorem dL_law_406 : decode cL_law 406 = .ok (.goto 4, 3) := by decide +kernel
theorem dL_law_409 : decode cL_law 409 = .ok (.iconst 0, 1) := by decide +kernel
theorem dL_law_410 : decode cL_law 410 = .ok (.invokevirtual 41, 3) := by decide +kernel
theorem dL_law_413 : decode cL_law 413 = .ok (.goto 367, 3) := by decide +kernel
theorem dL_law_416 : decode cL_law 416 = .ok (.aload_n 1, 1) := by decide +kernel
theorem dL_law_417 : decode cL_law 417 = .ok (.aload_n 0, 1) := by decide +kernel
theorem dL_law_418 : decode cL_law 418 = .ok (.iload_n 3, 1) := by decide +kernel
theorem dL_law_419 : decode cL_law 419 = .ok (.iconst 1, 1) := by decide +kernel
theorem dL_law_420 : decode cL_law 420 = .ok (.iadd, 1) := by decide +kernel
theorem dL_law_421 : decode cL_law 421 = .ok (.iaload, 1) := by decide +kernel
theorem dL_law_422 : decode cL_law 422 = .ok (.aload_n 0, 1) := by decide +kernel
theorem dL_law_423 : decode cL_law 423 = .ok (.iload_n 3, 1) := by decide +kernel
theorem dL_law_424 : decode cL_law 424 = .ok (.iconst 2, 1) := by decide +kernel
theorem dL_law_425 : decode cL_law 425 = .ok (.iadd, 1) := by decide +kernel
theorem dL_law_426 : decode cL_law 426 = .ok (.iaload, 1) := by decide +kernel
theorem dL_law_427 : decode cL_law 427 = .ok (.aload_n 0, 1) := by decide +kernel
theorem dL_law_428 : decode cL_law 428 = .ok (.iload_n 3, 1) := by decide +kernel
theorem dL_law_429 : decode cL_law 429 = .ok (.iconst 3, 1) := by decide +kernel
theorem dL_law_430 : decode cL_law 430 = .ok (.iadd, 1) := by decide +kernel
theorem dL_law_431 : decode cL_law 431 = .ok (.iaload, 1) := by decide +kernel
theorem dL_law_432 : decode cL_law 432 = .ok (.ifCond .eq 7, 3) := by decide +kernel
theorem dL_law_435 : decode cL_law 435 = .ok (.iconst 1, 1) := by decide +kernel
theorem dL_law_436 : decode cL_law 436 = .ok (.goto 4, 3) := by decide +kernel
theorem dL_law_439 : decode cL_law 439 = .ok (.iconst 0, 1) := by decide +kernel
theorem dL_law_440 : decode cL_law 440 = .ok (.aload_n 0, 1) := by decide +kernel
theorem dL_law_441 : decode cL_law 441 = .ok (.iload_n 3, 1) := by decide +kernel
theorem dL_law_442 : decode cL_law 442 = .ok (.iconst 4, 1) := by decide +kernel
theorem dL_law_443 : decode cL_law 443 = .ok (.iadd, 1) := by decide +kernel
theorem dL_law_444 : decode cL_law 444 = .ok (.iaload, 1) := by decide +kernel
theorem dL_law_445 : decode cL_law 445 = .ok (.ifCond .eq 7, 3) := by decide +kernel
theorem dL_law_448 : decode cL_law 448 = .ok (.iconst 1, 1) := by decide +kernel
theorem dL_law_449 : decode cL_law 449 = .ok (.goto 4, 3) := by decide +kernel
theorem dL_law_452 : decode cL_law 452 = .ok (.iconst 0, 1) := by decide +kernel
theorem dL_law_453 : decode cL_law 453 = .ok (.invokevirtual 42, 3) := by decide +kernel
theorem dL_law_456 : decode cL_law 456 = .ok (.aload_n 2, 1) := by decide +kernel
theorem dL_law_457 : decode cL_law 457 = .ok (.aload_n 0, 1) := by decide +kernel
theorem dL_law_458 : decode cL_law 458 = .ok (.iload_n 3, 1) := by decide +kernel
theorem dL_law_459 : decode cL_law 459 = .ok (.iconst 1, 1) := by decide +kernel
theorem dL_law_460 : decode cL_law 460 = .ok (.iadd, 1) := by decide +kernel
theorem dL_law_461 : decode cL_law 461 = .ok (.iaload, 1) := by decide +kernel
theorem dL_law_462 : decode cL_law 462 = .ok (.aload_n 0, 1) := by decide +kernel
theorem dL_law_463 : decode cL_law 463 = .ok (.iload_n 3, 1) := by decide +kernel
theorem dL_law_464 : decode cL_law 464 = .ok (.iconst 2, 1) := by decide +kernel
theorem dL_law_465 : decode cL_law 465 = .ok (.iadd, 1) := by decide +kernel
theorem dL_law_466 : decode cL_law 466 = .ok (.iaload, 1) := by decide +kernel
theorem dL_law_467 : decode cL_law 467 = .ok (.aload_n 0, 1) := by decide +kernel
theorem dL_law_468 : decode cL_law 468 = .ok (.iload_n 3, 1) := by decide +kernel
theorem dL_law_469 : decode cL_law 469 = .ok (.iconst 3, 1) := by decide +kernel
theorem dL_law_470 : decode cL_law 470 = .ok (.iadd, 1) := by decide +kernel
theorem dL_law_471 : decode cL_law 471 = .ok (.iaload, 1) := by decide +kernel
theorem dL_law_472 : decode cL_law 472 = .ok (.ifCond .eq 7, 3) := by decide +kernel
theorem dL_law_475 : decode cL_law 475 = .ok (.iconst 1, 1) := by decide +kernel
theorem dL_law_476 : decode cL_law 476 = .ok (.goto 4, 3) := by decide +kernel
theorem dL_law_479 : decode cL_law 479 = .ok (.iconst 0, 1) := by decide +kernel
theorem dL_law_480 : decode cL_law 480 = .ok (.aload_n 0, 1) := by decide +kernel
theorem dL_law_481 : decode cL_law 481 = .ok (.iload_n 3, 1) := by decide +kernel
theorem dL_law_482 : decode cL_law 482 = .ok (.iconst 4, 1) := by decide +kernel
theorem dL_law_483 : decode cL_law 483 = .ok (.iadd, 1) := by decide +kernel
theorem dL_law_484 : decode cL_law 484 = .ok (.iaload, 1) := by decide +kernel
theorem dL_law_485 : decode cL_law 485 = .ok (.ifCond .eq 7, 3) := by decide +kernel
theorem dL_law_488 : decode cL_law 488 = .ok (.iconst 1, 1) := by decide +kernel
theorem dL_law_489 : decode cL_law 489 = .ok (.goto 4, 3) := by decide +kernel
theorem dL_law_492 : decode cL_law 492 = .ok (.iconst 0, 1) := by decide +kernel
theorem dL_law_493 : decode cL_law 493 = .ok (.invokevirtual 46, 3) := by decide +kernel
theorem dL_law_496 : decode cL_law 496 = .ok (.if_icmp .eq 284, 3) := by decide +kernel
theorem dL_law_499 : decode cL_law 499 = .ok (.iconst 0, 1) := by decide +kernel
theorem dL_law_500 : decode cL_law 500 = .ok (.ireturn, 1) := by decide +kernel
theorem dL_law_501 : decode cL_law 501 = .ok (.aload_n 1, 1) := by decide +kernel
theorem dL_law_502 : decode cL_law 502 = .ok (.aload_n 0, 1) := by decide +kernel
theorem dL_law_503 : decode cL_law 503 = .ok (.iload_n 3, 1) := by decide +kernel
theorem dL_law_504 : decode cL_law 504 = .ok (.iconst 1, 1) := by decide +kernel
theorem dL_law_505 : decode cL_law 505 = .ok (.iadd, 1) := by decide +kernel
theorem dL_law_506 : decode cL_law 506 = .ok (.iaload, 1) := by decide +kernel
theorem dL_law_507 : decode cL_law 507 = .ok (.aload_n 0, 1) := by decide +kernel
theorem dL_law_508 : decode cL_law 508 = .ok (.iload_n 3, 1) := by decide +kernel
theorem dL_law_509 : decode cL_law 509 = .ok (.iconst 2, 1) := by decide +kernel
theorem dL_law_510 : decode cL_law 510 = .ok (.iadd, 1) := by decide +kernel
theorem dL_law_511 : decode cL_law 511 = .ok (.iaload, 1) := by decide +kernel
theorem dL_law_512 : decode cL_law 512 = .ok (.ifCond .eq 7, 3) := by decide +kernel
theorem dL_law_515 : decode cL_law 515 = .ok (.iconst 1, 1) := by decide +kernel
theorem dL_law_516 : decode cL_law 516 = .ok (.goto 4, 3) := by decide +kernel
theorem dL_law_519 : decode cL_law 519 = .ok (.iconst 0, 1) := by decide +kernel
theorem dL_law_520 : decode cL_law 520 = .ok (.aload_n 0, 1) := by decide +kernel
theorem dL_law_521 : decode cL_law 521 = .ok (.iload_n 3, 1) := by decide +kernel
theorem dL_law_522 : decode cL_law 522 = .ok (.iconst 3, 1) := by decide +kernel
theorem dL_law_523 : decode cL_law 523 = .ok (.iadd, 1) := by decide +kernel
theorem dL_law_524 : decode cL_law 524 = .ok (.iaload, 1) := by decide +kernel
theorem dL_law_525 : decode cL_law 525 = .ok (.aload_n 0, 1) := by decide +kernel
theorem dL_law_526 : decode cL_law 526 = .ok (.iload_n 3, 1) := by decide +kernel
theorem dL_law_527 : decode cL_law 527 = .ok (.iconst 4, 1) := by decide +kernel
theorem dL_law_528 : decode cL_law 528 = .ok (.iadd, 1) := by decide +kernel
theorem dL_law_529 : decode cL_law 529 = .ok (.iaload, 1) := by decide +kernel
theorem dL_law_530 : decode cL_law 530 = .ok (.ifCond .eq 7, 3) := by decide +kernel
theorem dL_law_533 : decode cL_law 533 = .ok (.iconst 1, 1) := by decide +kernel
theorem dL_law_534 : decode cL_law 534 = .ok (.goto 4, 3) := by decide +kernel
theorem dL_law_537 : decode cL_law 537 = .ok (.iconst 0, 1) := by decide +kernel
theorem dL_law_538 : decode cL_law 538 = .ok (.invokevirtual 47, 3) := by decide +kernel
theorem dL_law_541 : decode cL_law 541 = .ok (.aload_n 2, 1) := by decide +kernel
theorem dL_law_542 : decode cL_law 542 = .ok (.aload_n 0, 1) := by decide +kernel
theorem dL_law_543 : decode cL_law 543 = .ok (.iload_n 3, 1) := by decide +kernel
theorem dL_law_544 : decode cL_law 544 = .ok (.iconst 1, 1) := by decide +kernel
theorem dL_law_545 : decode cL_law 545 = .ok (.iadd, 1) := by decide +kernel
theorem dL_law_546 : decode cL_law 546 = .ok (.iaload, 1) := by decide +kernel
theorem dL_law_547 : decode cL_law 547 = .ok (.aload_n 0, 1) := by decide +kernel
theorem dL_law_548 : decode cL_law 548 = .ok (.iload_n 3, 1) := by decide +kernel
theorem dL_law_549 : decode cL_law 549 = .ok (.iconst 2, 1) := by decide +kernel
theorem dL_law_550 : decode cL_law 550 = .ok (.iadd, 1) := by decide +kernel
theorem dL_law_551 : decode cL_law 551 = .ok (.iaload, 1) := by decide +kernel
theorem dL_law_552 : decode cL_law 552 = .ok (.ifCond .eq 7, 3) := by decide +kernel
theorem dL_law_555 : decode cL_law 555 = .ok (.iconst 1, 1) := by decide +kernel
theorem dL_law_556 : decode cL_law 556 = .ok (.goto 4, 3) := by decide +kernel
theorem dL_law_559 : decode cL_law 559 = .ok (.iconst 0, 1) := by decide +kernel
theorem dL_law_560 : decode cL_law 560 = .ok (.aload_n 0, 1) := by decide +kernel
theorem dL_law_561 : decode cL_law 561 = .ok (.iload_n 3, 1) := by decide +kernel
theorem dL_law_562 : decode cL_law 562 = .ok (.iconst 3, 1) := by decide +kernel
theorem dL_law_563 : decode cL_law 563 = .ok (.iadd, 1) := by decide +kernel
theorem dL_law_564 : decode cL_law 564 = .ok (.iaload, 1) := by decide +kernel
theorem dL_law_565 : decode cL_law 565 = .ok (.aload_n 0, 1) := by decide +kernel
theorem dL_law_566 : decode cL_law 566 = .ok (.iload_n 3, 1) := by decide +kernel
theorem dL_law_567 : decode cL_law 567 = .ok (.iconst 4, 1) := by decide +kernel
theorem dL_law_568 : decode cL_law 568 = .ok (.iadd, 1) := by decide +kernel
theorem dL_law_569 : decode cL_law 569 = .ok (.iaload, 1) := by decide +kernel
theorem dL_law_570 : decode cL_law 570 = .ok (.ifCond .eq 7, 3) := by decide +kernel
theorem dL_law_573 : decode cL_law 573 = .ok (.iconst 1, 1) := by decide +kernel
theorem dL_law_574 : decode cL_law 574 = .ok (.goto 4, 3) := by decide +kernel
theorem dL_law_577 : decode cL_law 577 = .ok (.iconst 0, 1) := by decide +kernel
theorem dL_law_578 : decode cL_law 578 = .ok (.invokevirtual 51, 3) := by decide +kernel
theorem dL_law_581 : decode cL_law 581 = .ok (.if_icmp .eq 199, 3) := by decide +kernel
theorem dL_law_584 : decode cL_law 584 = .ok (.iconst 0, 1) := by decide +kernel
theorem dL_law_585 : decode cL_law 585 = .ok (.ireturn, 1) := by decide +kernel
theorem dL_law_586 : decode cL_law 586 = .ok (.aload_n 1, 1) := by decide +kernel
theorem dL_law_587 : decode cL_law 587 = .ok (.invokevirtual 52, 3) := by decide +kernel
theorem dL_law_590 : decode cL_law 590 = .ok (.aload_n 2, 1) := by decide +kernel
theorem dL_law_591 : decode cL_law 591 = .ok (.invokevirtual 56, 3) := by decide +kernel
theorem dL_law_594 : decode cL_law 594 = .ok (.if_icmp .eq 186, 3) := by decide +kernel
theorem dL_law_597 : decode cL_law 597 = .ok (.iconst 0, 1) := by decide +kernel
theorem dL_law_598 : decode cL_law 598 = .ok (.ireturn, 1) := by decide +kernel
theorem dL_law_599 : decode cL_law 599 = .ok (.aload_n 1, 1) := by decide +kernel
theorem dL_law_600 : decode cL_law 600 = .ok (.aload_n 0, 1) := by decide +kernel
theorem dL_law_601 : decode cL_law 601 = .ok (.iload_n 3, 1) := by decide +kernel
theorem dL_law_602 : decode cL_law 602 = .ok (.iconst 1, 1) := by decide +kernel
theorem dL_law_603 : decode cL_law 603 = .ok (.iadd, 1) := by decide +kernel
theorem dL_law_604 : decode cL_law 604 = .ok (.iaload, 1) := by decide +kernel
theorem dL_law_605 : decode cL_law 605 = .ok (.aload_n 0, 1) := by decide +kernel
theorem dL_law_606 : decode cL_law 606 = .ok (.iload_n 3, 1) := by decide +kernel
theorem dL_law_607 : decode cL_law 607 = .ok (.iconst 2, 1) := by decide +kernel
theorem dL_law_608 : decode cL_law 608 = .ok (.iadd, 1) := by decide +kernel
theorem dL_law_609 : decode cL_law 609 = .ok (.iaload, 1) := by decide +kernel
theorem dL_law_610 : decode cL_law 610 = .ok (.invokevirtual 57, 3) := by decide +kernel
theorem dL_law_613 : decode cL_law 613 = .ok (.aload_n 2, 1) := by decide +kernel
theorem dL_law_614 : decode cL_law 614 = .ok (.aload_n 0, 1) := by decide +kernel
theorem dL_law_615 : decode cL_law 615 = .ok (.iload_n 3, 1) := by decide +kernel
theorem dL_law_616 : decode cL_law 616 = .ok (.iconst 1, 1) := by decide +kernel
theorem dL_law_617 : decode cL_law 617 = .ok (.iadd, 1) := by decide +kernel
theorem dL_law_618 : decode cL_law 618 = .ok (.iaload, 1) := by decide +kernel
theorem dL_law_619 : decode cL_law 619 = .ok (.aload_n 0, 1) := by decide +kernel
theorem dL_law_620 : decode cL_law 620 = .ok (.iload_n 3, 1) := by decide +kernel
theorem dL_law_621 : decode cL_law 621 = .ok (.iconst 2, 1) := by decide +kernel
theorem dL_law_622 : decode cL_law 622 = .ok (.iadd, 1) := by decide +kernel
theorem dL_law_623 : decode cL_law 623 = .ok (.iaload, 1) := by decide +kernel
theorem dL_law_624 : decode cL_law 624 = .ok (.invokevirtual 61, 3) := by decide +kernel
theorem dL_law_627 : decode cL_law 627 = .ok (.if_icmp .eq 153, 3) := by decide +kernel
theorem dL_law_630 : decode cL_law 630 = .ok (.iconst 0, 1) := by decide +kernel
theorem dL_law_631 : decode cL_law 631 = .ok (.ireturn, 1) := by decide +kernel
theorem dL_law_632 : decode cL_law 632 = .ok (.aload_n 1, 1) := by decide +kernel
theorem dL_law_633 : decode cL_law 633 = .ok (.invokevirtual 62, 3) := by decide +kernel
theorem dL_law_636 : decode cL_law 636 = .ok (.aload_n 2, 1) := by decide +kernel
theorem dL_law_637 : decode cL_law 637 = .ok (.invokevirtual 65, 3) := by decide +kernel
theorem dL_law_640 : decode cL_law 640 = .ok (.if_icmp .eq 140, 3) := by decide +kernel
theorem dL_law_643 : decode cL_law 643 = .ok (.iconst 0, 1) := by decide +kernel
theorem dL_law_644 : decode cL_law 644 = .ok (.ireturn, 1) := by decide +kernel
theorem dL_law_645 : decode cL_law 645 = .ok (.aload_n 1, 1) := by decide +kernel
theorem dL_law_646 : decode cL_law 646 = .ok (.aload_n 0, 1) := by decide +kernel
theorem dL_law_647 : decode cL_law 647 = .ok (.iload_n 3, 1) := by decide +kernel
theorem dL_law_648 : decode cL_law 648 = .ok (.iconst 1, 1) := by decide +kernel
theorem dL_law_649 : decode cL_law 649 = .ok (.iadd, 1) := by decide +kernel
theorem dL_law_650 : decode cL_law 650 = .ok (.iaload, 1) := by decide +kernel
theorem dL_law_651 : decode cL_law 651 = .ok (.aload_n 0, 1) := by decide +kernel
theorem dL_law_652 : decode cL_law 652 = .ok (.iload_n 3, 1) := by decide +kernel
theorem dL_law_653 : decode cL_law 653 = .ok (.iconst 2, 1) := by decide +kernel
theorem dL_law_654 : decode cL_law 654 = .ok (.iadd, 1) := by decide +kernel
theorem dL_law_655 : decode cL_law 655 = .ok (.iaload, 1) := by decide +kernel
theorem dL_law_656 : decode cL_law 656 = .ok (.aload_n 0, 1) := by decide +kernel
theorem dL_law_657 : decode cL_law 657 = .ok (.iload_n 3, 1) := by decide +kernel
theorem dL_law_658 : decode cL_law 658 = .ok (.iconst 3, 1) := by decide +kernel
theorem dL_law_659 : decode cL_law 659 = .ok (.iadd, 1) := by decide +kernel
theorem dL_law_660 : decode cL_law 660 = .ok (.iaload, 1) := by decide +kernel
theorem dL_law_661 : decode cL_law 661 = .ok (.invokevirtual 66, 3) := by decide +kernel
theorem dL_law_664 : decode cL_law 664 = .ok (.aload_n 2, 1) := by decide +kernel
theorem dL_law_665 : decode cL_law 665 = .ok (.aload_n 0, 1) := by decide +kernel
theorem dL_law_666 : decode cL_law 666 = .ok (.iload_n 3, 1) := by decide +kernel
theorem dL_law_667 : decode cL_law 667 = .ok (.iconst 1, 1) := by decide +kernel
theorem dL_law_668 : decode cL_law 668 = .ok (.iadd, 1) := by decide +kernel
theorem dL_law_669 : decode cL_law 669 = .ok (.iaload, 1) := by decide +kernel
theorem dL_law_670 : decode cL_law 670 = .ok (.aload_n 0, 1) := by decide +kernel
theorem dL_law_671 : decode cL_law 671 = .ok (.iload_n 3, 1) := by decide +kernel
theorem dL_law_672 : decode cL_law 672 = .ok (.iconst 2, 1) := by decide +kernel
theorem dL_law_673 : decode cL_law 673 = .ok (.iadd, 1) := by decide +kernel
theorem dL_law_674 : decode cL_law 674 = .ok (.iaload, 1) := by decide +kernel
theorem dL_law_675 : decode cL_law 675 = .ok (.aload_n 0, 1) := by decide +kernel
theorem dL_law_676 : decode cL_law 676 = .ok (.iload_n 3, 1) := by decide +kernel
theorem dL_law_677 : decode cL_law 677 = .ok (.iconst 3, 1) := by decide +kernel
theorem dL_law_678 : decode cL_law 678 = .ok (.iadd, 1) := by decide +kernel
theorem dL_law_679 : decode cL_law 679 = .ok (.iaload, 1) := by decide +kernel
theorem dL_law_680 : decode cL_law 680 = .ok (.invokevirtual 70, 3) := by decide +kernel
theorem dL_law_683 : decode cL_law 683 = .ok (.if_icmp .eq 97, 3) := by decide +kernel
theorem dL_law_686 : decode cL_law 686 = .ok (.iconst 0, 1) := by decide +kernel
theorem dL_law_687 : decode cL_law 687 = .ok (.ireturn, 1) := by decide +kernel
theorem dL_law_688 : decode cL_law 688 = .ok (.aload_n 1, 1) := by decide +kernel
theorem dL_law_689 : decode cL_law 689 = .ok (.invokevirtual 71, 3) := by decide +kernel
theorem dL_law_692 : decode cL_law 692 = .ok (.aload_n 2, 1) := by decide +kernel
theorem dL_law_693 : decode cL_law 693 = .ok (.invokevirtual 74, 3) := by decide +kernel
theorem dL_law_696 : decode cL_law 696 = .ok (.if_icmp .eq 84, 3) := by decide +kernel
theorem dL_law_699 : decode cL_law 699 = .ok (.iconst 0, 1) := by decide +kernel
theorem dL_law_700 : decode cL_law 700 = .ok (.ireturn, 1) := by decide +kernel
theorem dL_law_701 : decode cL_law 701 = .ok (.aload_n 1, 1) := by decide +kernel
theorem dL_law_702 : decode cL_law 702 = .ok (.aload_n 0, 1) := by decide +kernel
theorem dL_law_703 : decode cL_law 703 = .ok (.iload_n 3, 1) := by decide +kernel
theorem dL_law_704 : decode cL_law 704 = .ok (.iconst 1, 1) := by decide +kernel
theorem dL_law_705 : decode cL_law 705 = .ok (.iadd, 1) := by decide +kernel
theorem dL_law_706 : decode cL_law 706 = .ok (.iaload, 1) := by decide +kernel
theorem dL_law_707 : decode cL_law 707 = .ok (.invokevirtual 75, 3) := by decide +kernel
theorem dL_law_710 : decode cL_law 710 = .ok (.aload_n 2, 1) := by decide +kernel
theorem dL_law_711 : decode cL_law 711 = .ok (.aload_n 0, 1) := by decide +kernel
theorem dL_law_712 : decode cL_law 712 = .ok (.iload_n 3, 1) := by decide +kernel
theorem dL_law_713 : decode cL_law 713 = .ok (.iconst 1, 1) := by decide +kernel
theorem dL_law_714 : decode cL_law 714 = .ok (.iadd, 1) := by decide +kernel
theorem dL_law_715 : decode cL_law 715 = .ok (.iaload, 1) := by decide +kernel
theorem dL_law_716 : decode cL_law 716 = .ok (.invokevirtual 79, 3) := by decide +kernel
theorem dL_law_719 : decode cL_law 719 = .ok (.if_icmp .eq 61, 3) := by decide +kernel
theorem dL_law_722 : decode cL_law 722 = .ok (.iconst 0, 1) := by decide +kernel
theorem dL_law_723 : decode cL_law 723 = .ok (.ireturn, 1) := by decide +kernel
theorem dL_law_724 : decode cL_law 724 = .ok (.aload_n 1, 1) := by decide +kernel
theorem dL_law_725 : decode cL_law 725 = .ok (.aload_n 0, 1) := by decide +kernel
theorem dL_law_726 : decode cL_law 726 = .ok (.iload_n 3, 1) := by decide +kernel
theorem dL_law_727 : decode cL_law 727 = .ok (.iconst 1, 1) := by decide +kernel
theorem dL_law_728 : decode cL_law 728 = .ok (.iadd, 1) := by decide +kernel
theorem dL_law_729 : decode cL_law 729 = .ok (.iaload, 1) := by decide +kernel
theorem dL_law_730 : decode cL_law 730 = .ok (.aload_n 0, 1) := by decide +kernel
theorem dL_law_731 : decode cL_law 731 = .ok (.iload_n 3, 1) := by decide +kernel
theorem dL_law_732 : decode cL_law 732 = .ok (.iconst 2, 1) := by decide +kernel
theorem dL_law_733 : decode cL_law 733 = .ok (.iadd, 1) := by decide +kernel
theorem dL_law_734 : decode cL_law 734 = .ok (.iaload, 1) := by decide +kernel
theorem dL_law_735 : decode cL_law 735 = .ok (.invokevirtual 80, 3) := by decide +kernel
theorem dL_law_738 : decode cL_law 738 = .ok (.aload_n 2, 1) := by decide +kernel
theorem dL_law_739 : decode cL_law 739 = .ok (.aload_n 0, 1) := by decide +kernel
theorem dL_law_740 : decode cL_law 740 = .ok (.iload_n 3, 1) := by decide +kernel
theorem dL_law_741 : decode cL_law 741 = .ok (.iconst 1, 1) := by decide +kernel
theorem dL_law_742 : decode cL_law 742 = .ok (.iadd, 1) := by decide +kernel
theorem dL_law_743 : decode cL_law 743 = .ok (.iaload, 1) := by decide +kernel
theorem dL_law_744 : decode cL_law 744 = .ok (.aload_n 0, 1) := by decide +kernel
theorem dL_law_745 : decode cL_law 745 = .ok (.iload_n 3, 1) := by decide +kernel
theorem dL_law_746 : decode cL_law 746 = .ok (.iconst 2, 1) := by decide +kernel
theorem dL_law_747 : decode cL_law 747 = .ok (.iadd, 1) := by decide +kernel
theorem dL_law_748 : decode cL_law 748 = .ok (.iaload, 1) := by decide +kernel
theorem dL_law_749 : decode cL_law 749 = .ok (.invokevirtual 83, 3) := by decide +kernel
theorem dL_law_752 : decode cL_law 752 = .ok (.if_icmp .eq 28, 3) := by decide +kernel
theorem dL_law_755 : decode cL_law 755 = .ok (.iconst 0, 1) := by decide +kernel
theorem dL_law_756 : decode cL_law 756 = .ok (.ireturn, 1) := by decide +kernel
theorem dL_law_757 : decode cL_law 757 = .ok (.aload_n 1, 1) := by decide +kernel
theorem dL_law_758 : decode cL_law 758 = .ok (.aload_n 0, 1) := by decide +kernel
theorem dL_law_759 : decode cL_law 759 = .ok (.iload_n 3, 1) := by decide +kernel
theorem dL_law_760 : decode cL_law 760 = .ok (.iconst 1, 1) := by decide +kernel
theorem dL_law_761 : decode cL_law 761 = .ok (.iadd, 1) := by decide +kernel
theorem dL_law_762 : decode cL_law 762 = .ok (.iaload, 1) := by decide +kernel
theorem dL_law_763 : decode cL_law 763 = .ok (.invokevirtual 84, 3) := by decide +kernel
theorem dL_law_766 : decode cL_law 766 = .ok (.aload_n 2, 1) := by decide +kernel
theorem dL_law_767 : decode cL_law 767 = .ok (.aload_n 0, 1) := by decide +kernel
theorem dL_law_768 : decode cL_law 768 = .ok (.iload_n 3, 1) := by decide +kernel
theorem dL_law_769 : decode cL_law 769 = .ok (.iconst 1, 1) := by decide +kernel
theorem dL_law_770 : decode cL_law 770 = .ok (.iadd, 1) := by decide +kernel
theorem dL_law_771 : decode cL_law 771 = .ok (.iaload, 1) := by decide +kernel
theorem dL_law_772 : decode cL_law 772 = .ok (.invokevirtual 87, 3) := by decide +kernel
theorem dL_law_775 : decode cL_law 775 = .ok (.if_icmp .eq 5, 3) := by decide +kernel
theorem dL_law_778 : decode cL_law 778 = .ok (.iconst 0, 1) := by decide +kernel
theorem dL_law_779 : decode cL_law 779 = .ok (.ireturn, 1) := by decide +kernel
theorem dL_law_780 : decode cL_law 780 = .ok (.iinc 3 7, 3) := by decide +kernel
theorem dL_law_783 : decode cL_law 783 = .ok (.goto (-765), 3) := by decide +kernel
theorem dL_law_786 : decode cL_law 786 = .ok (.iconst 1, 1) := by decide +kernel
theorem dL_law_787 : decode cL_law 787 = .ok (.ireturn, 1) := by decide +kernel
abbrev vwCl : List vw_C := [(RX0, TX0, 3), (RX1, TX1, 7), (RX2, TX2, 3), (RX3, TX3, 2), (RX4, TX4, 9), (RX5, TX5, 7), (RX6, TX6, 20)]
end
section
section LN
variable {p : Program} {l : Launch} {e : Env} {R : Room} {s : State} {m : MethodId} {args : Array Value} {below : List Frame} {meth : Method} {c : Code} {H H0 : Heap} {locs : List Loc} {cells slots : Nat} {Q : State → Prop} {cc : ByteArray} {pc : Nat} {ls : Array Slot} {rest : List Value} {A : Nat → Prop} {D : va_G} {cl : List vw_C} {tys : List (ClassId × FieldType)} {ws : va_W} {a : Nat}
/-! numbers: an array's contents as natural numbers -/
abbrev nF (g : Nat → Nat) : Nat → Int32 := fun k => nI (g k)
def upN (g : Nat → Nat) (k v : Nat) : Nat → Nat := fun j => if j = k then v else g j
theorem upN_s {g : Nat → Nat} {k v : Nat} : upN g k v k = v := by simp [upN]
theorem upN_n {g : Nat → Nat} {k v j : Nat} (h : j ≠ k) : upN g k v j = g j := by simp [upN, h]
theorem upN_le {g : Nat → Nat} {k v B : Nat} (h : ∀ j, g j ≤ B) (hv : v ≤ B) : ∀ j, upN g k v j ≤ B := by
  intro j
  by_cases e : j = k
  · subst e; rw [upN_s]; exact hv
  · rw [upN_n e]; exact h j
theorem nF_up (g : Nat → Nat) (k v : Nat) : upd (nF g) k (nI v) = nF (upN g k v) := by
  funext j
  by_cases e : j = k
  · subst e; simp [upd, upN]
  · simp [upd, upN, e]
/-- the bits of a that m has not -/
def nclr (a m : Nat) : Nat := a ^^^ (a &&& m)
theorem nclr_t (a m i : Nat) : (nclr a m).testBit i = (a.testBit i && !m.testBit i) := by
  unfold nclr
  rw [Nat.testBit_xor, Nat.testBit_and]
  cases a.testBit i <;> cases m.testBit i <;> rfl
theorem nI_bv (n : Nat) : (nI n).toBitVec = BitVec.ofNat 32 n := rfl
theorem nI_inj {x y : Int32} (h : x.toBitVec = y.toBitVec) : x = y := Int32.toBitVec_inj.mp h
theorem ln_andE (a b : Nat) : nI a &&& nI b = nI (a &&& b) := by
  apply nI_inj
  rw [Int32.toBitVec_and, nI_bv, nI_bv, nI_bv]
  apply BitVec.eq_of_getLsbD_eq
  intro i hi
  simp [BitVec.getLsbD_ofNat, hi]
theorem ln_orE (a b : Nat) : nI a ||| nI b = nI (a ||| b) := by
  apply nI_inj
  rw [Int32.toBitVec_or, nI_bv, nI_bv, nI_bv]
  apply BitVec.eq_of_getLsbD_eq
  intro i hi
  simp [BitVec.getLsbD_ofNat, hi]
theorem ln_xorE (a b : Nat) : nI a ^^^ nI b = nI (a ^^^ b) := by
  apply nI_inj
  rw [Int32.toBitVec_xor, nI_bv, nI_bv, nI_bv]
  apply BitVec.eq_of_getLsbD_eq
  intro i hi
  simp [BitVec.getLsbD_ofNat, hi]
theorem ln_clrE (a b : Nat) : nI a &&& (nI b ^^^ (-1)) = nI (nclr a b) := by
  apply nI_inj
  rw [Int32.toBitVec_and, Int32.toBitVec_xor, nI_bv, nI_bv, nI_bv, show (-1 : Int32).toBitVec = BitVec.allOnes 32 from by decide]
  apply BitVec.eq_of_getLsbD_eq
  intro i hi
  simp [BitVec.getLsbD_ofNat, hi, nclr_t]
theorem ln_sm : ∀ b, b < 32 → ((nI b &&& 31).toBitVec.smod 32).toNat = b := by decide +kernel
theorem ln_shlE {b : Nat} (hb : b < 31) : (nI 1) <<< (nI b &&& 31) = nI (2 ^ b) := by
  have h := pk_shlN (n := 1) (nI b &&& 31) b (ln_sm b (by omega)) (by have : 2 ^ b < 2 ^ 31 := Nat.pow_lt_pow_right (by decide) hb; omega)
  rw [h, Nat.one_mul]
theorem ln_shrE {a b : Nat} (ha : a < 2 ^ 31) (hb : b < 32) : (nI a) >>> (nI b &&& 31) = nI (a >>> b) := by
  rw [pk_shrN ha (nI b &&& 31) b (ln_sm b hb), Nat.shiftRight_eq_div_pow]
theorem ln_bit0 (a b : Nat) : (a >>> b) &&& 1 = 0 ↔ a.testBit b = false := by
  unfold Nat.testBit
  rw [Nat.and_comm]
  cases h : (1 &&& a >>> b) with
  | zero => simp
  | succ n => simp
theorem ln_bit1 (a b : Nat) : ¬ (a >>> b) &&& 1 = 0 ↔ a.testBit b = true := by
  rw [ln_bit0]; cases a.testBit b <;> simp
theorem ln_bitlt (a b : Nat) : (a >>> b) &&& 1 < 2 := by
  rw [Nat.and_one_is_mod]; omega
theorem ln_bitE (a b : Nat) : (a >>> b) &&& 1 = if a.testBit b then 1 else 0 := by
  have h1 := ln_bit0 a b
  have h2 := ln_bitlt a b
  cases h : a.testBit b with
  | false => simpa using h1.mpr h
  | true =>
    have : ¬ (a >>> b) &&& 1 = 0 := fun q => by rw [h1.mp q] at h; cases h
    simp; omega

theorem ln_iadd (hx : p.tables.exec = Jvm.exec) (hb : c.code = cc) {a b : Nat} (hd : decode cc pc = .ok (.iadd, 1)) (k : W p l e R s m args below meth c H locs cells slots Q (F0 m (pc + 1) ls (.int (nI (a + b)) :: rest))) : W p l e R s m args below meth c H locs cells slots Q (F0 m pc ls (.int (nI b) :: .int (nI a) :: rest)) := lv_iadd hx hb hd (by rw [nI_add]; exact k)
theorem ln_isub (hx : p.tables.exec = Jvm.exec) (hb : c.code = cc) {a b : Nat} (hd : decode cc pc = .ok (.isub, 1)) (h : b ≤ a) (k : W p l e R s m args below meth c H locs cells slots Q (F0 m (pc + 1) ls (.int (nI (a - b)) :: rest))) : W p l e R s m args below meth c H locs cells slots Q (F0 m pc ls (.int (nI b) :: .int (nI a) :: rest)) := lv_isub hx hb hd (by rw [pk_sub h]; exact k)
theorem ln_imul (hx : p.tables.exec = Jvm.exec) (hb : c.code = cc) {a b : Nat} (hd : decode cc pc = .ok (.imul, 1)) (k : W p l e R s m args below meth c H locs cells slots Q (F0 m (pc + 1) ls (.int (nI (a * b)) :: rest))) : W p l e R s m args below meth c H locs cells slots Q (F0 m pc ls (.int (nI b) :: .int (nI a) :: rest)) := lv_imul hx hb hd (by rw [pk_mul]; exact k)
theorem ln_iand (hx : p.tables.exec = Jvm.exec) (hb : c.code = cc) {a b : Nat} (hd : decode cc pc = .ok (.iand, 1)) (k : W p l e R s m args below meth c H locs cells slots Q (F0 m (pc + 1) ls (.int (nI (a &&& b)) :: rest))) : W p l e R s m args below meth c H locs cells slots Q (F0 m pc ls (.int (nI b) :: .int (nI a) :: rest)) := lv_iand hx hb hd (by rw [ln_andE]; exact k)
theorem ln_ior (hx : p.tables.exec = Jvm.exec) (hb : c.code = cc) {a b : Nat} (hd : decode cc pc = .ok (.ior, 1)) (k : W p l e R s m args below meth c H locs cells slots Q (F0 m (pc + 1) ls (.int (nI (a ||| b)) :: rest))) : W p l e R s m args below meth c H locs cells slots Q (F0 m pc ls (.int (nI b) :: .int (nI a) :: rest)) := lv_ior hx hb hd (by rw [ln_orE]; exact k)
theorem ln_ixor (hx : p.tables.exec = Jvm.exec) (hb : c.code = cc) {a b : Nat} (hd : decode cc pc = .ok (.ixor, 1)) (k : W p l e R s m args below meth c H locs cells slots Q (F0 m (pc + 1) ls (.int (nI (a ^^^ b)) :: rest))) : W p l e R s m args below meth c H locs cells slots Q (F0 m pc ls (.int (nI b) :: .int (nI a) :: rest)) := lv_ixor hx hb hd (by rw [ln_xorE]; exact k)
theorem ln_ishr (hx : p.tables.exec = Jvm.exec) (hb : c.code = cc) {a b : Nat} (hd : decode cc pc = .ok (.ishr, 1)) (h1 : a < 2 ^ 31) (h2 : b < 32) (k : W p l e R s m args below meth c H locs cells slots Q (F0 m (pc + 1) ls (.int (nI (a >>> b)) :: rest))) : W p l e R s m args below meth c H locs cells slots Q (F0 m pc ls (.int (nI b) :: .int (nI a) :: rest)) := lv_ishr hx hb hd (by rw [ln_shrE h1 h2]; exact k)
theorem ln_ishl1 (hx : p.tables.exec = Jvm.exec) (hb : c.code = cc) {b : Nat} (hd : decode cc pc = .ok (.ishl, 1)) (h : b < 31) (k : W p l e R s m args below meth c H locs cells slots Q (F0 m (pc + 1) ls (.int (nI (2 ^ b)) :: rest))) : W p l e R s m args below meth c H locs cells slots Q (F0 m pc ls (.int (nI b) :: .int (nI 1) :: rest)) := lv_ishl hx hb hd (by rw [ln_shlE h]; exact k)
theorem ln_iclr (hx : p.tables.exec = Jvm.exec) (hb : c.code = cc) {a b : Nat} (hd : decode cc pc = .ok (.iand, 1)) (k : W p l e R s m args below meth c H locs cells slots Q (F0 m (pc + 1) ls (.int (nI (nclr a b)) :: rest))) : W p l e R s m args below meth c H locs cells slots Q (F0 m pc ls (.int (nI b ^^^ (-1)) :: .int (nI a) :: rest)) := lv_iand hx hb hd (by rw [ln_clrE]; exact k)
theorem ln_ne0 {b : Nat} (h0 : 0 < b) (h1 : b < 2 ^ 31) : ¬ nI b = 0 := nI_ne0 h0 h1
theorem ln_idiv (hx : p.tables.exec = Jvm.exec) (hb : c.code = cc) {a b : Nat} (hd : decode cc pc = .ok (.idiv, 1)) (h1 : a < 2 ^ 31) (h0 : 0 < b) (h2 : b < 2 ^ 31) (k : W p l e R s m args below meth c H locs cells slots Q (F0 m (pc + 1) ls (.int (nI (a / b)) :: rest))) : W p l e R s m args below meth c H locs cells slots Q (F0 m pc ls (.int (nI b) :: .int (nI a) :: rest)) := lv_idiv hx hb hd (ln_ne0 h0 h2) (by rw [pk_div h1 h0 h2]; exact k)
theorem ln_irem (hx : p.tables.exec = Jvm.exec) (hb : c.code = cc) {a b : Nat} (hd : decode cc pc = .ok (.irem, 1)) (h1 : a < 2 ^ 31) (h0 : 0 < b) (h2 : b < 2 ^ 31) (k : W p l e R s m args below meth c H locs cells slots Q (F0 m (pc + 1) ls (.int (nI (a % b)) :: rest))) : W p l e R s m args below meth c H locs cells slots Q (F0 m pc ls (.int (nI b) :: .int (nI a) :: rest)) := lv_irem hx hb hd (ln_ne0 h0 h2) (by rw [pk_rem h1 h0 h2]; exact k)
theorem ln_icmp_eq (hx : p.tables.exec = Jvm.exec) (hb : c.code = cc) {a b : Nat} {off : Int} {tgt : Nat} (hd : decode cc pc = .ok (.if_icmp .eq off, 3)) (ht : (pc : Int) + off = (tgt : Int)) (h1 : a < 2 ^ 31) (h2 : b < 2 ^ 31) (kt : a = b → W p l e R s m args below meth c H locs cells slots Q (F0 m tgt ls rest)) (kf : ¬ a = b → W p l e R s m args below meth c H locs cells slots Q (F0 m (pc + 3) ls rest)) : W p l e R s m args below meth c H locs cells slots Q (F0 m pc ls (.int (nI b) :: .int (nI a) :: rest)) := lv_icmp_eq hx hb hd ht (fun q => kt ((nI_eq h1 h2).mp q)) (fun q => kf (fun z => q ((nI_eq h1 h2).mpr z)))
theorem ln_icmp_ne (hx : p.tables.exec = Jvm.exec) (hb : c.code = cc) {a b : Nat} {off : Int} {tgt : Nat} (hd : decode cc pc = .ok (.if_icmp .ne off, 3)) (ht : (pc : Int) + off = (tgt : Int)) (h1 : a < 2 ^ 31) (h2 : b < 2 ^ 31) (kt : ¬ a = b → W p l e R s m args below meth c H locs cells slots Q (F0 m tgt ls rest)) (kf : a = b → W p l e R s m args below meth c H locs cells slots Q (F0 m (pc + 3) ls rest)) : W p l e R s m args below meth c H locs cells slots Q (F0 m pc ls (.int (nI b) :: .int (nI a) :: rest)) := lv_icmp_ne hx hb hd ht (fun q => kt (fun z => q ((nI_eq h1 h2).mpr z))) (fun q => kf ((nI_eq h1 h2).mp (Classical.not_not.mp q)))
theorem ln_icmp_lt (hx : p.tables.exec = Jvm.exec) (hb : c.code = cc) {a b : Nat} {off : Int} {tgt : Nat} (hd : decode cc pc = .ok (.if_icmp .lt off, 3)) (ht : (pc : Int) + off = (tgt : Int)) (h1 : a < 2 ^ 31) (h2 : b < 2 ^ 31) (kt : a < b → W p l e R s m args below meth c H locs cells slots Q (F0 m tgt ls rest)) (kf : b ≤ a → W p l e R s m args below meth c H locs cells slots Q (F0 m (pc + 3) ls rest)) : W p l e R s m args below meth c H locs cells slots Q (F0 m pc ls (.int (nI b) :: .int (nI a) :: rest)) := lv_icmp_lt hx hb hd ht (fun q => kt ((nI_ltI h1 h2).mp q)) (fun q => kf (Nat.not_lt.mp (fun z => q ((nI_ltI h1 h2).mpr z))))
theorem ln_icmp_ge (hx : p.tables.exec = Jvm.exec) (hb : c.code = cc) {a b : Nat} {off : Int} {tgt : Nat} (hd : decode cc pc = .ok (.if_icmp .ge off, 3)) (ht : (pc : Int) + off = (tgt : Int)) (h1 : a < 2 ^ 31) (h2 : b < 2 ^ 31) (kt : b ≤ a → W p l e R s m args below meth c H locs cells slots Q (F0 m tgt ls rest)) (kf : a < b → W p l e R s m args below meth c H locs cells slots Q (F0 m (pc + 3) ls rest)) : W p l e R s m args below meth c H locs cells slots Q (F0 m pc ls (.int (nI b) :: .int (nI a) :: rest)) := lv_icmp_ge hx hb hd ht (fun q => kt ((nI_leI h2 h1).mp q)) (fun q => kf (Nat.not_le.mp (fun z => q ((nI_leI h2 h1).mpr z))))
theorem ln_icmp_gt (hx : p.tables.exec = Jvm.exec) (hb : c.code = cc) {a b : Nat} {off : Int} {tgt : Nat} (hd : decode cc pc = .ok (.if_icmp .gt off, 3)) (ht : (pc : Int) + off = (tgt : Int)) (h1 : a < 2 ^ 31) (h2 : b < 2 ^ 31) (kt : b < a → W p l e R s m args below meth c H locs cells slots Q (F0 m tgt ls rest)) (kf : a ≤ b → W p l e R s m args below meth c H locs cells slots Q (F0 m (pc + 3) ls rest)) : W p l e R s m args below meth c H locs cells slots Q (F0 m pc ls (.int (nI b) :: .int (nI a) :: rest)) := lv_icmp_gt hx hb hd ht (fun q => kt ((nI_ltI h2 h1).mp q)) (fun q => kf (Nat.not_lt.mp (fun z => q ((nI_ltI h2 h1).mpr z))))
theorem ln_icmp_le (hx : p.tables.exec = Jvm.exec) (hb : c.code = cc) {a b : Nat} {off : Int} {tgt : Nat} (hd : decode cc pc = .ok (.if_icmp .le off, 3)) (ht : (pc : Int) + off = (tgt : Int)) (h1 : a < 2 ^ 31) (h2 : b < 2 ^ 31) (kt : a ≤ b → W p l e R s m args below meth c H locs cells slots Q (F0 m tgt ls rest)) (kf : b < a → W p l e R s m args below meth c H locs cells slots Q (F0 m (pc + 3) ls rest)) : W p l e R s m args below meth c H locs cells slots Q (F0 m pc ls (.int (nI b) :: .int (nI a) :: rest)) := lv_icmp_le hx hb hd ht (fun q => kt ((nI_leI h1 h2).mp q)) (fun q => kf (Nat.not_le.mp (fun z => q ((nI_leI h1 h2).mpr z))))
theorem ln_z0 {a : Nat} (h : a < 2 ^ 31) : nI a = 0 ↔ a = 0 := (by rw [← nI_0]; exact nI_eq h (by decide))
theorem ln_zl {a : Nat} (h : a < 2 ^ 31) : ¬ nI a < 0 := nI_pos h
theorem ln_zg {a : Nat} (h : a < 2 ^ 31) : 0 ≤ nI a := nI_pos' h
theorem ln_zp {a : Nat} (h : a < 2 ^ 31) : 0 < nI a ↔ 0 < a := (by rw [← nI_0]; exact nI_ltI (by decide) h)
theorem ln_zn {a : Nat} (h : a < 2 ^ 31) : nI a ≤ 0 ↔ a = 0 := (by rw [← nI_0]; exact (nI_leI h (by decide)).trans Nat.le_zero)
theorem ln_if_eq (hx : p.tables.exec = Jvm.exec) (hb : c.code = cc) {a : Nat} {off : Int} {tgt : Nat} (hd : decode cc pc = .ok (.ifCond .eq off, 3)) (ht : (pc : Int) + off = (tgt : Int)) (h1 : a < 2 ^ 31) (kt : a = 0 → W p l e R s m args below meth c H locs cells slots Q (F0 m tgt ls rest)) (kf : ¬ a = 0 → W p l e R s m args below meth c H locs cells slots Q (F0 m (pc + 3) ls rest)) : W p l e R s m args below meth c H locs cells slots Q (F0 m pc ls (.int (nI a) :: rest)) := lv_if_eq hx hb hd ht (fun q => kt ((ln_z0 h1).mp q)) (fun q => kf (fun z => q ((ln_z0 h1).mpr z)))
theorem ln_if_ne (hx : p.tables.exec = Jvm.exec) (hb : c.code = cc) {a : Nat} {off : Int} {tgt : Nat} (hd : decode cc pc = .ok (.ifCond .ne off, 3)) (ht : (pc : Int) + off = (tgt : Int)) (h1 : a < 2 ^ 31) (kt : ¬ a = 0 → W p l e R s m args below meth c H locs cells slots Q (F0 m tgt ls rest)) (kf : a = 0 → W p l e R s m args below meth c H locs cells slots Q (F0 m (pc + 3) ls rest)) : W p l e R s m args below meth c H locs cells slots Q (F0 m pc ls (.int (nI a) :: rest)) := lv_if_ne hx hb hd ht (fun q => kt (fun z => q ((ln_z0 h1).mpr z))) (fun q => kf ((ln_z0 h1).mp (Classical.not_not.mp q)))
theorem ln_if_gt (hx : p.tables.exec = Jvm.exec) (hb : c.code = cc) {a : Nat} {off : Int} {tgt : Nat} (hd : decode cc pc = .ok (.ifCond .gt off, 3)) (ht : (pc : Int) + off = (tgt : Int)) (h1 : a < 2 ^ 31) (kt : 0 < a → W p l e R s m args below meth c H locs cells slots Q (F0 m tgt ls rest)) (kf : a = 0 → W p l e R s m args below meth c H locs cells slots Q (F0 m (pc + 3) ls rest)) : W p l e R s m args below meth c H locs cells slots Q (F0 m pc ls (.int (nI a) :: rest)) := lv_if_gt hx hb hd ht (fun q => kt ((ln_zp h1).mp q)) (fun q => kf (Nat.eq_zero_of_not_pos (fun z => q ((ln_zp h1).mpr z))))
theorem ln_if_le (hx : p.tables.exec = Jvm.exec) (hb : c.code = cc) {a : Nat} {off : Int} {tgt : Nat} (hd : decode cc pc = .ok (.ifCond .le off, 3)) (ht : (pc : Int) + off = (tgt : Int)) (h1 : a < 2 ^ 31) (kt : a = 0 → W p l e R s m args below meth c H locs cells slots Q (F0 m tgt ls rest)) (kf : 0 < a → W p l e R s m args below meth c H locs cells slots Q (F0 m (pc + 3) ls rest)) : W p l e R s m args below meth c H locs cells slots Q (F0 m pc ls (.int (nI a) :: rest)) := lv_if_le hx hb hd ht (fun q => kt ((ln_zn h1).mp q)) (fun q => kf (Nat.pos_of_ne_zero (fun z => q ((ln_zn h1).mpr z))))
theorem ln_if_lt (hx : p.tables.exec = Jvm.exec) (hb : c.code = cc) {a : Nat} {off : Int} {tgt : Nat} (hd : decode cc pc = .ok (.ifCond .lt off, 3)) (ht : (pc : Int) + off = (tgt : Int)) (h1 : a < 2 ^ 31) (kf : W p l e R s m args below meth c H locs cells slots Q (F0 m (pc + 3) ls rest)) : W p l e R s m args below meth c H locs cells slots Q (F0 m pc ls (.int (nI a) :: rest)) := lv_if_lt hx hb hd ht (fun q => absurd q (ln_zl h1)) (fun _ => kf)
theorem ln_if_ge (hx : p.tables.exec = Jvm.exec) (hb : c.code = cc) {a : Nat} {off : Int} {tgt : Nat} (hd : decode cc pc = .ok (.ifCond .ge off, 3)) (ht : (pc : Int) + off = (tgt : Int)) (h1 : a < 2 ^ 31) (kt : W p l e R s m args below meth c H locs cells slots Q (F0 m tgt ls rest)) : W p l e R s m args below meth c H locs cells slots Q (F0 m pc ls (.int (nI a) :: rest)) := lv_if_ge hx hb hd ht (fun _ => kt) (fun q => absurd (ln_zg h1) q)
theorem ln_if_eqT (hx : p.tables.exec = Jvm.exec) (hb : c.code = cc) {x : Int32} {off : Int} {tgt : Nat} (hd : decode cc pc = .ok (.ifCond .eq off, 3)) (ht : (pc : Int) + off = (tgt : Int)) (h : x = 0) (kt : W p l e R s m args below meth c H locs cells slots Q (F0 m tgt ls rest)) : W p l e R s m args below meth c H locs cells slots Q (F0 m pc ls (.int x :: rest)) := lv_if_eq hx hb hd ht (fun _ => kt) (fun q => absurd h q)
theorem ln_if_eqF (hx : p.tables.exec = Jvm.exec) (hb : c.code = cc) {x : Int32} {off : Int} {tgt : Nat} (hd : decode cc pc = .ok (.ifCond .eq off, 3)) (ht : (pc : Int) + off = (tgt : Int)) (h : ¬ (x = 0)) (kf : W p l e R s m args below meth c H locs cells slots Q (F0 m (pc + 3) ls rest)) : W p l e R s m args below meth c H locs cells slots Q (F0 m pc ls (.int x :: rest)) := lv_if_eq hx hb hd ht (fun q => absurd q h) (fun _ => kf)
theorem ln_if_neT (hx : p.tables.exec = Jvm.exec) (hb : c.code = cc) {x : Int32} {off : Int} {tgt : Nat} (hd : decode cc pc = .ok (.ifCond .ne off, 3)) (ht : (pc : Int) + off = (tgt : Int)) (h : ¬ x = 0) (kt : W p l e R s m args below meth c H locs cells slots Q (F0 m tgt ls rest)) : W p l e R s m args below meth c H locs cells slots Q (F0 m pc ls (.int x :: rest)) := lv_if_ne hx hb hd ht (fun _ => kt) (fun q => absurd h q)
theorem ln_if_neF (hx : p.tables.exec = Jvm.exec) (hb : c.code = cc) {x : Int32} {off : Int} {tgt : Nat} (hd : decode cc pc = .ok (.ifCond .ne off, 3)) (ht : (pc : Int) + off = (tgt : Int)) (h : ¬ (¬ x = 0)) (kf : W p l e R s m args below meth c H locs cells slots Q (F0 m (pc + 3) ls rest)) : W p l e R s m args below meth c H locs cells slots Q (F0 m pc ls (.int x :: rest)) := lv_if_ne hx hb hd ht (fun q => absurd q h) (fun _ => kf)
theorem ln_if_ltT (hx : p.tables.exec = Jvm.exec) (hb : c.code = cc) {x : Int32} {off : Int} {tgt : Nat} (hd : decode cc pc = .ok (.ifCond .lt off, 3)) (ht : (pc : Int) + off = (tgt : Int)) (h : x < 0) (kt : W p l e R s m args below meth c H locs cells slots Q (F0 m tgt ls rest)) : W p l e R s m args below meth c H locs cells slots Q (F0 m pc ls (.int x :: rest)) := lv_if_lt hx hb hd ht (fun _ => kt) (fun q => absurd h q)
theorem ln_if_ltF (hx : p.tables.exec = Jvm.exec) (hb : c.code = cc) {x : Int32} {off : Int} {tgt : Nat} (hd : decode cc pc = .ok (.ifCond .lt off, 3)) (ht : (pc : Int) + off = (tgt : Int)) (h : ¬ (x < 0)) (kf : W p l e R s m args below meth c H locs cells slots Q (F0 m (pc + 3) ls rest)) : W p l e R s m args below meth c H locs cells slots Q (F0 m pc ls (.int x :: rest)) := lv_if_lt hx hb hd ht (fun q => absurd q h) (fun _ => kf)
theorem ln_if_geT (hx : p.tables.exec = Jvm.exec) (hb : c.code = cc) {x : Int32} {off : Int} {tgt : Nat} (hd : decode cc pc = .ok (.ifCond .ge off, 3)) (ht : (pc : Int) + off = (tgt : Int)) (h : 0 ≤ x) (kt : W p l e R s m args below meth c H locs cells slots Q (F0 m tgt ls rest)) : W p l e R s m args below meth c H locs cells slots Q (F0 m pc ls (.int x :: rest)) := lv_if_ge hx hb hd ht (fun _ => kt) (fun q => absurd h q)
theorem ln_if_geF (hx : p.tables.exec = Jvm.exec) (hb : c.code = cc) {x : Int32} {off : Int} {tgt : Nat} (hd : decode cc pc = .ok (.ifCond .ge off, 3)) (ht : (pc : Int) + off = (tgt : Int)) (h : ¬ (0 ≤ x)) (kf : W p l e R s m args below meth c H locs cells slots Q (F0 m (pc + 3) ls rest)) : W p l e R s m args below meth c H locs cells slots Q (F0 m pc ls (.int x :: rest)) := lv_if_ge hx hb hd ht (fun q => absurd q h) (fun _ => kf)
theorem ln_if_gtT (hx : p.tables.exec = Jvm.exec) (hb : c.code = cc) {x : Int32} {off : Int} {tgt : Nat} (hd : decode cc pc = .ok (.ifCond .gt off, 3)) (ht : (pc : Int) + off = (tgt : Int)) (h : 0 < x) (kt : W p l e R s m args below meth c H locs cells slots Q (F0 m tgt ls rest)) : W p l e R s m args below meth c H locs cells slots Q (F0 m pc ls (.int x :: rest)) := lv_if_gt hx hb hd ht (fun _ => kt) (fun q => absurd h q)
theorem ln_if_gtF (hx : p.tables.exec = Jvm.exec) (hb : c.code = cc) {x : Int32} {off : Int} {tgt : Nat} (hd : decode cc pc = .ok (.ifCond .gt off, 3)) (ht : (pc : Int) + off = (tgt : Int)) (h : ¬ (0 < x)) (kf : W p l e R s m args below meth c H locs cells slots Q (F0 m (pc + 3) ls rest)) : W p l e R s m args below meth c H locs cells slots Q (F0 m pc ls (.int x :: rest)) := lv_if_gt hx hb hd ht (fun q => absurd q h) (fun _ => kf)
theorem ln_if_leT (hx : p.tables.exec = Jvm.exec) (hb : c.code = cc) {x : Int32} {off : Int} {tgt : Nat} (hd : decode cc pc = .ok (.ifCond .le off, 3)) (ht : (pc : Int) + off = (tgt : Int)) (h : x ≤ 0) (kt : W p l e R s m args below meth c H locs cells slots Q (F0 m tgt ls rest)) : W p l e R s m args below meth c H locs cells slots Q (F0 m pc ls (.int x :: rest)) := lv_if_le hx hb hd ht (fun _ => kt) (fun q => absurd h q)
theorem ln_if_leF (hx : p.tables.exec = Jvm.exec) (hb : c.code = cc) {x : Int32} {off : Int} {tgt : Nat} (hd : decode cc pc = .ok (.ifCond .le off, 3)) (ht : (pc : Int) + off = (tgt : Int)) (h : ¬ (x ≤ 0)) (kf : W p l e R s m args below meth c H locs cells slots Q (F0 m (pc + 3) ls rest)) : W p l e R s m args below meth c H locs cells slots Q (F0 m pc ls (.int x :: rest)) := lv_if_le hx hb hd ht (fun q => absurd q h) (fun _ => kf)
theorem ln_iald (hx : p.tables.exec = Jvm.exec) (hb : c.code = cc) (hK : va_K D cl tys s) (hP : va_P D cl ws H) (q0 t0 : Nat) {cA : ClassId} {n : Nat} {g : Nat → Nat} (ha : ws[q0]? = some (a, .inl (cA, n, .inl (nF g)))) (ht : tys[t0]? = some (cA, .int)) {i : Nat} (hi : i < n) (hn : n < 2 ^ 31) (hd : decode cc pc = .ok (.iaload, 1)) (k : W p l e R s m args below meth c H locs cells slots Q (F0 m (pc + 1) ls (.int (nI (g i)) :: rest))) : W p l e R s m args below meth c H locs cells slots Q (F0 m pc ls (.int (nI i) :: .ref a :: rest)) := va_iald hx hb hK hP q0 t0 ha ht (vp_in_nI hi hn) hd (by rw [nI_clamp (Nat.lt_trans hi hn)]; exact k)
theorem ln_ialdI (hx : p.tables.exec = Jvm.exec) (hb : c.code = cc) (hK : va_K D cl tys s) (hP : va_P D cl ws H) (q0 t0 : Nat) {cA : ClassId} {n : Nat} {g : Nat → Int32} (ha : ws[q0]? = some (a, .inl (cA, n, .inl g))) (ht : tys[t0]? = some (cA, .int)) {i : Nat} (hi : i < n) (hn : n < 2 ^ 31) (hd : decode cc pc = .ok (.iaload, 1)) (k : W p l e R s m args below meth c H locs cells slots Q (F0 m (pc + 1) ls (.int (g i) :: rest))) : W p l e R s m args below meth c H locs cells slots Q (F0 m pc ls (.int (nI i) :: .ref a :: rest)) := va_iald hx hb hK hP q0 t0 ha ht (vp_in_nI hi hn) hd (by rw [nI_clamp (Nat.lt_trans hi hn)]; exact k)
theorem ln_zald (hx : p.tables.exec = Jvm.exec) (hb : c.code = cc) (hK : va_K D cl tys s) (hP : va_P D cl ws H) (q0 t0 : Nat) {cA : ClassId} {n : Nat} {g : Nat → Nat} (ha : ws[q0]? = some (a, .inl (cA, n, .inl (nF g)))) (ht : tys[t0]? = some (cA, .boolean)) {i : Nat} (hi : i < n) (hn : n < 2 ^ 31) (hd : decode cc pc = .ok (.baload, 1)) (k : W p l e R s m args below meth c H locs cells slots Q (F0 m (pc + 1) ls (.int (nI (g i)) :: rest))) : W p l e R s m args below meth c H locs cells slots Q (F0 m pc ls (.int (nI i) :: .ref a :: rest)) := va_zald hx hb hK hP q0 t0 ha ht (vp_in_nI hi hn) hd (by rw [nI_clamp (Nat.lt_trans hi hn)]; exact k)
theorem ln_iast (hx : p.tables.exec = Jvm.exec) (hb : c.code = cc) (hK : va_K D cl tys s) (hP : va_P D cl ws H) (hD : va_D A ws) (hS : va_S A H0 H locs) (q0 t0 : Nat) {cA : ClassId} {n : Nat} {g : Nat → Nat} (ha : ws[q0]? = some (a, .inl (cA, n, .inl (nF g)))) (ht : tys[t0]? = some (cA, .int)) {i : Nat} {v : Nat} (hi : i < n) (hn : n < 2 ^ 31) (hd : decode cc pc = .ok (.iastore, 1)) (k : ∀ (H1 : Heap) (locs1 : List Loc), va_P D cl (ws.set q0 (a, .inl (cA, n, .inl (nF (upN g i v))))) H1 → va_D A (ws.set q0 (a, .inl (cA, n, .inl (nF (upN g i v))))) → va_S A H0 H1 locs1 → W p l e R s m args below meth c H1 locs1 cells slots Q (F0 m (pc + 1) ls rest)) : W p l e R s m args below meth c H locs cells slots Q (F0 m pc ls (.int (nI v) :: .int (nI i) :: .ref a :: rest)) := va_iast hx hb hK hP hD hS q0 t0 ha ht (vp_in_nI hi hn) hd (fun H1 locs1 u1 u2 u3 => k H1 locs1 (by rw [nI_clamp (Nat.lt_trans hi hn), nF_up] at u1; exact u1) (by rw [nI_clamp (Nat.lt_trans hi hn), nF_up] at u2; exact u2) u3)
theorem ln_iastI (hx : p.tables.exec = Jvm.exec) (hb : c.code = cc) (hK : va_K D cl tys s) (hP : va_P D cl ws H) (hD : va_D A ws) (hS : va_S A H0 H locs) (q0 t0 : Nat) {cA : ClassId} {n : Nat} {g : Nat → Int32} (ha : ws[q0]? = some (a, .inl (cA, n, .inl g))) (ht : tys[t0]? = some (cA, .int)) {i : Nat} {v : Int32} (hi : i < n) (hn : n < 2 ^ 31) (hd : decode cc pc = .ok (.iastore, 1)) (k : ∀ (H1 : Heap) (locs1 : List Loc), va_P D cl (ws.set q0 (a, .inl (cA, n, .inl (upd g i v)))) H1 → va_D A (ws.set q0 (a, .inl (cA, n, .inl (upd g i v)))) → va_S A H0 H1 locs1 → W p l e R s m args below meth c H1 locs1 cells slots Q (F0 m (pc + 1) ls rest)) : W p l e R s m args below meth c H locs cells slots Q (F0 m pc ls (.int v :: .int (nI i) :: .ref a :: rest)) := va_iast hx hb hK hP hD hS q0 t0 ha ht (vp_in_nI hi hn) hd (fun H1 locs1 u1 u2 u3 => k H1 locs1 (by rw [nI_clamp (Nat.lt_trans hi hn)] at u1; exact u1) (by rw [nI_clamp (Nat.lt_trans hi hn)] at u2; exact u2) u3)
theorem ln_nz {v : Nat} (h : v < 2) : vp_nar .boolean (nI v) = nI v := by
  have : v = 0 ∨ v = 1 := by omega
  rcases this with rfl | rfl <;> decide
theorem ln_zast (hx : p.tables.exec = Jvm.exec) (hb : c.code = cc) (hK : va_K D cl tys s) (hP : va_P D cl ws H) (hD : va_D A ws) (hS : va_S A H0 H locs) (q0 t0 : Nat) {cA : ClassId} {n : Nat} {g : Nat → Nat} (ha : ws[q0]? = some (a, .inl (cA, n, .inl (nF g)))) (ht : tys[t0]? = some (cA, .boolean)) {i : Nat} {v : Nat} (hi : i < n) (hn : n < 2 ^ 31) (hv : v < 2) (hd : decode cc pc = .ok (.bastore, 1)) (k : ∀ (H1 : Heap) (locs1 : List Loc), va_P D cl (ws.set q0 (a, .inl (cA, n, .inl (nF (upN g i v))))) H1 → va_D A (ws.set q0 (a, .inl (cA, n, .inl (nF (upN g i v))))) → va_S A H0 H1 locs1 → W p l e R s m args below meth c H1 locs1 cells slots Q (F0 m (pc + 1) ls rest)) : W p l e R s m args below meth c H locs cells slots Q (F0 m pc ls (.int (nI v) :: .int (nI i) :: .ref a :: rest)) := va_zast hx hb hK hP hD hS q0 t0 ha ht (vp_in_nI hi hn) hd (fun H1 locs1 u1 u2 u3 => k H1 locs1 (by rw [nI_clamp (Nat.lt_trans hi hn), ln_nz hv, nF_up] at u1; exact u1) (by rw [nI_clamp (Nat.lt_trans hi hn), ln_nz hv, nF_up] at u2; exact u2) u3)
theorem ln_min (x y : Nat) (h1 : x < 2 ^ 31) (h2 : y < 2 ^ 31) : (if nI y < nI x then nI y else nI x) = nI (min x y) := by
  by_cases h : y < x
  · rw [if_pos ((nI_ltI h2 h1).mpr h), Nat.min_eq_right (Nat.le_of_lt h)]
  · rw [if_neg (fun q => h ((nI_ltI h2 h1).mp q)), Nat.min_eq_left (Nat.not_lt.mp h)]
theorem ln_mmin (hx : p.tables.exec = Jvm.exec) (hb : c.code = cc) (hml : c.maxLocals = ls.size) {own : String} {index : Nat} (hown : s.vm.findClass own = some m.cls) (hlink : (Cond.methodLink own index Lib.Math.min.name).before args s = true) (hstat : (Cond.static Lib.Math.min.name).before args s = true) (hini : (Cond.initialized "java/lang/Math").before args s = true) (hcode : (Cond.code Lib.Math.min.name Lib.Math.min.code 2 (some .int)).before args s = true) (hframes : 1 ≤ R.frames) (hlocals : (rest.map fun v => v.category).sum + 13 ≤ R.locals) (hc : cells ≤ R.cells) (hs : slots ≤ R.slots) {x y : Nat} (h1 : x < 2 ^ 31) (h2 : y < 2 ^ 31) (hd : decode cc pc = .ok (.invokestatic index, 3)) (k : W p l e R s m args below meth c H locs cells slots Q (F0 m (pc + 3) ls (.int (nI (min x y)) :: rest))) : W p l e R s m args below meth c H locs cells slots Q (F0 m pc ls (.int (nI y) :: .int (nI x) :: rest)) := va_mmin hx hb hml hown hlink hstat hini hcode hframes hlocals hc hs hd (by rw [ln_min x y h1 h2]; exact k)
theorem ln_one_two_pow (n : Nat) : 1 ≤ 2 ^ n := Nat.one_le_two_pow
theorem ln_blind {av : List Value} {D : va_G} {cl : List vw_C} {tys : List (ClassId × FieldType)} {ws : va_W} : FrameBlind (va_Pc av (fun U => va_P D cl ws U.heap ∧ va_K D cl tys U)) := fun a U g mk q => by
  obtain ⟨q0, qP, qK⟩ := q
  exact ⟨q0, qP, va_K.moved (u := U) (U := U.calling g mk a) (Vm.Alike.refl U.vm) qK⟩
theorem ln_blindM {av : List Value} {D : va_G} {cl : List vw_C} {tys : List (ClassId × FieldType)} {ws : va_W} {sz : Nat} : FrameBlind (va_Pc av (fun U => U.heap.size = sz ∧ va_P D cl ws U.heap ∧ va_K D cl tys U ∧ va_D (fun _ => True) ws)) := fun a U g mk q => by
  obtain ⟨q0, q1, qP, qK, qD⟩ := q
  exact ⟨q0, q1, qP, va_K.moved (u := U) (U := U.calling g mk a) (Vm.Alike.refl U.vm) qK, qD⟩
theorem ln_blind0 {av : List Value} : FrameBlind (va_Pc av (fun _ => True)) := fun _ _ _ _ q => q
theorem ln_preS {s : State} {H : Heap} {As : List Value} {D : va_G} {cl : List vw_C} {tys : List (ClassId × FieldType)} {ws : va_W} (hP : va_P D cl ws H) (hK : va_K D cl tys s) : PreS s H (va_Pc As (fun U => va_P D cl ws U.heap ∧ va_K D cl tys U)) As := ⟨ln_blind, fun U hU hW => ⟨rfl, by rw [hU]; exact hP, va_K.moved hW.alike hK⟩⟩
theorem ln_preS0 {s : State} {H : Heap} {As : List Value} : PreS s H (va_Pc As (fun _ => True)) As := ⟨ln_blind0, fun _ _ _ => ⟨rfl, trivial⟩⟩
theorem ln_preV {s : State} {H : Heap} {b : Nat} {As : List Value} {D : va_G} {cl : List vw_C} {tys : List (ClassId × FieldType)} {ws : va_W} {q0 ci : Nat} {q : vw_C} {fs : List Value} (hP : va_P D cl ws H) (hK : va_K D cl tys s) (hc : cl[ci]? = some q) (he : ws[q0]? = some (b, .inr (ci, fs))) : PreV s H q.1 b (va_Pc (.ref b :: As) (fun U => va_P D cl ws U.heap ∧ va_K D cl tys U)) As := ⟨ln_blind, va_recv hK hP hc he, fun U hU hW => ⟨rfl, by rw [hU]; exact hP, va_K.moved hW.alike hK⟩⟩
theorem ln_preVM {s : State} {H : Heap} {b : Nat} {As : List Value} {D : va_G} {cl : List vw_C} {tys : List (ClassId × FieldType)} {ws : va_W} {A : Nat → Prop} {q0 ci : Nat} {q : vw_C} {fs : List Value} (hP : va_P D cl ws H) (hK : va_K D cl tys s) (hD : va_D A ws) (hc : cl[ci]? = some q) (he : ws[q0]? = some (b, .inr (ci, fs))) : PreV s H q.1 b (va_Pc (.ref b :: As) (fun U => U.heap.size = H.size ∧ va_P D cl ws U.heap ∧ va_K D cl tys U ∧ va_D (fun _ => True) ws)) As := ⟨ln_blindM, va_recv hK hP hc he, fun U hU hW => ⟨rfl, by rw [hU], by rw [hU]; exact hP, va_K.moved hW.alike hK, hD.weaken (fun _ _ _ _ => trivial)⟩⟩
end LN
end
