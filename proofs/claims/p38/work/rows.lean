section
-- ===== PART A: goes FIRST, ahead of the names: the tables' words, and 'selects' of the private methods out of them =====
/-- a private method of a class that the tables say can be made, by its rows of tables_1 -/
def lw_okq (q : MethodName × Nat) : Prop := (q.1.cls ≠ "java/lang/invoke/MethodHandle" ∧ q.1.cls ≠ "java/lang/invoke/VarHandle") ∧ Cond.instantiable q.1.cls q.2 ∈ tables_1 ∧ Cond.privateMethod q.1 ∈ tables_1 ∧ Cond.instanceMethod q.1 ∈ tables_1
theorem lw_p0 : lw_okq (⟨"CoalitionChecker$Likeness", "refine", "()I"⟩, 6) := ⟨⟨by decide +kernel, by decide +kernel⟩, List.mem_of_getElem? (i := 202) (by decide +kernel), List.mem_of_getElem? (i := 304) (by decide +kernel), List.mem_of_getElem? (i := 305) (by decide +kernel)⟩
theorem lw_p1 : lw_okq (⟨"CoalitionChecker$Likeness", "firstLike", "(I)I"⟩, 6) := ⟨⟨by decide +kernel, by decide +kernel⟩, List.mem_of_getElem? (i := 202) (by decide +kernel), List.mem_of_getElem? (i := 308) (by decide +kernel), List.mem_of_getElem? (i := 309) (by decide +kernel)⟩
theorem lw_p2 : lw_okq (⟨"CoalitionChecker$Likeness", "areAlike", "(II)Z"⟩, 6) := ⟨⟨by decide +kernel, by decide +kernel⟩, List.mem_of_getElem? (i := 202) (by decide +kernel), List.mem_of_getElem? (i := 324) (by decide +kernel), List.mem_of_getElem? (i := 325) (by decide +kernel)⟩
theorem lw_p3 : lw_okq (⟨"CoalitionChecker$Likeness", "answers", "([I[I)Z"⟩, 6) := ⟨⟨by decide +kernel, by decide +kernel⟩, List.mem_of_getElem? (i := 202) (by decide +kernel), List.mem_of_getElem? (i := 334) (by decide +kernel), List.mem_of_getElem? (i := 335) (by decide +kernel)⟩
theorem lw_p4 : lw_okq (⟨"CoalitionChecker$Likeness", "hasWithin", "([II)Z"⟩, 6) := ⟨⟨by decide +kernel, by decide +kernel⟩, List.mem_of_getElem? (i := 202) (by decide +kernel), List.mem_of_getElem? (i := 338) (by decide +kernel), List.mem_of_getElem? (i := 339) (by decide +kernel)⟩
theorem lw_p5 : lw_okq (⟨"CoalitionChecker$History", "slotAt", "(I)LCoalitionChecker$Structure;"⟩, 3) := ⟨⟨by decide +kernel, by decide +kernel⟩, List.mem_of_getElem? (i := 78) (by decide +kernel), List.mem_of_getElem? (i := 368) (by decide +kernel), List.mem_of_getElem? (i := 369) (by decide +kernel)⟩
theorem lw_p6 : lw_okq (⟨"CoalitionChecker$Structure", "leadBack", "(I)V"⟩, 8) := ⟨⟨by decide +kernel, by decide +kernel⟩, List.mem_of_getElem? (i := 31) (by decide +kernel), List.mem_of_getElem? (i := 431) (by decide +kernel), List.mem_of_getElem? (i := 432) (by decide +kernel)⟩
theorem lw_p7 : lw_okq (⟨"CoalitionChecker$Structure", "isWithinActions", "(II)Z"⟩, 8) := ⟨⟨by decide +kernel, by decide +kernel⟩, List.mem_of_getElem? (i := 31) (by decide +kernel), List.mem_of_getElem? (i := 435) (by decide +kernel), List.mem_of_getElem? (i := 436) (by decide +kernel)⟩
theorem lw_p8 : lw_okq (⟨"CoalitionChecker", "isQuestion", "(II)Z"⟩, 9) := ⟨⟨by decide +kernel, by decide +kernel⟩, List.mem_of_getElem? (i := 15) (by decide +kernel), List.mem_of_getElem? (i := 481) (by decide +kernel), List.mem_of_getElem? (i := 482) (by decide +kernel)⟩
theorem lw_p9 : lw_okq (⟨"CoalitionChecker$Steps", "leastWithin", "(I)I"⟩, 4) := ⟨⟨by decide +kernel, by decide +kernel⟩, List.mem_of_getElem? (i := 98) (by decide +kernel), List.mem_of_getElem? (i := 502) (by decide +kernel), List.mem_of_getElem? (i := 503) (by decide +kernel)⟩
theorem lw_p10 : lw_okq (⟨"CoalitionChecker$Steps", "jointPart", "(II)I"⟩, 4) := ⟨⟨by decide +kernel, by decide +kernel⟩, List.mem_of_getElem? (i := 98) (by decide +kernel), List.mem_of_getElem? (i := 520) (by decide +kernel), List.mem_of_getElem? (i := 521) (by decide +kernel)⟩
theorem lw_p11 : lw_okq (⟨"CoalitionChecker", "formulaOf", "(I)LCoalitionChecker$Formula;"⟩, 9) := ⟨⟨by decide +kernel, by decide +kernel⟩, List.mem_of_getElem? (i := 15) (by decide +kernel), List.mem_of_getElem? (i := 546) (by decide +kernel), List.mem_of_getElem? (i := 547) (by decide +kernel)⟩
theorem lw_p12 : lw_okq (⟨"CoalitionChecker$Meaning", "labelled", "(I)I"⟩, 4) := ⟨⟨by decide +kernel, by decide +kernel⟩, List.mem_of_getElem? (i := 164) (by decide +kernel), List.mem_of_getElem? (i := 572) (by decide +kernel), List.mem_of_getElem? (i := 573) (by decide +kernel)⟩
theorem lw_p13 : lw_okq (⟨"CoalitionChecker$Meaning", "plainSet", "(III)I"⟩, 4) := ⟨⟨by decide +kernel, by decide +kernel⟩, List.mem_of_getElem? (i := 164) (by decide +kernel), List.mem_of_getElem? (i := 577) (by decide +kernel), List.mem_of_getElem? (i := 578) (by decide +kernel)⟩
theorem lw_p14 : lw_okq (⟨"CoalitionChecker$Meaning", "strongSet", "(IIIIZ)I"⟩, 4) := ⟨⟨by decide +kernel, by decide +kernel⟩, List.mem_of_getElem? (i := 164) (by decide +kernel), List.mem_of_getElem? (i := 582) (by decide +kernel), List.mem_of_getElem? (i := 583) (by decide +kernel)⟩
theorem lw_p15 : lw_okq (⟨"CoalitionChecker$Meaning", "reached", "(IIIZ)I"⟩, 4) := ⟨⟨by decide +kernel, by decide +kernel⟩, List.mem_of_getElem? (i := 164) (by decide +kernel), List.mem_of_getElem? (i := 594) (by decide +kernel), List.mem_of_getElem? (i := 595) (by decide +kernel)⟩
def lw_privs_1 : List (MethodName × Nat) := [(⟨"CoalitionChecker$Likeness", "refine", "()I"⟩, 6), (⟨"CoalitionChecker$Likeness", "firstLike", "(I)I"⟩, 6), (⟨"CoalitionChecker$Likeness", "areAlike", "(II)Z"⟩, 6), (⟨"CoalitionChecker$Likeness", "answers", "([I[I)Z"⟩, 6), (⟨"CoalitionChecker$Likeness", "hasWithin", "([II)Z"⟩, 6), (⟨"CoalitionChecker$History", "slotAt", "(I)LCoalitionChecker$Structure;"⟩, 3), (⟨"CoalitionChecker$Structure", "leadBack", "(I)V"⟩, 8), (⟨"CoalitionChecker$Structure", "isWithinActions", "(II)Z"⟩, 8), (⟨"CoalitionChecker", "isQuestion", "(II)Z"⟩, 9), (⟨"CoalitionChecker$Steps", "leastWithin", "(I)I"⟩, 4), (⟨"CoalitionChecker$Steps", "jointPart", "(II)I"⟩, 4), (⟨"CoalitionChecker", "formulaOf", "(I)LCoalitionChecker$Formula;"⟩, 9), (⟨"CoalitionChecker$Meaning", "labelled", "(I)I"⟩, 4), (⟨"CoalitionChecker$Meaning", "plainSet", "(III)I"⟩, 4), (⟨"CoalitionChecker$Meaning", "strongSet", "(IIIIZ)I"⟩, 4), (⟨"CoalitionChecker$Meaning", "reached", "(IIIZ)I"⟩, 4)]
theorem lw_r1 : ∀ q ∈ lw_privs_1, lw_okq q := List.forall_mem_cons.mpr ⟨lw_p0, List.forall_mem_cons.mpr ⟨lw_p1, List.forall_mem_cons.mpr ⟨lw_p2, List.forall_mem_cons.mpr ⟨lw_p3, List.forall_mem_cons.mpr ⟨lw_p4, List.forall_mem_cons.mpr ⟨lw_p5, List.forall_mem_cons.mpr ⟨lw_p6, List.forall_mem_cons.mpr ⟨lw_p7, List.forall_mem_cons.mpr ⟨lw_p8, List.forall_mem_cons.mpr ⟨lw_p9, List.forall_mem_cons.mpr ⟨lw_p10, List.forall_mem_cons.mpr ⟨lw_p11, List.forall_mem_cons.mpr ⟨lw_p12, List.forall_mem_cons.mpr ⟨lw_p13, List.forall_mem_cons.mpr ⟨lw_p14, List.forall_mem_cons.mpr ⟨lw_p15, fun _ h => absurd h List.not_mem_nil⟩⟩⟩⟩⟩⟩⟩⟩⟩⟩⟩⟩⟩⟩⟩⟩
theorem lw_p16 : lw_okq (⟨"CoalitionChecker$Meaning", "kept", "(IIZ)I"⟩, 4) := ⟨⟨by decide +kernel, by decide +kernel⟩, List.mem_of_getElem? (i := 164) (by decide +kernel), List.mem_of_getElem? (i := 599) (by decide +kernel), List.mem_of_getElem? (i := 600) (by decide +kernel)⟩
theorem lw_p17 : lw_okq (⟨"CoalitionChecker$Meaning", "boxSet", "(IIII)I"⟩, 4) := ⟨⟨by decide +kernel, by decide +kernel⟩, List.mem_of_getElem? (i := 164) (by decide +kernel), List.mem_of_getElem? (i := 603) (by decide +kernel), List.mem_of_getElem? (i := 604) (by decide +kernel)⟩
theorem lw_p18 : lw_okq (⟨"CoalitionChecker$Meaning", "unavoidable", "(III)I"⟩, 4) := ⟨⟨by decide +kernel, by decide +kernel⟩, List.mem_of_getElem? (i := 164) (by decide +kernel), List.mem_of_getElem? (i := 607) (by decide +kernel), List.mem_of_getElem? (i := 608) (by decide +kernel)⟩
theorem lw_p19 : lw_okq (⟨"CoalitionChecker$Reader", "take", "(I)Z"⟩, 12) := ⟨⟨by decide +kernel, by decide +kernel⟩, List.mem_of_getElem? (i := 120) (by decide +kernel), List.mem_of_getElem? (i := 682) (by decide +kernel), List.mem_of_getElem? (i := 683) (by decide +kernel)⟩
theorem lw_p20 : lw_okq (⟨"CoalitionChecker$Reader", "takeUnit", "(I)Z"⟩, 12) := ⟨⟨by decide +kernel, by decide +kernel⟩, List.mem_of_getElem? (i := 120) (by decide +kernel), List.mem_of_getElem? (i := 686) (by decide +kernel), List.mem_of_getElem? (i := 687) (by decide +kernel)⟩
theorem lw_p21 : lw_okq (⟨"CoalitionChecker$Reader", "addLeaf", "(II)Z"⟩, 12) := ⟨⟨by decide +kernel, by decide +kernel⟩, List.mem_of_getElem? (i := 120) (by decide +kernel), List.mem_of_getElem? (i := 690) (by decide +kernel), List.mem_of_getElem? (i := 691) (by decide +kernel)⟩
theorem lw_p22 : lw_okq (⟨"CoalitionChecker$Reader", "pushOperand", "(I)V"⟩, 12) := ⟨⟨by decide +kernel, by decide +kernel⟩, List.mem_of_getElem? (i := 120) (by decide +kernel), List.mem_of_getElem? (i := 699) (by decide +kernel), List.mem_of_getElem? (i := 700) (by decide +kernel)⟩
theorem lw_p23 : lw_okq (⟨"CoalitionChecker$Reader", "push", "(II)Z"⟩, 12) := ⟨⟨by decide +kernel, by decide +kernel⟩, List.mem_of_getElem? (i := 120) (by decide +kernel), List.mem_of_getElem? (i := 703) (by decide +kernel), List.mem_of_getElem? (i := 704) (by decide +kernel)⟩
theorem lw_p24 : lw_okq (⟨"CoalitionChecker$Reader", "takeAgent", "(I)Z"⟩, 12) := ⟨⟨by decide +kernel, by decide +kernel⟩, List.mem_of_getElem? (i := 120) (by decide +kernel), List.mem_of_getElem? (i := 707) (by decide +kernel), List.mem_of_getElem? (i := 708) (by decide +kernel)⟩
theorem lw_p25 : lw_okq (⟨"CoalitionChecker$Reader", "takeGoal", "(I)Z"⟩, 12) := ⟨⟨by decide +kernel, by decide +kernel⟩, List.mem_of_getElem? (i := 120) (by decide +kernel), List.mem_of_getElem? (i := 711) (by decide +kernel), List.mem_of_getElem? (i := 712) (by decide +kernel)⟩
theorem lw_p26 : lw_okq (⟨"CoalitionChecker$Reader", "takeAfterUnit", "(I)Z"⟩, 12) := ⟨⟨by decide +kernel, by decide +kernel⟩, List.mem_of_getElem? (i := 120) (by decide +kernel), List.mem_of_getElem? (i := 715) (by decide +kernel), List.mem_of_getElem? (i := 716) (by decide +kernel)⟩
theorem lw_p27 : lw_okq (⟨"CoalitionChecker$Reader", "closeIf", "(I)V"⟩, 12) := ⟨⟨by decide +kernel, by decide +kernel⟩, List.mem_of_getElem? (i := 120) (by decide +kernel), List.mem_of_getElem? (i := 719) (by decide +kernel), List.mem_of_getElem? (i := 720) (by decide +kernel)⟩
theorem lw_p28 : lw_okq (⟨"CoalitionChecker$Reader", "topOpen", "()I"⟩, 12) := ⟨⟨by decide +kernel, by decide +kernel⟩, List.mem_of_getElem? (i := 120) (by decide +kernel), List.mem_of_getElem? (i := 723) (by decide +kernel), List.mem_of_getElem? (i := 724) (by decide +kernel)⟩
theorem lw_p29 : lw_okq (⟨"CoalitionChecker$Reader", "close", "()V"⟩, 12) := ⟨⟨by decide +kernel, by decide +kernel⟩, List.mem_of_getElem? (i := 120) (by decide +kernel), List.mem_of_getElem? (i := 727) (by decide +kernel), List.mem_of_getElem? (i := 728) (by decide +kernel)⟩
theorem lw_p30 : lw_okq (⟨"CoalitionChecker$Reader", "popOperand", "()I"⟩, 12) := ⟨⟨by decide +kernel, by decide +kernel⟩, List.mem_of_getElem? (i := 120) (by decide +kernel), List.mem_of_getElem? (i := 734) (by decide +kernel), List.mem_of_getElem? (i := 735) (by decide +kernel)⟩
theorem lw_p31 : lw_okq (⟨"CoalitionChecker$Reader", "takeUntil", "()Z"⟩, 12) := ⟨⟨by decide +kernel, by decide +kernel⟩, List.mem_of_getElem? (i := 120) (by decide +kernel), List.mem_of_getElem? (i := 738) (by decide +kernel), List.mem_of_getElem? (i := 739) (by decide +kernel)⟩
def lw_privs_2 : List (MethodName × Nat) := [(⟨"CoalitionChecker$Meaning", "kept", "(IIZ)I"⟩, 4), (⟨"CoalitionChecker$Meaning", "boxSet", "(IIII)I"⟩, 4), (⟨"CoalitionChecker$Meaning", "unavoidable", "(III)I"⟩, 4), (⟨"CoalitionChecker$Reader", "take", "(I)Z"⟩, 12), (⟨"CoalitionChecker$Reader", "takeUnit", "(I)Z"⟩, 12), (⟨"CoalitionChecker$Reader", "addLeaf", "(II)Z"⟩, 12), (⟨"CoalitionChecker$Reader", "pushOperand", "(I)V"⟩, 12), (⟨"CoalitionChecker$Reader", "push", "(II)Z"⟩, 12), (⟨"CoalitionChecker$Reader", "takeAgent", "(I)Z"⟩, 12), (⟨"CoalitionChecker$Reader", "takeGoal", "(I)Z"⟩, 12), (⟨"CoalitionChecker$Reader", "takeAfterUnit", "(I)Z"⟩, 12), (⟨"CoalitionChecker$Reader", "closeIf", "(I)V"⟩, 12), (⟨"CoalitionChecker$Reader", "topOpen", "()I"⟩, 12), (⟨"CoalitionChecker$Reader", "close", "()V"⟩, 12), (⟨"CoalitionChecker$Reader", "popOperand", "()I"⟩, 12), (⟨"CoalitionChecker$Reader", "takeUntil", "()Z"⟩, 12)]
theorem lw_r2 : ∀ q ∈ lw_privs_2, lw_okq q := List.forall_mem_cons.mpr ⟨lw_p16, List.forall_mem_cons.mpr ⟨lw_p17, List.forall_mem_cons.mpr ⟨lw_p18, List.forall_mem_cons.mpr ⟨lw_p19, List.forall_mem_cons.mpr ⟨lw_p20, List.forall_mem_cons.mpr ⟨lw_p21, List.forall_mem_cons.mpr ⟨lw_p22, List.forall_mem_cons.mpr ⟨lw_p23, List.forall_mem_cons.mpr ⟨lw_p24, List.forall_mem_cons.mpr ⟨lw_p25, List.forall_mem_cons.mpr ⟨lw_p26, List.forall_mem_cons.mpr ⟨lw_p27, List.forall_mem_cons.mpr ⟨lw_p28, List.forall_mem_cons.mpr ⟨lw_p29, List.forall_mem_cons.mpr ⟨lw_p30, List.forall_mem_cons.mpr ⟨lw_p31, fun _ h => absurd h List.not_mem_nil⟩⟩⟩⟩⟩⟩⟩⟩⟩⟩⟩⟩⟩⟩⟩⟩
theorem lw_p32 : lw_okq (⟨"CoalitionChecker$Reader", "takeBracket", "()Z"⟩, 12) := ⟨⟨by decide +kernel, by decide +kernel⟩, List.mem_of_getElem? (i := 120) (by decide +kernel), List.mem_of_getElem? (i := 742) (by decide +kernel), List.mem_of_getElem? (i := 743) (by decide +kernel)⟩
theorem lw_p33 : lw_okq (⟨"CoalitionChecker$Reader", "closePrefixes", "()V"⟩, 12) := ⟨⟨by decide +kernel, by decide +kernel⟩, List.mem_of_getElem? (i := 120) (by decide +kernel), List.mem_of_getElem? (i := 746) (by decide +kernel), List.mem_of_getElem? (i := 747) (by decide +kernel)⟩
def lw_privs_3 : List (MethodName × Nat) := [(⟨"CoalitionChecker$Reader", "takeBracket", "()Z"⟩, 12), (⟨"CoalitionChecker$Reader", "closePrefixes", "()V"⟩, 12)]
theorem lw_r3 : ∀ q ∈ lw_privs_3, lw_okq q := List.forall_mem_cons.mpr ⟨lw_p32, List.forall_mem_cons.mpr ⟨lw_p33, fun _ h => absurd h List.not_mem_nil⟩⟩
def lw_privs : List (MethodName × Nat) := lw_privs_1 ++ (lw_privs_2 ++ (lw_privs_3))
def lw_tbl : List Cond := k2_sels lw_privs ++ tables_1
theorem lw_privs_ok : ∀ q ∈ lw_privs, lw_okq q := by
  show ∀ q ∈ lw_privs_1 ++ (lw_privs_2 ++ (lw_privs_3)), lw_okq q
  exact List.forall_mem_append.mpr ⟨lw_r1, List.forall_mem_append.mpr ⟨lw_r2, lw_r3⟩⟩
end
section
def RX0 : String := "CoalitionChecker$Formula"
def TX0 : u_T := fun k => match k with
  | 0 => ("CoalitionChecker$Formula", "kinds", "[I", true)
  | 1 => ("CoalitionChecker$Formula", "firsts", "[I", true)
  | 2 => ("CoalitionChecker$Formula", "seconds", "[I", true)
  | 3 => ("CoalitionChecker$Formula", "details", "[I", true)
  | _ => ("CoalitionChecker$Formula", "count", "I", false)
def tyX0 : Nat → FieldType := fun k => match k with
  | 0 => .array .int
  | 1 => .array .int
  | 2 => .array .int
  | 3 => .array .int
  | _ => .int
abbrev wsX00 : List Cond := u_ws RX0 TX0 5
theorem nmX0 : ∀ a, a < 5 → ∀ b, b < 5 → a ≠ b → (TX0 a).2.1 ≠ (TX0 b).2.1 := by decide +kernel
theorem tyX0_ok : ∀ k, k < 5 → parseFieldDescriptor (TX0 k).2.2.1 = some (tyX0 k) := by decide +kernel
abbrev cX0_init : ByteArray := prog_2_method_1_code
def yX0_init : MethodName := ⟨RX0, "<init>", "()V"⟩
abbrev cX0_add : ByteArray := prog_2_method_2_code
def yX0_add : MethodName := ⟨RX0, "add", "(IIII)I"⟩
abbrev cX0_kind : ByteArray := prog_2_method_3_code
def yX0_kind : MethodName := ⟨RX0, "kind", "(I)I"⟩
abbrev cX0_detail : ByteArray := prog_2_method_4_code
def yX0_detail : MethodName := ⟨RX0, "detail", "(I)I"⟩
abbrev cX0_first : ByteArray := prog_2_method_5_code
def yX0_first : MethodName := ⟨RX0, "first", "(I)I"⟩
abbrev cX0_second : ByteArray := prog_2_method_6_code
def yX0_second : MethodName := ⟨RX0, "second", "(I)I"⟩
abbrev cX0_topKind : ByteArray := prog_2_method_7_code
def yX0_topKind : MethodName := ⟨RX0, "topKind", "()I"⟩
abbrev cX0_topCoalition : ByteArray := prog_2_method_8_code
def yX0_topCoalition : MethodName := ⟨RX0, "topCoalition", "()I"⟩
abbrev cX0_hasStrategy : ByteArray := prog_2_method_9_code
def yX0_hasStrategy : MethodName := ⟨RX0, "hasStrategy", "()Z"⟩
def RX1 : String := "CoalitionChecker$History"
def TX1 : u_T := fun k => match k with
  | 0 => ("CoalitionChecker$History", "ring", "[LCoalitionChecker$Structure;", true)
  | 1 => ("CoalitionChecker$History", "oldest", "I", false)
  | _ => ("CoalitionChecker$History", "count", "I", false)
def tyX1 : Nat → FieldType := fun k => match k with
  | 0 => .array (.object "CoalitionChecker$Structure")
  | 1 => .int
  | _ => .int
abbrev wsX10 : List Cond := u_ws RX1 TX1 3
theorem nmX1 : ∀ a, a < 3 → ∀ b, b < 3 → a ≠ b → (TX1 a).2.1 ≠ (TX1 b).2.1 := by decide +kernel
theorem tyX1_ok : ∀ k, k < 3 → parseFieldDescriptor (TX1 k).2.2.1 = some (tyX1 k) := by decide +kernel
abbrev cX1_init : ByteArray := prog_3_method_1_code
def yX1_init : MethodName := ⟨RX1, "<init>", "(I)V"⟩
abbrev cX1_keep : ByteArray := prog_3_method_2_code
def yX1_keep : MethodName := ⟨RX1, "keep", "(LCoalitionChecker$Structure;)V"⟩
abbrev cX1_restore : ByteArray := prog_3_method_3_code
def yX1_restore : MethodName := ⟨RX1, "restore", "(LCoalitionChecker$Structure;)Z"⟩
abbrev cX1_slotAt : ByteArray := prog_3_method_4_code
def yX1_slotAt : MethodName := ⟨RX1, "slotAt", "(I)LCoalitionChecker$Structure;"⟩
def RX2 : String := "CoalitionChecker$Likeness"
def TX2 : u_T := fun k => match k with
  | 0 => ("CoalitionChecker$Likeness", "structure", "LCoalitionChecker$Structure;", true)
  | 1 => ("CoalitionChecker$Likeness", "steps", "LCoalitionChecker$Steps;", true)
  | 2 => ("CoalitionChecker$Likeness", "classNumbers", "[I", true)
  | 3 => ("CoalitionChecker$Likeness", "finer", "[I", true)
  | 4 => ("CoalitionChecker$Likeness", "oneSpread", "[I", true)
  | _ => ("CoalitionChecker$Likeness", "otherSpread", "[I", true)
def tyX2 : Nat → FieldType := fun k => match k with
  | 0 => .object "CoalitionChecker$Structure"
  | 1 => .object "CoalitionChecker$Steps"
  | 2 => .array .int
  | 3 => .array .int
  | 4 => .array .int
  | _ => .array .int
abbrev wsX20 : List Cond := u_ws RX2 TX2 6
theorem nmX2 : ∀ a, a < 6 → ∀ b, b < 6 → a ≠ b → (TX2 a).2.1 ≠ (TX2 b).2.1 := by decide +kernel
theorem tyX2_ok : ∀ k, k < 6 → parseFieldDescriptor (TX2 k).2.2.1 = some (tyX2 k) := by decide +kernel
abbrev cX2_init : ByteArray := prog_4_method_1_code
def yX2_init : MethodName := ⟨RX2, "<init>", "(LCoalitionChecker$Structure;LCoalitionChecker$Steps;)V"⟩
abbrev cX2_classNumber : ByteArray := prog_4_method_2_code
def yX2_classNumber : MethodName := ⟨RX2, "classNumber", "(I)I"⟩
abbrev cX2_divide : ByteArray := prog_4_method_3_code
def yX2_divide : MethodName := ⟨RX2, "divide", "()I"⟩
abbrev cX2_refine : ByteArray := prog_4_method_4_code
def yX2_refine : MethodName := ⟨RX2, "refine", "()I"⟩
abbrev cX2_firstLike : ByteArray := prog_4_method_5_code
def yX2_firstLike : MethodName := ⟨RX2, "firstLike", "(I)I"⟩
abbrev cX2_areAlike : ByteArray := prog_4_method_6_code
def yX2_areAlike : MethodName := ⟨RX2, "areAlike", "(II)Z"⟩
abbrev cX2_answers : ByteArray := prog_4_method_7_code
def yX2_answers : MethodName := ⟨RX2, "answers", "([I[I)Z"⟩
abbrev cX2_hasWithin : ByteArray := prog_4_method_8_code
def yX2_hasWithin : MethodName := ⟨RX2, "hasWithin", "([II)Z"⟩
def RX3 : String := "CoalitionChecker$Meaning"
def TX3 : u_T := fun k => match k with
  | 0 => ("CoalitionChecker$Meaning", "structure", "LCoalitionChecker$Structure;", true)
  | 1 => ("CoalitionChecker$Meaning", "steps", "LCoalitionChecker$Steps;", true)
  | 2 => ("CoalitionChecker$Meaning", "sets", "[I", true)
  | _ => ("CoalitionChecker$Meaning", "ranks", "[I", true)
def tyX3 : Nat → FieldType := fun k => match k with
  | 0 => .object "CoalitionChecker$Structure"
  | 1 => .object "CoalitionChecker$Steps"
  | 2 => .array .int
  | _ => .array .int
abbrev wsX30 : List Cond := u_ws RX3 TX3 4
theorem nmX3 : ∀ a, a < 4 → ∀ b, b < 4 → a ≠ b → (TX3 a).2.1 ≠ (TX3 b).2.1 := by decide +kernel
theorem tyX3_ok : ∀ k, k < 4 → parseFieldDescriptor (TX3 k).2.2.1 = some (tyX3 k) := by decide +kernel
abbrev cX3_init : ByteArray := prog_5_method_1_code
def yX3_init : MethodName := ⟨RX3, "<init>", "(LCoalitionChecker$Structure;LCoalitionChecker$Steps;)V"⟩
abbrev cX3_look : ByteArray := prog_5_method_2_code
def yX3_look : MethodName := ⟨RX3, "look", "(LCoalitionChecker$Formula;)V"⟩
abbrev cX3_setOf : ByteArray := prog_5_method_3_code
def yX3_setOf : MethodName := ⟨RX3, "setOf", "(I)I"⟩
abbrev cX3_whole : ByteArray := prog_5_method_4_code
def yX3_whole : MethodName := ⟨RX3, "whole", "(LCoalitionChecker$Formula;)I"⟩
abbrev cX3_goalSet : ByteArray := prog_5_method_5_code
def yX3_goalSet : MethodName := ⟨RX3, "goalSet", "(LCoalitionChecker$Formula;IZ)I"⟩
abbrev cX3_rankOf : ByteArray := prog_5_method_6_code
def yX3_rankOf : MethodName := ⟨RX3, "rankOf", "(I)I"⟩
abbrev cX3_statesBelow : ByteArray := prog_5_method_7_code
def yX3_statesBelow : MethodName := ⟨RX3, "statesBelow", "(I)I"⟩
abbrev cX3_labelled : ByteArray := prog_5_method_8_code
def yX3_labelled : MethodName := ⟨RX3, "labelled", "(I)I"⟩
abbrev cX3_plainSet : ByteArray := prog_5_method_9_code
def yX3_plainSet : MethodName := ⟨RX3, "plainSet", "(III)I"⟩
abbrev cX3_strongSet : ByteArray := prog_5_method_10_code
def yX3_strongSet : MethodName := ⟨RX3, "strongSet", "(IIIIZ)I"⟩
abbrev cX3_boxSet : ByteArray := prog_5_method_11_code
def yX3_boxSet : MethodName := ⟨RX3, "boxSet", "(IIII)I"⟩
abbrev cX3_reached : ByteArray := prog_5_method_12_code
def yX3_reached : MethodName := ⟨RX3, "reached", "(IIIZ)I"⟩
abbrev cX3_kept : ByteArray := prog_5_method_13_code
def yX3_kept : MethodName := ⟨RX3, "kept", "(IIZ)I"⟩
abbrev cX3_unavoidable : ByteArray := prog_5_method_14_code
def yX3_unavoidable : MethodName := ⟨RX3, "unavoidable", "(III)I"⟩
def RX4 : String := "CoalitionChecker$Reader"
def TX4 : u_T := fun k => match k with
  | 0 => ("CoalitionChecker$Reader", "agentCount", "I", true)
  | 1 => ("CoalitionChecker$Reader", "text", "[I", true)
  | 2 => ("CoalitionChecker$Reader", "open", "[I", true)
  | 3 => ("CoalitionChecker$Reader", "openCoalitions", "[I", true)
  | 4 => ("CoalitionChecker$Reader", "operands", "[I", true)
  | 5 => ("CoalitionChecker$Reader", "length", "I", false)
  | 6 => ("CoalitionChecker$Reader", "openCount", "I", false)
  | 7 => ("CoalitionChecker$Reader", "operandCount", "I", false)
  | 8 => ("CoalitionChecker$Reader", "mode", "I", false)
  | 9 => ("CoalitionChecker$Reader", "coalition", "I", false)
  | 10 => ("CoalitionChecker$Reader", "box", "I", false)
  | _ => ("CoalitionChecker$Reader", "formula", "LCoalitionChecker$Formula;", false)
def tyX4 : Nat → FieldType := fun k => match k with
  | 0 => .int
  | 1 => .array .int
  | 2 => .array .int
  | 3 => .array .int
  | 4 => .array .int
  | 5 => .int
  | 6 => .int
  | 7 => .int
  | 8 => .int
  | 9 => .int
  | 10 => .int
  | _ => .object "CoalitionChecker$Formula"
abbrev wsX40 : List Cond := u_ws RX4 TX4 12
theorem nmX4 : ∀ a, a < 12 → ∀ b, b < 12 → a ≠ b → (TX4 a).2.1 ≠ (TX4 b).2.1 := by decide +kernel
theorem tyX4_ok : ∀ k, k < 12 → parseFieldDescriptor (TX4 k).2.2.1 = some (tyX4 k) := by decide +kernel
abbrev cX4_init : ByteArray := prog_6_method_1_code
def yX4_init : MethodName := ⟨RX4, "<init>", "(I)V"⟩
abbrev cX4_append : ByteArray := prog_6_method_2_code
def yX4_append : MethodName := ⟨RX4, "append", "(I)Z"⟩
abbrev cX4_parse : ByteArray := prog_6_method_3_code
def yX4_parse : MethodName := ⟨RX4, "parse", "(LCoalitionChecker$Formula;)I"⟩
abbrev cX4_take : ByteArray := prog_6_method_4_code
def yX4_take : MethodName := ⟨RX4, "take", "(I)Z"⟩
abbrev cX4_takeUnit : ByteArray := prog_6_method_5_code
def yX4_takeUnit : MethodName := ⟨RX4, "takeUnit", "(I)Z"⟩
abbrev cX4_takeAgent : ByteArray := prog_6_method_6_code
def yX4_takeAgent : MethodName := ⟨RX4, "takeAgent", "(I)Z"⟩
abbrev cX4_takeGoal : ByteArray := prog_6_method_7_code
def yX4_takeGoal : MethodName := ⟨RX4, "takeGoal", "(I)Z"⟩
abbrev cX4_takeAfterUnit : ByteArray := prog_6_method_8_code
def yX4_takeAfterUnit : MethodName := ⟨RX4, "takeAfterUnit", "(I)Z"⟩
abbrev cX4_takeUntil : ByteArray := prog_6_method_9_code
def yX4_takeUntil : MethodName := ⟨RX4, "takeUntil", "()Z"⟩
abbrev cX4_takeBracket : ByteArray := prog_6_method_10_code
def yX4_takeBracket : MethodName := ⟨RX4, "takeBracket", "()Z"⟩
abbrev cX4_addLeaf : ByteArray := prog_6_method_11_code
def yX4_addLeaf : MethodName := ⟨RX4, "addLeaf", "(II)Z"⟩
abbrev cX4_closePrefixes : ByteArray := prog_6_method_12_code
def yX4_closePrefixes : MethodName := ⟨RX4, "closePrefixes", "()V"⟩
abbrev cX4_isPrefix : ByteArray := prog_6_method_13_code
def yX4_isPrefix : MethodName := ⟨RX4, "isPrefix", "(I)Z"⟩
abbrev cX4_closeIf : ByteArray := prog_6_method_14_code
def yX4_closeIf : MethodName := ⟨RX4, "closeIf", "(I)V"⟩
abbrev cX4_close : ByteArray := prog_6_method_15_code
def yX4_close : MethodName := ⟨RX4, "close", "()V"⟩
abbrev cX4_topOpen : ByteArray := prog_6_method_16_code
def yX4_topOpen : MethodName := ⟨RX4, "topOpen", "()I"⟩
abbrev cX4_push : ByteArray := prog_6_method_17_code
def yX4_push : MethodName := ⟨RX4, "push", "(II)Z"⟩
abbrev cX4_pushOperand : ByteArray := prog_6_method_18_code
def yX4_pushOperand : MethodName := ⟨RX4, "pushOperand", "(I)V"⟩
abbrev cX4_popOperand : ByteArray := prog_6_method_19_code
def yX4_popOperand : MethodName := ⟨RX4, "popOperand", "()I"⟩
def RX5 : String := "CoalitionChecker$Rows"
def TX5 : u_T := fun k => match k with
  | _ => ("", "", "", false)
def tyX5 : Nat → FieldType := fun k => match k with
  | _ => .int
abbrev wsX50 : List Cond := u_ws RX5 TX5 0
theorem nmX5 : ∀ a, a < 0 → ∀ b, b < 0 → a ≠ b → (TX5 a).2.1 ≠ (TX5 b).2.1 := by decide +kernel
theorem tyX5_ok : ∀ k, k < 0 → parseFieldDescriptor (TX5 k).2.2.1 = some (tyX5 k) := by decide +kernel
abbrev cX5_at : ByteArray := prog_7_method_2_code
def yX5_at : MethodName := ⟨RX5, "at", "([II)I"⟩
abbrev cX5_put : ByteArray := prog_7_method_3_code
def yX5_put : MethodName := ⟨RX5, "put", "([III)V"⟩
abbrev cX5_copy : ByteArray := prog_7_method_4_code
def yX5_copy : MethodName := ⟨RX5, "copy", "([I[I)V"⟩
def RX6 : String := "CoalitionChecker$Steps"
def TX6 : u_T := fun k => match k with
  | 0 => ("CoalitionChecker$Steps", "structure", "LCoalitionChecker$Structure;", true)
  | 1 => ("CoalitionChecker$Steps", "jointParts", "[I", true)
  | 2 => ("CoalitionChecker$Steps", "ownNames", "[I", true)
  | _ => ("CoalitionChecker$Steps", "outcomes", "[I", true)
def tyX6 : Nat → FieldType := fun k => match k with
  | 0 => .object "CoalitionChecker$Structure"
  | 1 => .array .int
  | 2 => .array .int
  | _ => .array .int
abbrev wsX60 : List Cond := u_ws RX6 TX6 4
theorem nmX6 : ∀ a, a < 4 → ∀ b, b < 4 → a ≠ b → (TX6 a).2.1 ≠ (TX6 b).2.1 := by decide +kernel
theorem tyX6_ok : ∀ k, k < 4 → parseFieldDescriptor (TX6 k).2.2.1 = some (tyX6 k) := by decide +kernel
abbrev cX6_init : ByteArray := prog_8_method_1_code
def yX6_init : MethodName := ⟨RX6, "<init>", "(LCoalitionChecker$Structure;)V"⟩
abbrev cX6_spread : ByteArray := prog_8_method_2_code
def yX6_spread : MethodName := ⟨RX6, "spread", "(II[I[I)V"⟩
abbrev cX6_isForced : ByteArray := prog_8_method_3_code
def yX6_isForced : MethodName := ⟨RX6, "isForced", "(II)Z"⟩
abbrev cX6_leastForcing : ByteArray := prog_8_method_4_code
def yX6_leastForcing : MethodName := ⟨RX6, "leastForcing", "(III)I"⟩
abbrev cX6_isJointAction : ByteArray := prog_8_method_5_code
def yX6_isJointAction : MethodName := ⟨RX6, "isJointAction", "(III)Z"⟩
abbrev cX6_leastLeaving : ByteArray := prog_8_method_6_code
def yX6_leastLeaving : MethodName := ⟨RX6, "leastLeaving", "(IIII)I"⟩
abbrev cX6_countForced : ByteArray := prog_8_method_7_code
def yX6_countForced : MethodName := ⟨RX6, "countForced", "(II)I"⟩
abbrev cX6_forcing : ByteArray := prog_8_method_8_code
def yX6_forcing : MethodName := ⟨RX6, "forcing", "(IIZ)I"⟩
abbrev cX6_chosenJoint : ByteArray := prog_8_method_9_code
def yX6_chosenJoint : MethodName := ⟨RX6, "chosenJoint", "(II)I"⟩
abbrev cX6_follow : ByteArray := prog_8_method_10_code
def yX6_follow : MethodName := ⟨RX6, "follow", "(III)I"⟩
abbrev cX6_leastWithin : ByteArray := prog_8_method_11_code
def yX6_leastWithin : MethodName := ⟨RX6, "leastWithin", "(I)I"⟩
abbrev cX6_jointPart : ByteArray := prog_8_method_12_code
def yX6_jointPart : MethodName := ⟨RX6, "jointPart", "(II)I"⟩
abbrev cX6_partOf : ByteArray := prog_8_method_13_code
def yX6_partOf : MethodName := ⟨RX6, "partOf", "(II)I"⟩
def RX7 : String := "CoalitionChecker$Structure"
def TX7 : u_T := fun k => match k with
  | 0 => ("CoalitionChecker$Structure", "agentCount", "I", true)
  | 1 => ("CoalitionChecker$Structure", "coalitionLimit", "I", true)
  | 2 => ("CoalitionChecker$Structure", "moveLimit", "I", true)
  | 3 => ("CoalitionChecker$Structure", "labelSets", "[I", true)
  | 4 => ("CoalitionChecker$Structure", "actionCounts", "[I", true)
  | 5 => ("CoalitionChecker$Structure", "plannedActions", "[I", true)
  | 6 => ("CoalitionChecker$Structure", "targets", "[I", true)
  | _ => ("CoalitionChecker$Structure", "stateCount", "I", false)
def tyX7 : Nat → FieldType := fun k => match k with
  | 0 => .int
  | 1 => .int
  | 2 => .int
  | 3 => .array .int
  | 4 => .array .int
  | 5 => .array .int
  | 6 => .array .int
  | _ => .int
abbrev wsX70 : List Cond := u_ws RX7 TX7 8
theorem nmX7 : ∀ a, a < 8 → ∀ b, b < 8 → a ≠ b → (TX7 a).2.1 ≠ (TX7 b).2.1 := by decide +kernel
theorem tyX7_ok : ∀ k, k < 8 → parseFieldDescriptor (TX7 k).2.2.1 = some (tyX7 k) := by decide +kernel
abbrev cX7_init : ByteArray := prog_9_method_1_code
def yX7_init : MethodName := ⟨RX7, "<init>", "(I)V"⟩
abbrev cX7_copyFrom : ByteArray := prog_9_method_2_code
def yX7_copyFrom : MethodName := ⟨RX7, "copyFrom", "(LCoalitionChecker$Structure;)V"⟩
abbrev cX7_hasState : ByteArray := prog_9_method_3_code
def yX7_hasState : MethodName := ⟨RX7, "hasState", "(I)Z"⟩
abbrev cX7_hasPlace : ByteArray := prog_9_method_4_code
def yX7_hasPlace : MethodName := ⟨RX7, "hasPlace", "(II)Z"⟩
abbrev cX7_hasCoalition : ByteArray := prog_9_method_5_code
def yX7_hasCoalition : MethodName := ⟨RX7, "hasCoalition", "(I)Z"⟩
abbrev cX7_hasSet : ByteArray := prog_9_method_6_code
def yX7_hasSet : MethodName := ⟨RX7, "hasSet", "(I)Z"⟩
abbrev cX7_allStates : ByteArray := prog_9_method_7_code
def yX7_allStates : MethodName := ⟨RX7, "allStates", "()I"⟩
abbrev cX7_labelSet : ByteArray := prog_9_method_8_code
def yX7_labelSet : MethodName := ⟨RX7, "labelSet", "(I)I"⟩
abbrev cX7_setLabelSet : ByteArray := prog_9_method_9_code
def yX7_setLabelSet : MethodName := ⟨RX7, "setLabelSet", "(II)V"⟩
abbrev cX7_actionCount : ByteArray := prog_9_method_10_code
def yX7_actionCount : MethodName := ⟨RX7, "actionCount", "(II)I"⟩
abbrev cX7_setActionCount : ByteArray := prog_9_method_11_code
def yX7_setActionCount : MethodName := ⟨RX7, "setActionCount", "(III)V"⟩
abbrev cX7_plannedAction : ByteArray := prog_9_method_12_code
def yX7_plannedAction : MethodName := ⟨RX7, "plannedAction", "(II)I"⟩
abbrev cX7_setPlannedAction : ByteArray := prog_9_method_13_code
def yX7_setPlannedAction : MethodName := ⟨RX7, "setPlannedAction", "(III)V"⟩
abbrev cX7_target : ByteArray := prog_9_method_14_code
def yX7_target : MethodName := ⟨RX7, "target", "(II)I"⟩
abbrev cX7_setTarget : ByteArray := prog_9_method_15_code
def yX7_setTarget : MethodName := ⟨RX7, "setTarget", "(III)V"⟩
abbrev cX7_possibleMoves : ByteArray := prog_9_method_16_code
def yX7_possibleMoves : MethodName := ⟨RX7, "possibleMoves", "(I)I"⟩
abbrev cX7_grow : ByteArray := prog_9_method_17_code
def yX7_grow : MethodName := ⟨RX7, "grow", "()I"⟩
abbrev cX7_redirect : ByteArray := prog_9_method_18_code
def yX7_redirect : MethodName := ⟨RX7, "redirect", "(IIII)I"⟩
abbrev cX7_mix : ByteArray := prog_9_method_19_code
def yX7_mix : MethodName := ⟨RX7, "mix", "(J)J"⟩
abbrev cX7_leadBack : ByteArray := prog_9_method_20_code
def yX7_leadBack : MethodName := ⟨RX7, "leadBack", "(I)V"⟩
abbrev cX7_isWithinActions : ByteArray := prog_9_method_21_code
def yX7_isWithinActions : MethodName := ⟨RX7, "isWithinActions", "(II)Z"⟩
abbrev cX7_actionIn : ByteArray := prog_9_method_22_code
def yX7_actionIn : MethodName := ⟨RX7, "actionIn", "(II)I"⟩
def RX8 : String := "CoalitionChecker$Tactics"
def TX8 : u_T := fun k => match k with
  | 0 => ("CoalitionChecker$Tactics", "structure", "LCoalitionChecker$Structure;", true)
  | 1 => ("CoalitionChecker$Tactics", "steps", "LCoalitionChecker$Steps;", true)
  | 2 => ("CoalitionChecker$Tactics", "meaning", "LCoalitionChecker$Meaning;", true)
  | _ => ("CoalitionChecker$Tactics", "held", "I", false)
def tyX8 : Nat → FieldType := fun k => match k with
  | 0 => .object "CoalitionChecker$Structure"
  | 1 => .object "CoalitionChecker$Steps"
  | 2 => .object "CoalitionChecker$Meaning"
  | _ => .int
abbrev wsX80 : List Cond := u_ws RX8 TX8 4
theorem nmX8 : ∀ a, a < 4 → ∀ b, b < 4 → a ≠ b → (TX8 a).2.1 ≠ (TX8 b).2.1 := by decide +kernel
theorem tyX8_ok : ∀ k, k < 4 → parseFieldDescriptor (TX8 k).2.2.1 = some (tyX8 k) := by decide +kernel
abbrev cX8_init : ByteArray := prog_10_method_1_code
def yX8_init : MethodName := ⟨RX8, "<init>", "(LCoalitionChecker$Structure;LCoalitionChecker$Steps;LCoalitionChecker$Meaning;)V"⟩
abbrev cX8_prepare : ByteArray := prog_10_method_2_code
def yX8_prepare : MethodName := ⟨RX8, "prepare", "(LCoalitionChecker$Formula;)V"⟩
abbrev cX8_jointAt : ByteArray := prog_10_method_3_code
def yX8_jointAt : MethodName := ⟨RX8, "jointAt", "(LCoalitionChecker$Formula;I)I"⟩
abbrev cX8_follow : ByteArray := prog_10_method_4_code
def yX8_follow : MethodName := ⟨RX8, "follow", "(LCoalitionChecker$Formula;)I"⟩
abbrev cX8_run : ByteArray := prog_10_method_5_code
def yX8_run : MethodName := ⟨RX8, "run", "(IIII)I"⟩
abbrev cX8_fewest : ByteArray := prog_10_method_6_code
def yX8_fewest : MethodName := ⟨RX8, "fewest", "(LCoalitionChecker$Formula;I)I"⟩
abbrev cX8_nextSeed : ByteArray := prog_10_method_7_code
def yX8_nextSeed : MethodName := ⟨RX8, "nextSeed", "(I)I"⟩
def RX9 : String := "CoalitionChecker"
def TX9 : u_T := fun k => match k with
  | 0 => ("CoalitionChecker", "structure", "LCoalitionChecker$Structure;", true)
  | 1 => ("CoalitionChecker", "history", "LCoalitionChecker$History;", true)
  | 2 => ("CoalitionChecker", "steps", "LCoalitionChecker$Steps;", true)
  | 3 => ("CoalitionChecker", "reader", "LCoalitionChecker$Reader;", true)
  | 4 => ("CoalitionChecker", "meaning", "LCoalitionChecker$Meaning;", true)
  | 5 => ("CoalitionChecker", "tactics", "LCoalitionChecker$Tactics;", true)
  | 6 => ("CoalitionChecker", "likeness", "LCoalitionChecker$Likeness;", true)
  | 7 => ("CoalitionChecker", "kept", "[LCoalitionChecker$Formula;", true)
  | _ => ("CoalitionChecker", "keptCount", "I", false)
def tyX9 : Nat → FieldType := fun k => match k with
  | 0 => .object "CoalitionChecker$Structure"
  | 1 => .object "CoalitionChecker$History"
  | 2 => .object "CoalitionChecker$Steps"
  | 3 => .object "CoalitionChecker$Reader"
  | 4 => .object "CoalitionChecker$Meaning"
  | 5 => .object "CoalitionChecker$Tactics"
  | 6 => .object "CoalitionChecker$Likeness"
  | 7 => .array (.object "CoalitionChecker$Formula")
  | _ => .int
abbrev wsX90 : List Cond := u_ws RX9 TX9 9
theorem nmX9 : ∀ a, a < 9 → ∀ b, b < 9 → a ≠ b → (TX9 a).2.1 ≠ (TX9 b).2.1 := by decide +kernel
theorem tyX9_ok : ∀ k, k < 9 → parseFieldDescriptor (TX9 k).2.2.1 = some (tyX9 k) := by decide +kernel
abbrev cX9_init : ByteArray := prog_1_method_1_code
def yX9_init : MethodName := ⟨RX9, "<init>", "(I)V"⟩
abbrev cX9_agents : ByteArray := prog_1_method_2_code
def yX9_agents : MethodName := ⟨RX9, "agents", "()I"⟩
abbrev cX9_addState : ByteArray := prog_1_method_3_code
def yX9_addState : MethodName := ⟨RX9, "addState", "()I"⟩
abbrev cX9_states : ByteArray := prog_1_method_4_code
def yX9_states : MethodName := ⟨RX9, "states", "()I"⟩
abbrev cX9_setActions : ByteArray := prog_1_method_5_code
def yX9_setActions : MethodName := ⟨RX9, "setActions", "(III)I"⟩
abbrev cX9_actions : ByteArray := prog_1_method_6_code
def yX9_actions : MethodName := ⟨RX9, "actions", "(II)I"⟩
abbrev cX9_label : ByteArray := prog_1_method_7_code
def yX9_label : MethodName := ⟨RX9, "label", "(IIZ)I"⟩
abbrev cX9_labels : ByteArray := prog_1_method_8_code
def yX9_labels : MethodName := ⟨RX9, "labels", "(I)I"⟩
abbrev cX9_setMove : ByteArray := prog_1_method_9_code
def yX9_setMove : MethodName := ⟨RX9, "setMove", "(III)I"⟩
abbrev cX9_setAll : ByteArray := prog_1_method_10_code
def yX9_setAll : MethodName := ⟨RX9, "setAll", "(IIII)I"⟩
abbrev cX9_next : ByteArray := prog_1_method_11_code
def yX9_next : MethodName := ⟨RX9, "next", "(II)I"⟩
abbrev cX9_moves : ByteArray := prog_1_method_12_code
def yX9_moves : MethodName := ⟨RX9, "moves", "(I)I"⟩
abbrev cX9_force : ByteArray := prog_1_method_13_code
def yX9_force : MethodName := ⟨RX9, "force", "(III)I"⟩
abbrev cX9_reply : ByteArray := prog_1_method_14_code
def yX9_reply : MethodName := ⟨RX9, "reply", "(IIII)I"⟩
abbrev cX9_forced : ByteArray := prog_1_method_15_code
def yX9_forced : MethodName := ⟨RX9, "forced", "(II)I"⟩
abbrev cX9_type : ByteArray := prog_1_method_16_code
def yX9_type : MethodName := ⟨RX9, "type", "(I)I"⟩
abbrev cX9_read : ByteArray := prog_1_method_18_code
def yX9_read : MethodName := ⟨RX9, "read", "()I"⟩
abbrev cX9_forget : ByteArray := prog_1_method_19_code
def yX9_forget : MethodName := ⟨RX9, "forget", "()I"⟩
abbrev cX9_formulas : ByteArray := prog_1_method_20_code
def yX9_formulas : MethodName := ⟨RX9, "formulas", "()I"⟩
abbrev cX9_parts : ByteArray := prog_1_method_21_code
def yX9_parts : MethodName := ⟨RX9, "parts", "(I)I"⟩
abbrev cX9_where : ByteArray := prog_1_method_22_code
def yX9_where : MethodName := ⟨RX9, "where", "(II)I"⟩
abbrev cX9_holds : ByteArray := prog_1_method_23_code
def yX9_holds : MethodName := ⟨RX9, "holds", "(II)I"⟩
abbrev cX9_rank : ByteArray := prog_1_method_25_code
def yX9_rank : MethodName := ⟨RX9, "rank", "(II)I"⟩
abbrev cX9_strategy : ByteArray := prog_1_method_26_code
def yX9_strategy : MethodName := ⟨RX9, "strategy", "(II)I"⟩
abbrev cX9_plan : ByteArray := prog_1_method_27_code
def yX9_plan : MethodName := ⟨RX9, "plan", "(III)I"⟩
abbrev cX9_adopt : ByteArray := prog_1_method_28_code
def yX9_adopt : MethodName := ⟨RX9, "adopt", "(I)I"⟩
abbrev cX9_planned : ByteArray := prog_1_method_29_code
def yX9_planned : MethodName := ⟨RX9, "planned", "(II)I"⟩
abbrev cX9_enforced : ByteArray := prog_1_method_30_code
def yX9_enforced : MethodName := ⟨RX9, "enforced", "(I)I"⟩
abbrev cX9_play : ByteArray := prog_1_method_31_code
def yX9_play : MethodName := ⟨RX9, "play", "(IIII)I"⟩
abbrev cX9_smallest : ByteArray := prog_1_method_32_code
def yX9_smallest : MethodName := ⟨RX9, "smallest", "(II)I"⟩
abbrev cX9_classes : ByteArray := prog_1_method_33_code
def yX9_classes : MethodName := ⟨RX9, "classes", "()I"⟩
abbrev cX9_classOf : ByteArray := prog_1_method_34_code
def yX9_classOf : MethodName := ⟨RX9, "classOf", "(I)I"⟩
abbrev cX9_undo : ByteArray := prog_1_method_35_code
def yX9_undo : MethodName := ⟨RX9, "undo", "()I"⟩
abbrev cX9_fingerprint : ByteArray := prog_1_method_36_code
def yX9_fingerprint : MethodName := ⟨RX9, "fingerprint", "()J"⟩
abbrev cX9_isQuestion : ByteArray := prog_1_method_37_code
def yX9_isQuestion : MethodName := ⟨RX9, "isQuestion", "(II)Z"⟩
abbrev cX9_formulaOf : ByteArray := prog_1_method_38_code
def yX9_formulaOf : MethodName := ⟨RX9, "formulaOf", "(I)LCoalitionChecker$Formula;"⟩
def RX10 : String := "CoalitionCheckerModel"
def TX10 : u_T := fun k => match k with
  | _ => ("", "", "", false)
def tyX10 : Nat → FieldType := fun k => match k with
  | _ => .int
abbrev wsX100 : List Cond := u_ws RX10 TX10 0
theorem nmX10 : ∀ a, a < 0 → ∀ b, b < 0 → a ≠ b → (TX10 a).2.1 ≠ (TX10 b).2.1 := by decide +kernel
theorem tyX10_ok : ∀ k, k < 0 → parseFieldDescriptor (TX10 k).2.2.1 = some (tyX10 k) := by decide +kernel
def RJ6 : String := "java/lang/Integer"
abbrev cJ6_bitCount_0f7a4 : ByteArray := prog_13_method_49_code
def yJ6_bitCount_0f7a4 : MethodName := ⟨RJ6, "bitCount", "(I)I"⟩
def RL : String := "CoalitionCheckerLaw"
abbrev cL_cell : ByteArray := method_2_code
def yL_cell : MethodName := ⟨RL, "cell", "([II)I"⟩
abbrev cL_up : ByteArray := method_3_code
def yL_up : MethodName := ⟨RL, "up", "(II)I"⟩
abbrev cL_power : ByteArray := method_4_code
def yL_power : MethodName := ⟨RL, "power", "(I)I"⟩
abbrev cL_fails : ByteArray := method_5_code
def yL_fails : MethodName := ⟨RL, "fails", "(LCoalitionChecker;II)Z"⟩
abbrev cL_builds : ByteArray := method_6_code
def yL_builds : MethodName := ⟨RL, "builds", "(LCoalitionChecker;[III)Z"⟩
abbrev cL_steps : ByteArray := method_7_code
def yL_steps : MethodName := ⟨RL, "steps", "(LCoalitionChecker;III)Z"⟩
abbrev cL_reads : ByteArray := method_8_code
def yL_reads : MethodName := ⟨RL, "reads", "(LCoalitionChecker;III)I"⟩
abbrev cL_enforces : ByteArray := method_9_code
def yL_enforces : MethodName := ⟨RL, "enforces", "(LCoalitionChecker;IIIIII)Z"⟩
abbrev cL_undoes : ByteArray := method_10_code
def yL_undoes : MethodName := ⟨RL, "undoes", "(LCoalitionChecker;III)Z"⟩
abbrev cL_law : ByteArray := code
def yL_law : MethodName := ⟨RL, "law", "([I)Z"⟩
abbrev vwCl : List vw_C := [(RX0, TX0, 5), (RX1, TX1, 3), (RX2, TX2, 6), (RX3, TX3, 4), (RX4, TX4, 12), (RX6, TX6, 4), (RX7, TX7, 8), (RX8, TX8, 4), (RX9, TX9, 9)]
end
section
theorem dX0_init_0 : decode cX0_init 0 = .ok (.aload_n 0, 1) := by decide +kernel
theorem dX0_init_1 : decode cX0_init 1 = .ok (.invokespecial 3, 3) := by decide +kernel
theorem dX0_init_4 : decode cX0_init 4 = .ok (.aload_n 0, 1) := by decide +kernel
theorem dX0_init_5 : decode cX0_init 5 = .ok (.bipush 60, 2) := by decide +kernel
theorem dX0_init_7 : decode cX0_init 7 = .ok (.newarray .int, 2) := by decide +kernel
theorem dX0_init_9 : decode cX0_init 9 = .ok (.putfield 9, 3) := by decide +kernel
theorem dX0_init_12 : decode cX0_init 12 = .ok (.aload_n 0, 1) := by decide +kernel
theorem dX0_init_13 : decode cX0_init 13 = .ok (.bipush 60, 2) := by decide +kernel
theorem dX0_init_15 : decode cX0_init 15 = .ok (.newarray .int, 2) := by decide +kernel
theorem dX0_init_17 : decode cX0_init 17 = .ok (.putfield 15, 3) := by decide +kernel
theorem dX0_init_20 : decode cX0_init 20 = .ok (.aload_n 0, 1) := by decide +kernel
theorem dX0_init_21 : decode cX0_init 21 = .ok (.bipush 60, 2) := by decide +kernel
theorem dX0_init_23 : decode cX0_init 23 = .ok (.newarray .int, 2) := by decide +kernel
theorem dX0_init_25 : decode cX0_init 25 = .ok (.putfield 18, 3) := by decide +kernel
theorem dX0_init_28 : decode cX0_init 28 = .ok (.aload_n 0, 1) := by decide +kernel
theorem dX0_init_29 : decode cX0_init 29 = .ok (.bipush 60, 2) := by decide +kernel
theorem dX0_init_31 : decode cX0_init 31 = .ok (.newarray .int, 2) := by decide +kernel
theorem dX0_init_33 : decode cX0_init 33 = .ok (.putfield 21, 3) := by decide +kernel
theorem dX0_init_36 : decode cX0_init 36 = .ok (.aload_n 0, 1) := by decide +kernel
theorem dX0_init_37 : decode cX0_init 37 = .ok (.iconst 0, 1) := by decide +kernel
theorem dX0_init_38 : decode cX0_init 38 = .ok (.putfield 24, 3) := by decide +kernel
theorem dX0_init_41 : decode cX0_init 41 = .ok (.return_, 1) := by decide +kernel
theorem dX0_add_0 : decode cX0_add 0 = .ok (.aload_n 0, 1) := by decide +kernel
theorem dX0_add_1 : decode cX0_add 1 = .ok (.getfield 9, 3) := by decide +kernel
theorem dX0_add_4 : decode cX0_add 4 = .ok (.aload_n 0, 1) := by decide +kernel
theorem dX0_add_5 : decode cX0_add 5 = .ok (.getfield 24, 3) := by decide +kernel
theorem dX0_add_8 : decode cX0_add 8 = .ok (.iload_n 1, 1) := by decide +kernel
theorem dX0_add_9 : decode cX0_add 9 = .ok (.invokestatic 28, 3) := by decide +kernel
theorem dX0_add_12 : decode cX0_add 12 = .ok (.aload_n 0, 1) := by decide +kernel
theorem dX0_add_13 : decode cX0_add 13 = .ok (.getfield 21, 3) := by decide +kernel
theorem dX0_add_16 : decode cX0_add 16 = .ok (.aload_n 0, 1) := by decide +kernel
theorem dX0_add_17 : decode cX0_add 17 = .ok (.getfield 24, 3) := by decide +kernel
theorem dX0_add_20 : decode cX0_add 20 = .ok (.iload_n 2, 1) := by decide +kernel
theorem dX0_add_21 : decode cX0_add 21 = .ok (.invokestatic 28, 3) := by decide +kernel
theorem dX0_add_24 : decode cX0_add 24 = .ok (.aload_n 0, 1) := by decide +kernel
theorem dX0_add_25 : decode cX0_add 25 = .ok (.getfield 15, 3) := by decide +kernel
theorem dX0_add_28 : decode cX0_add 28 = .ok (.aload_n 0, 1) := by decide +kernel
theorem dX0_add_29 : decode cX0_add 29 = .ok (.getfield 24, 3) := by decide +kernel
theorem dX0_add_32 : decode cX0_add 32 = .ok (.iload_n 3, 1) := by decide +kernel
theorem dX0_add_33 : decode cX0_add 33 = .ok (.invokestatic 28, 3) := by decide +kernel
theorem dX0_add_36 : decode cX0_add 36 = .ok (.aload_n 0, 1) := by decide +kernel
theorem dX0_add_37 : decode cX0_add 37 = .ok (.getfield 18, 3) := by decide +kernel
theorem dX0_add_40 : decode cX0_add 40 = .ok (.aload_n 0, 1) := by decide +kernel
theorem dX0_add_41 : decode cX0_add 41 = .ok (.getfield 24, 3) := by decide +kernel
theorem dX0_add_44 : decode cX0_add 44 = .ok (.iload 4, 2) := by decide +kernel
theorem dX0_add_46 : decode cX0_add 46 = .ok (.invokestatic 28, 3) := by decide +kernel
theorem dX0_add_49 : decode cX0_add 49 = .ok (.aload_n 0, 1) := by decide +kernel
theorem dX0_add_50 : decode cX0_add 50 = .ok (.dup, 1) := by decide +kernel
theorem dX0_add_51 : decode cX0_add 51 = .ok (.getfield 24, 3) := by decide +kernel
theorem dX0_add_54 : decode cX0_add 54 = .ok (.iconst 1, 1) := by decide +kernel
theorem dX0_add_55 : decode cX0_add 55 = .ok (.iadd, 1) := by decide +kernel
theorem dX0_add_56 : decode cX0_add 56 = .ok (.putfield 24, 3) := by decide +kernel
theorem dX0_add_59 : decode cX0_add 59 = .ok (.aload_n 0, 1) := by decide +kernel
theorem dX0_add_60 : decode cX0_add 60 = .ok (.getfield 24, 3) := by decide +kernel
theorem dX0_add_63 : decode cX0_add 63 = .ok (.iconst 1, 1) := by decide +kernel
theorem dX0_add_64 : decode cX0_add 64 = .ok (.isub, 1) := by decide +kernel
theorem dX0_add_65 : decode cX0_add 65 = .ok (.ireturn, 1) := by decide +kernel
theorem dX0_kind_0 : decode cX0_kind 0 = .ok (.aload_n 0, 1) := by decide +kernel
theorem dX0_kind_1 : decode cX0_kind 1 = .ok (.getfield 9, 3) := by decide +kernel
theorem dX0_kind_4 : decode cX0_kind 4 = .ok (.iload_n 1, 1) := by decide +kernel
theorem dX0_kind_5 : decode cX0_kind 5 = .ok (.invokestatic 34, 3) := by decide +kernel
theorem dX0_kind_8 : decode cX0_kind 8 = .ok (.ireturn, 1) := by decide +kernel
theorem dX0_detail_0 : decode cX0_detail 0 = .ok (.aload_n 0, 1) := by decide +kernel
theorem dX0_detail_1 : decode cX0_detail 1 = .ok (.getfield 21, 3) := by decide +kernel
theorem dX0_detail_4 : decode cX0_detail 4 = .ok (.iload_n 1, 1) := by decide +kernel
theorem dX0_detail_5 : decode cX0_detail 5 = .ok (.invokestatic 34, 3) := by decide +kernel
theorem dX0_detail_8 : decode cX0_detail 8 = .ok (.ireturn, 1) := by decide +kernel
theorem dX0_first_0 : decode cX0_first 0 = .ok (.aload_n 0, 1) := by decide +kernel
theorem dX0_first_1 : decode cX0_first 1 = .ok (.getfield 15, 3) := by decide +kernel
theorem dX0_first_4 : decode cX0_first 4 = .ok (.iload_n 1, 1) := by decide +kernel
theorem dX0_first_5 : decode cX0_first 5 = .ok (.invokestatic 34, 3) := by decide +kernel
theorem dX0_first_8 : decode cX0_first 8 = .ok (.ireturn, 1) := by decide +kernel
theorem dX0_second_0 : decode cX0_second 0 = .ok (.aload_n 0, 1) := by decide +kernel
theorem dX0_second_1 : decode cX0_second 1 = .ok (.getfield 18, 3) := by decide +kernel
theorem dX0_second_4 : decode cX0_second 4 = .ok (.iload_n 1, 1) := by decide +kernel
theorem dX0_second_5 : decode cX0_second 5 = .ok (.invokestatic 34, 3) := by decide +kernel
theorem dX0_second_8 : decode cX0_second 8 = .ok (.ireturn, 1) := by decide +kernel
theorem dX0_topKind_0 : decode cX0_topKind 0 = .ok (.aload_n 0, 1) := by decide +kernel
theorem dX0_topKind_1 : decode cX0_topKind 1 = .ok (.aload_n 0, 1) := by decide +kernel
theorem dX0_topKind_2 : decode cX0_topKind 2 = .ok (.getfield 24, 3) := by decide +kernel
theorem dX0_topKind_5 : decode cX0_topKind 5 = .ok (.iconst 1, 1) := by decide +kernel
theorem dX0_topKind_6 : decode cX0_topKind 6 = .ok (.isub, 1) := by decide +kernel
theorem dX0_topKind_7 : decode cX0_topKind 7 = .ok (.invokevirtual 38, 3) := by decide +kernel
theorem dX0_topKind_10 : decode cX0_topKind 10 = .ok (.ireturn, 1) := by decide +kernel
theorem dX0_topCoalition_0 : decode cX0_topCoalition 0 = .ok (.aload_n 0, 1) := by decide +kernel
theorem dX0_topCoalition_1 : decode cX0_topCoalition 1 = .ok (.aload_n 0, 1) := by decide +kernel
theorem dX0_topCoalition_2 : decode cX0_topCoalition 2 = .ok (.getfield 24, 3) := by decide +kernel
theorem dX0_topCoalition_5 : decode cX0_topCoalition 5 = .ok (.iconst 1, 1) := by decide +kernel
theorem dX0_topCoalition_6 : decode cX0_topCoalition 6 = .ok (.isub, 1) := by decide +kernel
theorem dX0_topCoalition_7 : decode cX0_topCoalition 7 = .ok (.invokevirtual 42, 3) := by decide +kernel
theorem dX0_topCoalition_10 : decode cX0_topCoalition 10 = .ok (.ireturn, 1) := by decide +kernel
theorem dX0_hasStrategy_0 : decode cX0_hasStrategy 0 = .ok (.aload_n 0, 1) := by decide +kernel
theorem dX0_hasStrategy_1 : decode cX0_hasStrategy 1 = .ok (.invokevirtual 45, 3) := by decide +kernel
theorem dX0_hasStrategy_4 : decode cX0_hasStrategy 4 = .ok (.bipush 6, 2) := by decide +kernel
theorem dX0_hasStrategy_6 : decode cX0_hasStrategy 6 = .ok (.if_icmp .lt 16, 3) := by decide +kernel
theorem dX0_hasStrategy_9 : decode cX0_hasStrategy 9 = .ok (.aload_n 0, 1) := by decide +kernel
theorem dX0_hasStrategy_10 : decode cX0_hasStrategy 10 = .ok (.invokevirtual 45, 3) := by decide +kernel
theorem dX0_hasStrategy_13 : decode cX0_hasStrategy 13 = .ok (.bipush 9, 2) := by decide +kernel
theorem dX0_hasStrategy_15 : decode cX0_hasStrategy 15 = .ok (.if_icmp .gt 7, 3) := by decide +kernel
theorem dX0_hasStrategy_18 : decode cX0_hasStrategy 18 = .ok (.iconst 1, 1) := by decide +kernel
theorem dX0_hasStrategy_19 : decode cX0_hasStrategy 19 = .ok (.goto 4, 3) := by decide +kernel
theorem dX0_hasStrategy_22 : decode cX0_hasStrategy 22 = .ok (.iconst 0, 1) := by decide +kernel
theorem dX0_hasStrategy_23 : decode cX0_hasStrategy 23 = .ok (.ireturn, 1) := by decide +kernel
theorem dX1_init_0 : decode cX1_init 0 = .ok (.aload_n 0, 1) := by decide +kernel
theorem dX1_init_1 : decode cX1_init 1 = .ok (.invokespecial 3, 3) := by decide +kernel
theorem dX1_init_4 : decode cX1_init 4 = .ok (.aload_n 0, 1) := by decide +kernel
theorem dX1_init_5 : decode cX1_init 5 = .ok (.iconst 4, 1) := by decide +kernel
theorem dX1_init_6 : decode cX1_init 6 = .ok (.anewarray 9, 3) := by decide +kernel
theorem dX1_init_9 : decode cX1_init 9 = .ok (.putfield 11, 3) := by decide +kernel
theorem dX1_init_12 : decode cX1_init 12 = .ok (.aload_n 0, 1) := by decide +kernel
theorem dX1_init_13 : decode cX1_init 13 = .ok (.iconst 0, 1) := by decide +kernel
theorem dX1_init_14 : decode cX1_init 14 = .ok (.putfield 17, 3) := by decide +kernel
theorem dX1_init_17 : decode cX1_init 17 = .ok (.aload_n 0, 1) := by decide +kernel
theorem dX1_init_18 : decode cX1_init 18 = .ok (.iconst 0, 1) := by decide +kernel
theorem dX1_init_19 : decode cX1_init 19 = .ok (.putfield 21, 3) := by decide +kernel
theorem dX1_init_22 : decode cX1_init 22 = .ok (.iconst 0, 1) := by decide +kernel
theorem dX1_init_23 : decode cX1_init 23 = .ok (.istore_n 2, 1) := by decide +kernel
theorem dX1_init_24 : decode cX1_init 24 = .ok (.iload_n 2, 1) := by decide +kernel
theorem dX1_init_25 : decode cX1_init 25 = .ok (.aload_n 0, 1) := by decide +kernel
theorem dX1_init_26 : decode cX1_init 26 = .ok (.getfield 11, 3) := by decide +kernel
theorem dX1_init_29 : decode cX1_init 29 = .ok (.arraylength, 1) := by decide +kernel
theorem dX1_init_30 : decode cX1_init 30 = .ok (.if_icmp .ge 23, 3) := by decide +kernel
theorem dX1_init_33 : decode cX1_init 33 = .ok (.aload_n 0, 1) := by decide +kernel
theorem dX1_init_34 : decode cX1_init 34 = .ok (.getfield 11, 3) := by decide +kernel
theorem dX1_init_37 : decode cX1_init 37 = .ok (.iload_n 2, 1) := by decide +kernel
theorem dX1_init_38 : decode cX1_init 38 = .ok (.new 9, 3) := by decide +kernel
theorem dX1_init_41 : decode cX1_init 41 = .ok (.dup, 1) := by decide +kernel
theorem dX1_init_42 : decode cX1_init 42 = .ok (.iload_n 1, 1) := by decide +kernel
theorem dX1_init_43 : decode cX1_init 43 = .ok (.invokespecial 24, 3) := by decide +kernel
theorem dX1_init_46 : decode cX1_init 46 = .ok (.aastore, 1) := by decide +kernel
theorem dX1_init_47 : decode cX1_init 47 = .ok (.iinc 2 1, 3) := by decide +kernel
theorem dX1_init_50 : decode cX1_init 50 = .ok (.goto (-26), 3) := by decide +kernel
theorem dX1_init_53 : decode cX1_init 53 = .ok (.return_, 1) := by decide +kernel
theorem dX1_keep_0 : decode cX1_keep 0 = .ok (.aload_n 0, 1) := by decide +kernel
theorem dX1_keep_1 : decode cX1_keep 1 = .ok (.getfield 21, 3) := by decide +kernel
theorem dX1_keep_4 : decode cX1_keep 4 = .ok (.iconst 4, 1) := by decide +kernel
theorem dX1_keep_5 : decode cX1_keep 5 = .ok (.if_icmp .lt 25, 3) := by decide +kernel
theorem dX1_keep_8 : decode cX1_keep 8 = .ok (.aload_n 0, 1) := by decide +kernel
theorem dX1_keep_9 : decode cX1_keep 9 = .ok (.aload_n 0, 1) := by decide +kernel
theorem dX1_keep_10 : decode cX1_keep 10 = .ok (.getfield 17, 3) := by decide +kernel
theorem dX1_keep_13 : decode cX1_keep 13 = .ok (.iconst 1, 1) := by decide +kernel
theorem dX1_keep_14 : decode cX1_keep 14 = .ok (.iadd, 1) := by decide +kernel
theorem dX1_keep_15 : decode cX1_keep 15 = .ok (.iconst 4, 1) := by decide +kernel
theorem dX1_keep_16 : decode cX1_keep 16 = .ok (.irem, 1) := by decide +kernel
theorem dX1_keep_17 : decode cX1_keep 17 = .ok (.putfield 17, 3) := by decide +kernel
theorem dX1_keep_20 : decode cX1_keep 20 = .ok (.aload_n 0, 1) := by decide +kernel
theorem dX1_keep_21 : decode cX1_keep 21 = .ok (.dup, 1) := by decide +kernel
theorem dX1_keep_22 : decode cX1_keep 22 = .ok (.getfield 21, 3) := by decide +kernel
theorem dX1_keep_25 : decode cX1_keep 25 = .ok (.iconst 1, 1) := by decide +kernel
theorem dX1_keep_26 : decode cX1_keep 26 = .ok (.isub, 1) := by decide +kernel
theorem dX1_keep_27 : decode cX1_keep 27 = .ok (.putfield 21, 3) := by decide +kernel
theorem dX1_keep_30 : decode cX1_keep 30 = .ok (.aload_n 0, 1) := by decide +kernel
theorem dX1_keep_31 : decode cX1_keep 31 = .ok (.aload_n 0, 1) := by decide +kernel
theorem dX1_keep_32 : decode cX1_keep 32 = .ok (.getfield 21, 3) := by decide +kernel
theorem dX1_keep_35 : decode cX1_keep 35 = .ok (.invokevirtual 27, 3) := by decide +kernel
theorem dX1_keep_38 : decode cX1_keep 38 = .ok (.astore_n 2, 1) := by decide +kernel
theorem dX1_keep_39 : decode cX1_keep 39 = .ok (.aload_n 2, 1) := by decide +kernel
theorem dX1_keep_40 : decode cX1_keep 40 = .ok (.ifnull 18, 3) := by decide +kernel
theorem dX1_keep_43 : decode cX1_keep 43 = .ok (.aload_n 2, 1) := by decide +kernel
theorem dX1_keep_44 : decode cX1_keep 44 = .ok (.aload_n 1, 1) := by decide +kernel
theorem dX1_keep_45 : decode cX1_keep 45 = .ok (.invokevirtual 31, 3) := by decide +kernel
theorem dX1_keep_48 : decode cX1_keep 48 = .ok (.aload_n 0, 1) := by decide +kernel
theorem dX1_keep_49 : decode cX1_keep 49 = .ok (.dup, 1) := by decide +kernel
theorem dX1_keep_50 : decode cX1_keep 50 = .ok (.getfield 21, 3) := by decide +kernel
theorem dX1_keep_53 : decode cX1_keep 53 = .ok (.iconst 1, 1) := by decide +kernel
theorem dX1_keep_54 : decode cX1_keep 54 = .ok (.iadd, 1) := by decide +kernel
theorem dX1_keep_55 : decode cX1_keep 55 = .ok (.putfield 21, 3) := by decide +kernel
theorem dX1_keep_58 : decode cX1_keep 58 = .ok (.return_, 1) := by decide +kernel
theorem dX1_restore_0 : decode cX1_restore 0 = .ok (.aload_n 0, 1) := by decide +kernel
theorem dX1_restore_1 : decode cX1_restore 1 = .ok (.getfield 21, 3) := by decide +kernel
theorem dX1_restore_4 : decode cX1_restore 4 = .ok (.ifCond .le 16, 3) := by decide +kernel
theorem dX1_restore_7 : decode cX1_restore 7 = .ok (.aload_n 0, 1) := by decide +kernel
theorem dX1_restore_8 : decode cX1_restore 8 = .ok (.aload_n 0, 1) := by decide +kernel
theorem dX1_restore_9 : decode cX1_restore 9 = .ok (.getfield 21, 3) := by decide +kernel
theorem dX1_restore_12 : decode cX1_restore 12 = .ok (.iconst 1, 1) := by decide +kernel
theorem dX1_restore_13 : decode cX1_restore 13 = .ok (.isub, 1) := by decide +kernel
theorem dX1_restore_14 : decode cX1_restore 14 = .ok (.invokevirtual 27, 3) := by decide +kernel
theorem dX1_restore_17 : decode cX1_restore 17 = .ok (.goto 4, 3) := by decide +kernel
theorem dX1_restore_20 : decode cX1_restore 20 = .ok (.aconst_null, 1) := by decide +kernel
theorem dX1_restore_21 : decode cX1_restore 21 = .ok (.astore_n 2, 1) := by decide +kernel
theorem dX1_restore_22 : decode cX1_restore 22 = .ok (.aload_n 2, 1) := by decide +kernel
theorem dX1_restore_23 : decode cX1_restore 23 = .ok (.ifnonnull 5, 3) := by decide +kernel
theorem dX1_restore_26 : decode cX1_restore 26 = .ok (.iconst 0, 1) := by decide +kernel
theorem dX1_restore_27 : decode cX1_restore 27 = .ok (.ireturn, 1) := by decide +kernel
theorem dX1_restore_28 : decode cX1_restore 28 = .ok (.aload_n 1, 1) := by decide +kernel
theorem dX1_restore_29 : decode cX1_restore 29 = .ok (.aload_n 2, 1) := by decide +kernel
theorem dX1_restore_30 : decode cX1_restore 30 = .ok (.invokevirtual 31, 3) := by decide +kernel
theorem dX1_restore_33 : decode cX1_restore 33 = .ok (.aload_n 0, 1) := by decide +kernel
theorem dX1_restore_34 : decode cX1_restore 34 = .ok (.dup, 1) := by decide +kernel
theorem dX1_restore_35 : decode cX1_restore 35 = .ok (.getfield 21, 3) := by decide +kernel
theorem dX1_restore_38 : decode cX1_restore 38 = .ok (.iconst 1, 1) := by decide +kernel
theorem dX1_restore_39 : decode cX1_restore 39 = .ok (.isub, 1) := by decide +kernel
theorem dX1_restore_40 : decode cX1_restore 40 = .ok (.putfield 21, 3) := by decide +kernel
theorem dX1_restore_43 : decode cX1_restore 43 = .ok (.iconst 1, 1) := by decide +kernel
theorem dX1_restore_44 : decode cX1_restore 44 = .ok (.ireturn, 1) := by decide +kernel
theorem dX1_slotAt_0 : decode cX1_slotAt 0 = .ok (.aload_n 0, 1) := by decide +kernel
theorem dX1_slotAt_1 : decode cX1_slotAt 1 = .ok (.getfield 17, 3) := by decide +kernel
theorem dX1_slotAt_4 : decode cX1_slotAt 4 = .ok (.iload_n 1, 1) := by decide +kernel
theorem dX1_slotAt_5 : decode cX1_slotAt 5 = .ok (.iadd, 1) := by decide +kernel
theorem dX1_slotAt_6 : decode cX1_slotAt 6 = .ok (.iconst 4, 1) := by decide +kernel
theorem dX1_slotAt_7 : decode cX1_slotAt 7 = .ok (.irem, 1) := by decide +kernel
theorem dX1_slotAt_8 : decode cX1_slotAt 8 = .ok (.istore_n 2, 1) := by decide +kernel
theorem dX1_slotAt_9 : decode cX1_slotAt 9 = .ok (.iload_n 2, 1) := by decide +kernel
theorem dX1_slotAt_10 : decode cX1_slotAt 10 = .ok (.ifCond .lt 21, 3) := by decide +kernel
theorem dX1_slotAt_13 : decode cX1_slotAt 13 = .ok (.iload_n 2, 1) := by decide +kernel
theorem dX1_slotAt_14 : decode cX1_slotAt 14 = .ok (.aload_n 0, 1) := by decide +kernel
theorem dX1_slotAt_15 : decode cX1_slotAt 15 = .ok (.getfield 11, 3) := by decide +kernel
theorem dX1_slotAt_18 : decode cX1_slotAt 18 = .ok (.arraylength, 1) := by decide +kernel
theorem dX1_slotAt_19 : decode cX1_slotAt 19 = .ok (.if_icmp .ge 12, 3) := by decide +kernel
theorem dX1_slotAt_22 : decode cX1_slotAt 22 = .ok (.aload_n 0, 1) := by decide +kernel
theorem dX1_slotAt_23 : decode cX1_slotAt 23 = .ok (.getfield 11, 3) := by decide +kernel
theorem dX1_slotAt_26 : decode cX1_slotAt 26 = .ok (.iload_n 2, 1) := by decide +kernel
theorem dX1_slotAt_27 : decode cX1_slotAt 27 = .ok (.aaload, 1) := by decide +kernel
theorem dX1_slotAt_28 : decode cX1_slotAt 28 = .ok (.goto 4, 3) := by decide +kernel
theorem dX1_slotAt_31 : decode cX1_slotAt 31 = .ok (.aconst_null, 1) := by decide +kernel
theorem dX1_slotAt_32 : decode cX1_slotAt 32 = .ok (.areturn, 1) := by decide +kernel
theorem dX2_init_0 : decode cX2_init 0 = .ok (.aload_n 0, 1) := by decide +kernel
theorem dX2_init_1 : decode cX2_init 1 = .ok (.invokespecial 3, 3) := by decide +kernel
theorem dX2_init_4 : decode cX2_init 4 = .ok (.aload_n 0, 1) := by decide +kernel
theorem dX2_init_5 : decode cX2_init 5 = .ok (.bipush 12, 2) := by decide +kernel
theorem dX2_init_7 : decode cX2_init 7 = .ok (.newarray .int, 2) := by decide +kernel
theorem dX2_init_9 : decode cX2_init 9 = .ok (.putfield 9, 3) := by decide +kernel
theorem dX2_init_12 : decode cX2_init 12 = .ok (.aload_n 0, 1) := by decide +kernel
theorem dX2_init_13 : decode cX2_init 13 = .ok (.bipush 12, 2) := by decide +kernel
theorem dX2_init_15 : decode cX2_init 15 = .ok (.newarray .int, 2) := by decide +kernel
theorem dX2_init_17 : decode cX2_init 17 = .ok (.putfield 15, 3) := by decide +kernel
theorem dX2_init_20 : decode cX2_init 20 = .ok (.aload_n 0, 1) := by decide +kernel
theorem dX2_init_21 : decode cX2_init 21 = .ok (.bipush 81, 2) := by decide +kernel
theorem dX2_init_23 : decode cX2_init 23 = .ok (.newarray .int, 2) := by decide +kernel
theorem dX2_init_25 : decode cX2_init 25 = .ok (.putfield 18, 3) := by decide +kernel
theorem dX2_init_28 : decode cX2_init 28 = .ok (.aload_n 0, 1) := by decide +kernel
theorem dX2_init_29 : decode cX2_init 29 = .ok (.bipush 81, 2) := by decide +kernel
theorem dX2_init_31 : decode cX2_init 31 = .ok (.newarray .int, 2) := by decide +kernel
theorem dX2_init_33 : decode cX2_init 33 = .ok (.putfield 21, 3) := by decide +kernel
theorem dX2_init_36 : decode cX2_init 36 = .ok (.aload_n 0, 1) := by decide +kernel
theorem dX2_init_37 : decode cX2_init 37 = .ok (.aload_n 1, 1) := by decide +kernel
theorem dX2_init_38 : decode cX2_init 38 = .ok (.putfield 24, 3) := by decide +kernel
theorem dX2_init_41 : decode cX2_init 41 = .ok (.aload_n 0, 1) := by decide +kernel
theorem dX2_init_42 : decode cX2_init 42 = .ok (.aload_n 2, 1) := by decide +kernel
theorem dX2_init_43 : decode cX2_init 43 = .ok (.putfield 28, 3) := by decide +kernel
theorem dX2_init_46 : decode cX2_init 46 = .ok (.return_, 1) := by decide +kernel
theorem dX2_classNumber_0 : decode cX2_classNumber 0 = .ok (.aload_n 0, 1) := by decide +kernel
theorem dX2_classNumber_1 : decode cX2_classNumber 1 = .ok (.getfield 9, 3) := by decide +kernel
theorem dX2_classNumber_4 : decode cX2_classNumber 4 = .ok (.iload_n 1, 1) := by decide +kernel
theorem dX2_classNumber_5 : decode cX2_classNumber 5 = .ok (.invokestatic 32, 3) := by decide +kernel
theorem dX2_classNumber_8 : decode cX2_classNumber 8 = .ok (.ireturn, 1) := by decide +kernel
theorem dX2_divide_0 : decode cX2_divide 0 = .ok (.iconst 0, 1) := by decide +kernel
theorem dX2_divide_1 : decode cX2_divide 1 = .ok (.istore_n 1, 1) := by decide +kernel
theorem dX2_divide_2 : decode cX2_divide 2 = .ok (.iload_n 1, 1) := by decide +kernel
theorem dX2_divide_3 : decode cX2_divide 3 = .ok (.bipush 12, 2) := by decide +kernel
theorem dX2_divide_5 : decode cX2_divide 5 = .ok (.if_icmp .ge 18, 3) := by decide +kernel
theorem dX2_divide_8 : decode cX2_divide 8 = .ok (.aload_n 0, 1) := by decide +kernel
theorem dX2_divide_9 : decode cX2_divide 9 = .ok (.getfield 9, 3) := by decide +kernel
theorem dX2_divide_12 : decode cX2_divide 12 = .ok (.iload_n 1, 1) := by decide +kernel
theorem dX2_divide_13 : decode cX2_divide 13 = .ok (.iconst 0, 1) := by decide +kernel
theorem dX2_divide_14 : decode cX2_divide 14 = .ok (.invokestatic 38, 3) := by decide +kernel
theorem dX2_divide_17 : decode cX2_divide 17 = .ok (.iinc 1 1, 3) := by decide +kernel
theorem dX2_divide_20 : decode cX2_divide 20 = .ok (.goto (-18), 3) := by decide +kernel
theorem dX2_divide_23 : decode cX2_divide 23 = .ok (.iconst 1, 1) := by decide +kernel
theorem dX2_divide_24 : decode cX2_divide 24 = .ok (.aload_n 0, 1) := by decide +kernel
theorem dX2_divide_25 : decode cX2_divide 25 = .ok (.getfield 24, 3) := by decide +kernel
theorem dX2_divide_28 : decode cX2_divide 28 = .ok (.getfield 42, 3) := by decide +kernel
theorem dX2_divide_31 : decode cX2_divide 31 = .ok (.invokestatic 48, 3) := by decide +kernel
theorem dX2_divide_34 : decode cX2_divide 34 = .ok (.istore_n 1, 1) := by decide +kernel
theorem dX2_divide_35 : decode cX2_divide 35 = .ok (.iconst 0, 1) := by decide +kernel
theorem dX2_divide_36 : decode cX2_divide 36 = .ok (.istore_n 2, 1) := by decide +kernel
theorem dX2_divide_37 : decode cX2_divide 37 = .ok (.iload_n 2, 1) := by decide +kernel
theorem dX2_divide_38 : decode cX2_divide 38 = .ok (.bipush 12, 2) := by decide +kernel
theorem dX2_divide_40 : decode cX2_divide 40 = .ok (.if_icmp .gt 35, 3) := by decide +kernel
theorem dX2_divide_43 : decode cX2_divide 43 = .ok (.aload_n 0, 1) := by decide +kernel
theorem dX2_divide_44 : decode cX2_divide 44 = .ok (.invokevirtual 54, 3) := by decide +kernel
theorem dX2_divide_47 : decode cX2_divide 47 = .ok (.istore_n 3, 1) := by decide +kernel
theorem dX2_divide_48 : decode cX2_divide 48 = .ok (.aload_n 0, 1) := by decide +kernel
theorem dX2_divide_49 : decode cX2_divide 49 = .ok (.getfield 15, 3) := by decide +kernel
theorem dX2_divide_52 : decode cX2_divide 52 = .ok (.aload_n 0, 1) := by decide +kernel
theorem dX2_divide_53 : decode cX2_divide 53 = .ok (.getfield 9, 3) := by decide +kernel
theorem dX2_divide_56 : decode cX2_divide 56 = .ok (.invokestatic 58, 3) := by decide +kernel
theorem dX2_divide_59 : decode cX2_divide 59 = .ok (.iload_n 3, 1) := by decide +kernel
theorem dX2_divide_60 : decode cX2_divide 60 = .ok (.iload_n 1, 1) := by decide +kernel
theorem dX2_divide_61 : decode cX2_divide 61 = .ok (.if_icmp .ne 6, 3) := by decide +kernel
theorem dX2_divide_64 : decode cX2_divide 64 = .ok (.goto 11, 3) := by decide +kernel
theorem dX2_divide_67 : decode cX2_divide 67 = .ok (.iload_n 3, 1) := by decide +kernel
theorem dX2_divide_68 : decode cX2_divide 68 = .ok (.istore_n 1, 1) := by decide +kernel
theorem dX2_divide_69 : decode cX2_divide 69 = .ok (.iinc 2 1, 3) := by decide +kernel
theorem dX2_divide_72 : decode cX2_divide 72 = .ok (.goto (-35), 3) := by decide +kernel
theorem dX2_divide_75 : decode cX2_divide 75 = .ok (.iload_n 1, 1) := by decide +kernel
theorem dX2_divide_76 : decode cX2_divide 76 = .ok (.ireturn, 1) := by decide +kernel
theorem dX2_refine_0 : decode cX2_refine 0 = .ok (.iconst 0, 1) := by decide +kernel
theorem dX2_refine_1 : decode cX2_refine 1 = .ok (.istore_n 1, 1) := by decide +kernel
theorem dX2_refine_2 : decode cX2_refine 2 = .ok (.iconst 0, 1) := by decide +kernel
theorem dX2_refine_3 : decode cX2_refine 3 = .ok (.istore_n 2, 1) := by decide +kernel
theorem dX2_refine_4 : decode cX2_refine 4 = .ok (.iload_n 2, 1) := by decide +kernel
theorem dX2_refine_5 : decode cX2_refine 5 = .ok (.aload_n 0, 1) := by decide +kernel
theorem dX2_refine_6 : decode cX2_refine 6 = .ok (.getfield 24, 3) := by decide +kernel
theorem dX2_refine_9 : decode cX2_refine 9 = .ok (.getfield 42, 3) := by decide +kernel
theorem dX2_refine_12 : decode cX2_refine 12 = .ok (.if_icmp .ge 51, 3) := by decide +kernel
theorem dX2_refine_15 : decode cX2_refine 15 = .ok (.aload_n 0, 1) := by decide +kernel
theorem dX2_refine_16 : decode cX2_refine 16 = .ok (.iload_n 2, 1) := by decide +kernel
theorem dX2_refine_17 : decode cX2_refine 17 = .ok (.invokevirtual 62, 3) := by decide +kernel
theorem dX2_refine_20 : decode cX2_refine 20 = .ok (.istore_n 3, 1) := by decide +kernel
theorem dX2_refine_21 : decode cX2_refine 21 = .ok (.iload_n 3, 1) := by decide +kernel
theorem dX2_refine_22 : decode cX2_refine 22 = .ok (.iload_n 2, 1) := by decide +kernel
theorem dX2_refine_23 : decode cX2_refine 23 = .ok (.if_icmp .ge 22, 3) := by decide +kernel
theorem dX2_refine_26 : decode cX2_refine 26 = .ok (.aload_n 0, 1) := by decide +kernel
theorem dX2_refine_27 : decode cX2_refine 27 = .ok (.getfield 15, 3) := by decide +kernel
theorem dX2_refine_30 : decode cX2_refine 30 = .ok (.iload_n 2, 1) := by decide +kernel
theorem dX2_refine_31 : decode cX2_refine 31 = .ok (.aload_n 0, 1) := by decide +kernel
theorem dX2_refine_32 : decode cX2_refine 32 = .ok (.getfield 15, 3) := by decide +kernel
theorem dX2_refine_35 : decode cX2_refine 35 = .ok (.iload_n 3, 1) := by decide +kernel
theorem dX2_refine_36 : decode cX2_refine 36 = .ok (.invokestatic 32, 3) := by decide +kernel
theorem dX2_refine_39 : decode cX2_refine 39 = .ok (.invokestatic 38, 3) := by decide +kernel
theorem dX2_refine_42 : decode cX2_refine 42 = .ok (.goto 15, 3) := by decide +kernel
theorem dX2_refine_45 : decode cX2_refine 45 = .ok (.aload_n 0, 1) := by decide +kernel
theorem dX2_refine_46 : decode cX2_refine 46 = .ok (.getfield 15, 3) := by decide +kernel
theorem dX2_refine_49 : decode cX2_refine 49 = .ok (.iload_n 2, 1) := by decide +kernel
theorem dX2_refine_50 : decode cX2_refine 50 = .ok (.iload_n 1, 1) := by decide +kernel
theorem dX2_refine_51 : decode cX2_refine 51 = .ok (.invokestatic 38, 3) := by decide +kernel
theorem dX2_refine_54 : decode cX2_refine 54 = .ok (.iinc 1 1, 3) := by decide +kernel
theorem dX2_refine_57 : decode cX2_refine 57 = .ok (.iinc 2 1, 3) := by decide +kernel
theorem dX2_refine_60 : decode cX2_refine 60 = .ok (.goto (-56), 3) := by decide +kernel
theorem dX2_refine_63 : decode cX2_refine 63 = .ok (.iload_n 1, 1) := by decide +kernel
theorem dX2_refine_64 : decode cX2_refine 64 = .ok (.ireturn, 1) := by decide +kernel
theorem dX2_firstLike_0 : decode cX2_firstLike 0 = .ok (.iconst 0, 1) := by decide +kernel
theorem dX2_firstLike_1 : decode cX2_firstLike 1 = .ok (.istore_n 2, 1) := by decide +kernel
theorem dX2_firstLike_2 : decode cX2_firstLike 2 = .ok (.iload_n 2, 1) := by decide +kernel
theorem dX2_firstLike_3 : decode cX2_firstLike 3 = .ok (.iload_n 1, 1) := by decide +kernel
theorem dX2_firstLike_4 : decode cX2_firstLike 4 = .ok (.if_icmp .ge 52, 3) := by decide +kernel
theorem dX2_firstLike_7 : decode cX2_firstLike 7 = .ok (.aload_n 0, 1) := by decide +kernel
theorem dX2_firstLike_8 : decode cX2_firstLike 8 = .ok (.iload_n 2, 1) := by decide +kernel
theorem dX2_firstLike_9 : decode cX2_firstLike 9 = .ok (.invokevirtual 66, 3) := by decide +kernel
theorem dX2_firstLike_12 : decode cX2_firstLike 12 = .ok (.aload_n 0, 1) := by decide +kernel
theorem dX2_firstLike_13 : decode cX2_firstLike 13 = .ok (.iload_n 1, 1) := by decide +kernel
theorem dX2_firstLike_14 : decode cX2_firstLike 14 = .ok (.invokevirtual 66, 3) := by decide +kernel
theorem dX2_firstLike_17 : decode cX2_firstLike 17 = .ok (.if_icmp .ne 33, 3) := by decide +kernel
theorem dX2_firstLike_20 : decode cX2_firstLike 20 = .ok (.aload_n 0, 1) := by decide +kernel
theorem dX2_firstLike_21 : decode cX2_firstLike 21 = .ok (.getfield 24, 3) := by decide +kernel
theorem dX2_firstLike_24 : decode cX2_firstLike 24 = .ok (.iload_n 2, 1) := by decide +kernel
theorem dX2_firstLike_25 : decode cX2_firstLike 25 = .ok (.invokevirtual 69, 3) := by decide +kernel
theorem dX2_firstLike_28 : decode cX2_firstLike 28 = .ok (.aload_n 0, 1) := by decide +kernel
theorem dX2_firstLike_29 : decode cX2_firstLike 29 = .ok (.getfield 24, 3) := by decide +kernel
theorem dX2_firstLike_32 : decode cX2_firstLike 32 = .ok (.iload_n 1, 1) := by decide +kernel
theorem dX2_firstLike_33 : decode cX2_firstLike 33 = .ok (.invokevirtual 69, 3) := by decide +kernel
theorem dX2_firstLike_36 : decode cX2_firstLike 36 = .ok (.if_icmp .ne 14, 3) := by decide +kernel
theorem dX2_firstLike_39 : decode cX2_firstLike 39 = .ok (.aload_n 0, 1) := by decide +kernel
theorem dX2_firstLike_40 : decode cX2_firstLike 40 = .ok (.iload_n 2, 1) := by decide +kernel
theorem dX2_firstLike_41 : decode cX2_firstLike 41 = .ok (.iload_n 1, 1) := by decide +kernel
theorem dX2_firstLike_42 : decode cX2_firstLike 42 = .ok (.invokevirtual 72, 3) := by decide +kernel
theorem dX2_firstLike_45 : decode cX2_firstLike 45 = .ok (.ifCond .eq 5, 3) := by decide +kernel
theorem dX2_firstLike_48 : decode cX2_firstLike 48 = .ok (.iload_n 2, 1) := by decide +kernel
theorem dX2_firstLike_49 : decode cX2_firstLike 49 = .ok (.ireturn, 1) := by decide +kernel
theorem dX2_firstLike_50 : decode cX2_firstLike 50 = .ok (.iinc 2 1, 3) := by decide +kernel
theorem dX2_firstLike_53 : decode cX2_firstLike 53 = .ok (.goto (-51), 3) := by decide +kernel
theorem dX2_firstLike_56 : decode cX2_firstLike 56 = .ok (.iload_n 1, 1) := by decide +kernel
theorem dX2_firstLike_57 : decode cX2_firstLike 57 = .ok (.ireturn, 1) := by decide +kernel
theorem dX2_areAlike_0 : decode cX2_areAlike 0 = .ok (.iconst 0, 1) := by decide +kernel
theorem dX2_areAlike_1 : decode cX2_areAlike 1 = .ok (.istore_n 3, 1) := by decide +kernel
theorem dX2_areAlike_2 : decode cX2_areAlike 2 = .ok (.iload_n 3, 1) := by decide +kernel
theorem dX2_areAlike_3 : decode cX2_areAlike 3 = .ok (.aload_n 0, 1) := by decide +kernel
theorem dX2_areAlike_4 : decode cX2_areAlike 4 = .ok (.getfield 24, 3) := by decide +kernel
theorem dX2_areAlike_7 : decode cX2_areAlike 7 = .ok (.getfield 76, 3) := by decide +kernel
theorem dX2_areAlike_10 : decode cX2_areAlike 10 = .ok (.if_icmp .ge 75, 3) := by decide +kernel
theorem dX2_areAlike_13 : decode cX2_areAlike 13 = .ok (.aload_n 0, 1) := by decide +kernel
theorem dX2_areAlike_14 : decode cX2_areAlike 14 = .ok (.getfield 28, 3) := by decide +kernel
theorem dX2_areAlike_17 : decode cX2_areAlike 17 = .ok (.iload_n 3, 1) := by decide +kernel
theorem dX2_areAlike_18 : decode cX2_areAlike 18 = .ok (.iload_n 1, 1) := by decide +kernel
theorem dX2_areAlike_19 : decode cX2_areAlike 19 = .ok (.aload_n 0, 1) := by decide +kernel
theorem dX2_areAlike_20 : decode cX2_areAlike 20 = .ok (.getfield 9, 3) := by decide +kernel
theorem dX2_areAlike_23 : decode cX2_areAlike 23 = .ok (.aload_n 0, 1) := by decide +kernel
theorem dX2_areAlike_24 : decode cX2_areAlike 24 = .ok (.getfield 18, 3) := by decide +kernel
theorem dX2_areAlike_27 : decode cX2_areAlike 27 = .ok (.invokevirtual 79, 3) := by decide +kernel
theorem dX2_areAlike_30 : decode cX2_areAlike 30 = .ok (.aload_n 0, 1) := by decide +kernel
theorem dX2_areAlike_31 : decode cX2_areAlike 31 = .ok (.getfield 28, 3) := by decide +kernel
theorem dX2_areAlike_34 : decode cX2_areAlike 34 = .ok (.iload_n 3, 1) := by decide +kernel
theorem dX2_areAlike_35 : decode cX2_areAlike 35 = .ok (.iload_n 2, 1) := by decide +kernel
theorem dX2_areAlike_36 : decode cX2_areAlike 36 = .ok (.aload_n 0, 1) := by decide +kernel
theorem dX2_areAlike_37 : decode cX2_areAlike 37 = .ok (.getfield 9, 3) := by decide +kernel
theorem dX2_areAlike_40 : decode cX2_areAlike 40 = .ok (.aload_n 0, 1) := by decide +kernel
theorem dX2_areAlike_41 : decode cX2_areAlike 41 = .ok (.getfield 21, 3) := by decide +kernel
theorem dX2_areAlike_44 : decode cX2_areAlike 44 = .ok (.invokevirtual 79, 3) := by decide +kernel
theorem dX2_areAlike_47 : decode cX2_areAlike 47 = .ok (.aload_n 0, 1) := by decide +kernel
theorem dX2_areAlike_48 : decode cX2_areAlike 48 = .ok (.aload_n 0, 1) := by decide +kernel
theorem dX2_areAlike_49 : decode cX2_areAlike 49 = .ok (.getfield 18, 3) := by decide +kernel
theorem dX2_areAlike_52 : decode cX2_areAlike 52 = .ok (.aload_n 0, 1) := by decide +kernel
theorem dX2_areAlike_53 : decode cX2_areAlike 53 = .ok (.getfield 21, 3) := by decide +kernel
theorem dX2_areAlike_56 : decode cX2_areAlike 56 = .ok (.invokevirtual 85, 3) := by decide +kernel
theorem dX2_areAlike_59 : decode cX2_areAlike 59 = .ok (.ifCond .eq 18, 3) := by decide +kernel
theorem dX2_areAlike_62 : decode cX2_areAlike 62 = .ok (.aload_n 0, 1) := by decide +kernel
theorem dX2_areAlike_63 : decode cX2_areAlike 63 = .ok (.aload_n 0, 1) := by decide +kernel
theorem dX2_areAlike_64 : decode cX2_areAlike 64 = .ok (.getfield 21, 3) := by decide +kernel
theorem dX2_areAlike_67 : decode cX2_areAlike 67 = .ok (.aload_n 0, 1) := by decide +kernel
theorem dX2_areAlike_68 : decode cX2_areAlike 68 = .ok (.getfield 18, 3) := by decide +kernel
theorem dX2_areAlike_71 : decode cX2_areAlike 71 = .ok (.invokevirtual 85, 3) := by decide +kernel
theorem dX2_areAlike_74 : decode cX2_areAlike 74 = .ok (.ifCond .ne 5, 3) := by decide +kernel
theorem dX2_areAlike_77 : decode cX2_areAlike 77 = .ok (.iconst 0, 1) := by decide +kernel
theorem dX2_areAlike_78 : decode cX2_areAlike 78 = .ok (.ireturn, 1) := by decide +kernel
theorem dX2_areAlike_79 : decode cX2_areAlike 79 = .ok (.iinc 3 1, 3) := by decide +kernel
theorem dX2_areAlike_82 : decode cX2_areAlike 82 = .ok (.goto (-80), 3) := by decide +kernel
theorem dX2_areAlike_85 : decode cX2_areAlike 85 = .ok (.iconst 1, 1) := by decide +kernel
theorem dX2_areAlike_86 : decode cX2_areAlike 86 = .ok (.ireturn, 1) := by decide +kernel
theorem dX2_answers_0 : decode cX2_answers 0 = .ok (.iconst 0, 1) := by decide +kernel
theorem dX2_answers_1 : decode cX2_answers 1 = .ok (.istore_n 3, 1) := by decide +kernel
theorem dX2_answers_2 : decode cX2_answers 2 = .ok (.iload_n 3, 1) := by decide +kernel
theorem dX2_answers_3 : decode cX2_answers 3 = .ok (.aload_n 0, 1) := by decide +kernel
theorem dX2_answers_4 : decode cX2_answers 4 = .ok (.getfield 24, 3) := by decide +kernel
theorem dX2_answers_7 : decode cX2_answers 7 = .ok (.getfield 89, 3) := by decide +kernel
theorem dX2_answers_10 : decode cX2_answers 10 = .ok (.if_icmp .ge 33, 3) := by decide +kernel
theorem dX2_answers_13 : decode cX2_answers 13 = .ok (.aload_n 1, 1) := by decide +kernel
theorem dX2_answers_14 : decode cX2_answers 14 = .ok (.iload_n 3, 1) := by decide +kernel
theorem dX2_answers_15 : decode cX2_answers 15 = .ok (.invokestatic 32, 3) := by decide +kernel
theorem dX2_answers_18 : decode cX2_answers 18 = .ok (.istore 4, 2) := by decide +kernel
theorem dX2_answers_20 : decode cX2_answers 20 = .ok (.iload 4, 2) := by decide +kernel
theorem dX2_answers_22 : decode cX2_answers 22 = .ok (.ifCond .eq 15, 3) := by decide +kernel
theorem dX2_answers_25 : decode cX2_answers 25 = .ok (.aload_n 0, 1) := by decide +kernel
theorem dX2_answers_26 : decode cX2_answers 26 = .ok (.aload_n 2, 1) := by decide +kernel
theorem dX2_answers_27 : decode cX2_answers 27 = .ok (.iload 4, 2) := by decide +kernel
theorem dX2_answers_29 : decode cX2_answers 29 = .ok (.invokevirtual 92, 3) := by decide +kernel
theorem dX2_answers_32 : decode cX2_answers 32 = .ok (.ifCond .ne 5, 3) := by decide +kernel
theorem dX2_answers_35 : decode cX2_answers 35 = .ok (.iconst 0, 1) := by decide +kernel
theorem dX2_answers_36 : decode cX2_answers 36 = .ok (.ireturn, 1) := by decide +kernel
theorem dX2_answers_37 : decode cX2_answers 37 = .ok (.iinc 3 1, 3) := by decide +kernel
theorem dX2_answers_40 : decode cX2_answers 40 = .ok (.goto (-38), 3) := by decide +kernel
theorem dX2_answers_43 : decode cX2_answers 43 = .ok (.iconst 1, 1) := by decide +kernel
theorem dX2_answers_44 : decode cX2_answers 44 = .ok (.ireturn, 1) := by decide +kernel
theorem dX2_hasWithin_0 : decode cX2_hasWithin 0 = .ok (.iconst 0, 1) := by decide +kernel
theorem dX2_hasWithin_1 : decode cX2_hasWithin 1 = .ok (.istore_n 3, 1) := by decide +kernel
theorem dX2_hasWithin_2 : decode cX2_hasWithin 2 = .ok (.iload_n 3, 1) := by decide +kernel
theorem dX2_hasWithin_3 : decode cX2_hasWithin 3 = .ok (.aload_n 0, 1) := by decide +kernel
theorem dX2_hasWithin_4 : decode cX2_hasWithin 4 = .ok (.getfield 24, 3) := by decide +kernel
theorem dX2_hasWithin_7 : decode cX2_hasWithin 7 = .ok (.getfield 89, 3) := by decide +kernel
theorem dX2_hasWithin_10 : decode cX2_hasWithin 10 = .ok (.if_icmp .ge 23, 3) := by decide +kernel
theorem dX2_hasWithin_13 : decode cX2_hasWithin 13 = .ok (.aload_n 1, 1) := by decide +kernel
theorem dX2_hasWithin_14 : decode cX2_hasWithin 14 = .ok (.iload_n 3, 1) := by decide +kernel
theorem dX2_hasWithin_15 : decode cX2_hasWithin 15 = .ok (.invokestatic 32, 3) := by decide +kernel
theorem dX2_hasWithin_18 : decode cX2_hasWithin 18 = .ok (.iload_n 2, 1) := by decide +kernel
theorem dX2_hasWithin_19 : decode cX2_hasWithin 19 = .ok (.invokestatic 96, 3) := by decide +kernel
theorem dX2_hasWithin_22 : decode cX2_hasWithin 22 = .ok (.ifCond .eq 5, 3) := by decide +kernel
theorem dX2_hasWithin_25 : decode cX2_hasWithin 25 = .ok (.iconst 1, 1) := by decide +kernel
theorem dX2_hasWithin_26 : decode cX2_hasWithin 26 = .ok (.ireturn, 1) := by decide +kernel
theorem dX2_hasWithin_27 : decode cX2_hasWithin 27 = .ok (.iinc 3 1, 3) := by decide +kernel
theorem dX2_hasWithin_30 : decode cX2_hasWithin 30 = .ok (.goto (-28), 3) := by decide +kernel
theorem dX2_hasWithin_33 : decode cX2_hasWithin 33 = .ok (.iconst 0, 1) := by decide +kernel
theorem dX2_hasWithin_34 : decode cX2_hasWithin 34 = .ok (.ireturn, 1) := by decide +kernel
theorem dX3_init_0 : decode cX3_init 0 = .ok (.aload_n 0, 1) := by decide +kernel
theorem dX3_init_1 : decode cX3_init 1 = .ok (.invokespecial 3, 3) := by decide +kernel
theorem dX3_init_4 : decode cX3_init 4 = .ok (.aload_n 0, 1) := by decide +kernel
theorem dX3_init_5 : decode cX3_init 5 = .ok (.bipush 60, 2) := by decide +kernel
theorem dX3_init_7 : decode cX3_init 7 = .ok (.newarray .int, 2) := by decide +kernel
theorem dX3_init_9 : decode cX3_init 9 = .ok (.putfield 9, 3) := by decide +kernel
theorem dX3_init_12 : decode cX3_init 12 = .ok (.aload_n 0, 1) := by decide +kernel
theorem dX3_init_13 : decode cX3_init 13 = .ok (.bipush 12, 2) := by decide +kernel
theorem dX3_init_15 : decode cX3_init 15 = .ok (.newarray .int, 2) := by decide +kernel
theorem dX3_init_17 : decode cX3_init 17 = .ok (.putfield 15, 3) := by decide +kernel
theorem dX3_init_20 : decode cX3_init 20 = .ok (.aload_n 0, 1) := by decide +kernel
theorem dX3_init_21 : decode cX3_init 21 = .ok (.aload_n 1, 1) := by decide +kernel
theorem dX3_init_22 : decode cX3_init 22 = .ok (.putfield 18, 3) := by decide +kernel
theorem dX3_init_25 : decode cX3_init 25 = .ok (.aload_n 0, 1) := by decide +kernel
theorem dX3_init_26 : decode cX3_init 26 = .ok (.aload_n 2, 1) := by decide +kernel
theorem dX3_init_27 : decode cX3_init 27 = .ok (.putfield 22, 3) := by decide +kernel
theorem dX3_init_30 : decode cX3_init 30 = .ok (.return_, 1) := by decide +kernel
theorem dX3_look_0 : decode cX3_look 0 = .ok (.iconst 0, 1) := by decide +kernel
theorem dX3_look_1 : decode cX3_look 1 = .ok (.istore_n 2, 1) := by decide +kernel
theorem dX3_look_2 : decode cX3_look 2 = .ok (.iload_n 2, 1) := by decide +kernel
theorem dX3_look_3 : decode cX3_look 3 = .ok (.aload_n 1, 1) := by decide +kernel
theorem dX3_look_4 : decode cX3_look 4 = .ok (.getfield 26, 3) := by decide +kernel
theorem dX3_look_7 : decode cX3_look 7 = .ok (.if_icmp .ge 136, 3) := by decide +kernel
theorem dX3_look_10 : decode cX3_look 10 = .ok (.aload_n 1, 1) := by decide +kernel
theorem dX3_look_11 : decode cX3_look 11 = .ok (.iload_n 2, 1) := by decide +kernel
theorem dX3_look_12 : decode cX3_look 12 = .ok (.invokevirtual 32, 3) := by decide +kernel
theorem dX3_look_15 : decode cX3_look 15 = .ok (.istore_n 3, 1) := by decide +kernel
theorem dX3_look_16 : decode cX3_look 16 = .ok (.aload_n 0, 1) := by decide +kernel
theorem dX3_look_17 : decode cX3_look 17 = .ok (.getfield 9, 3) := by decide +kernel
theorem dX3_look_20 : decode cX3_look 20 = .ok (.aload_n 1, 1) := by decide +kernel
theorem dX3_look_21 : decode cX3_look 21 = .ok (.iload_n 2, 1) := by decide +kernel
theorem dX3_look_22 : decode cX3_look 22 = .ok (.invokevirtual 36, 3) := by decide +kernel
theorem dX3_look_25 : decode cX3_look 25 = .ok (.invokestatic 39, 3) := by decide +kernel
theorem dX3_look_28 : decode cX3_look 28 = .ok (.istore 4, 2) := by decide +kernel
theorem dX3_look_30 : decode cX3_look 30 = .ok (.aload_n 0, 1) := by decide +kernel
theorem dX3_look_31 : decode cX3_look 31 = .ok (.getfield 9, 3) := by decide +kernel
theorem dX3_look_34 : decode cX3_look 34 = .ok (.aload_n 1, 1) := by decide +kernel
theorem dX3_look_35 : decode cX3_look 35 = .ok (.iload_n 2, 1) := by decide +kernel
theorem dX3_look_36 : decode cX3_look 36 = .ok (.invokevirtual 45, 3) := by decide +kernel
theorem dX3_look_39 : decode cX3_look 39 = .ok (.invokestatic 39, 3) := by decide +kernel
theorem dX3_look_42 : decode cX3_look 42 = .ok (.istore 5, 2) := by decide +kernel
theorem dX3_look_44 : decode cX3_look 44 = .ok (.iload_n 3, 1) := by decide +kernel
theorem dX3_look_45 : decode cX3_look 45 = .ok (.iconst 2, 1) := by decide +kernel
theorem dX3_look_46 : decode cX3_look 46 = .ok (.if_icmp .ne 17, 3) := by decide +kernel
theorem dX3_look_49 : decode cX3_look 49 = .ok (.aload_n 0, 1) := by decide +kernel
theorem dX3_look_50 : decode cX3_look 50 = .ok (.aload_n 1, 1) := by decide +kernel
theorem dX3_look_51 : decode cX3_look 51 = .ok (.iload_n 2, 1) := by decide +kernel
theorem dX3_look_52 : decode cX3_look 52 = .ok (.invokevirtual 48, 3) := by decide +kernel
theorem dX3_look_55 : decode cX3_look 55 = .ok (.invokevirtual 51, 3) := by decide +kernel
theorem dX3_look_58 : decode cX3_look 58 = .ok (.istore 6, 2) := by decide +kernel
theorem dX3_look_60 : decode cX3_look 60 = .ok (.goto 67, 3) := by decide +kernel
theorem dX3_look_63 : decode cX3_look 63 = .ok (.iload_n 3, 1) := by decide +kernel
theorem dX3_look_64 : decode cX3_look 64 = .ok (.bipush 6, 2) := by decide +kernel
theorem dX3_look_66 : decode cX3_look 66 = .ok (.if_icmp .ge 17, 3) := by decide +kernel
theorem dX3_look_69 : decode cX3_look 69 = .ok (.aload_n 0, 1) := by decide +kernel
theorem dX3_look_70 : decode cX3_look 70 = .ok (.iload_n 3, 1) := by decide +kernel
theorem dX3_look_71 : decode cX3_look 71 = .ok (.iload 4, 2) := by decide +kernel
theorem dX3_look_73 : decode cX3_look 73 = .ok (.iload 5, 2) := by decide +kernel
theorem dX3_look_75 : decode cX3_look 75 = .ok (.invokevirtual 54, 3) := by decide +kernel
theorem dX3_look_78 : decode cX3_look 78 = .ok (.istore 6, 2) := by decide +kernel
theorem dX3_look_80 : decode cX3_look 80 = .ok (.goto 47, 3) := by decide +kernel
theorem dX3_look_83 : decode cX3_look 83 = .ok (.iload_n 3, 1) := by decide +kernel
theorem dX3_look_84 : decode cX3_look 84 = .ok (.bipush 9, 2) := by decide +kernel
theorem dX3_look_86 : decode cX3_look 86 = .ok (.if_icmp .gt 23, 3) := by decide +kernel
theorem dX3_look_89 : decode cX3_look 89 = .ok (.aload_n 0, 1) := by decide +kernel
theorem dX3_look_90 : decode cX3_look 90 = .ok (.iload_n 3, 1) := by decide +kernel
theorem dX3_look_91 : decode cX3_look 91 = .ok (.aload_n 1, 1) := by decide +kernel
theorem dX3_look_92 : decode cX3_look 92 = .ok (.iload_n 2, 1) := by decide +kernel
theorem dX3_look_93 : decode cX3_look 93 = .ok (.invokevirtual 48, 3) := by decide +kernel
theorem dX3_look_96 : decode cX3_look 96 = .ok (.iload 4, 2) := by decide +kernel
theorem dX3_look_98 : decode cX3_look 98 = .ok (.iload 5, 2) := by decide +kernel
theorem dX3_look_100 : decode cX3_look 100 = .ok (.iconst 0, 1) := by decide +kernel
theorem dX3_look_101 : decode cX3_look 101 = .ok (.invokevirtual 58, 3) := by decide +kernel
theorem dX3_look_104 : decode cX3_look 104 = .ok (.istore 6, 2) := by decide +kernel
theorem dX3_look_106 : decode cX3_look 106 = .ok (.goto 21, 3) := by decide +kernel
theorem dX3_look_109 : decode cX3_look 109 = .ok (.aload_n 0, 1) := by decide +kernel
theorem dX3_look_110 : decode cX3_look 110 = .ok (.iload_n 3, 1) := by decide +kernel
theorem dX3_look_111 : decode cX3_look 111 = .ok (.iconst 4, 1) := by decide +kernel
theorem dX3_look_112 : decode cX3_look 112 = .ok (.isub, 1) := by decide +kernel
theorem dX3_look_113 : decode cX3_look 113 = .ok (.aload_n 1, 1) := by decide +kernel
theorem dX3_look_114 : decode cX3_look 114 = .ok (.iload_n 2, 1) := by decide +kernel
theorem dX3_look_115 : decode cX3_look 115 = .ok (.invokevirtual 48, 3) := by decide +kernel
theorem dX3_look_118 : decode cX3_look 118 = .ok (.iload 4, 2) := by decide +kernel
theorem dX3_look_120 : decode cX3_look 120 = .ok (.iload 5, 2) := by decide +kernel
theorem dX3_look_122 : decode cX3_look 122 = .ok (.invokevirtual 62, 3) := by decide +kernel
theorem dX3_look_125 : decode cX3_look 125 = .ok (.istore 6, 2) := by decide +kernel
theorem dX3_look_127 : decode cX3_look 127 = .ok (.aload_n 0, 1) := by decide +kernel
theorem dX3_look_128 : decode cX3_look 128 = .ok (.getfield 9, 3) := by decide +kernel
theorem dX3_look_131 : decode cX3_look 131 = .ok (.iload_n 2, 1) := by decide +kernel
theorem dX3_look_132 : decode cX3_look 132 = .ok (.iload 6, 2) := by decide +kernel
theorem dX3_look_134 : decode cX3_look 134 = .ok (.invokestatic 66, 3) := by decide +kernel
theorem dX3_look_137 : decode cX3_look 137 = .ok (.iinc 2 1, 3) := by decide +kernel
theorem dX3_look_140 : decode cX3_look 140 = .ok (.goto (-138), 3) := by decide +kernel
theorem dX3_look_143 : decode cX3_look 143 = .ok (.return_, 1) := by decide +kernel
theorem dX3_setOf_0 : decode cX3_setOf 0 = .ok (.aload_n 0, 1) := by decide +kernel
theorem dX3_setOf_1 : decode cX3_setOf 1 = .ok (.getfield 9, 3) := by decide +kernel
theorem dX3_setOf_4 : decode cX3_setOf 4 = .ok (.iload_n 1, 1) := by decide +kernel
theorem dX3_setOf_5 : decode cX3_setOf 5 = .ok (.invokestatic 39, 3) := by decide +kernel
theorem dX3_setOf_8 : decode cX3_setOf 8 = .ok (.ireturn, 1) := by decide +kernel
theorem dX3_whole_0 : decode cX3_whole 0 = .ok (.aload_n 0, 1) := by decide +kernel
theorem dX3_whole_1 : decode cX3_whole 1 = .ok (.aload_n 1, 1) := by decide +kernel
theorem dX3_whole_2 : decode cX3_whole 2 = .ok (.invokevirtual 70, 3) := by decide +kernel
theorem dX3_whole_5 : decode cX3_whole 5 = .ok (.aload_n 0, 1) := by decide +kernel
theorem dX3_whole_6 : decode cX3_whole 6 = .ok (.aload_n 1, 1) := by decide +kernel
theorem dX3_whole_7 : decode cX3_whole 7 = .ok (.getfield 26, 3) := by decide +kernel
theorem dX3_whole_10 : decode cX3_whole 10 = .ok (.iconst 1, 1) := by decide +kernel
theorem dX3_whole_11 : decode cX3_whole 11 = .ok (.isub, 1) := by decide +kernel
theorem dX3_whole_12 : decode cX3_whole 12 = .ok (.invokevirtual 74, 3) := by decide +kernel
theorem dX3_whole_15 : decode cX3_whole 15 = .ok (.ireturn, 1) := by decide +kernel
theorem dX3_goalSet_0 : decode cX3_goalSet 0 = .ok (.aload_n 1, 1) := by decide +kernel
theorem dX3_goalSet_1 : decode cX3_goalSet 1 = .ok (.getfield 26, 3) := by decide +kernel
theorem dX3_goalSet_4 : decode cX3_goalSet 4 = .ok (.iconst 1, 1) := by decide +kernel
theorem dX3_goalSet_5 : decode cX3_goalSet 5 = .ok (.isub, 1) := by decide +kernel
theorem dX3_goalSet_6 : decode cX3_goalSet 6 = .ok (.istore 4, 2) := by decide +kernel
theorem dX3_goalSet_8 : decode cX3_goalSet 8 = .ok (.aload_n 0, 1) := by decide +kernel
theorem dX3_goalSet_9 : decode cX3_goalSet 9 = .ok (.aload_n 1, 1) := by decide +kernel
theorem dX3_goalSet_10 : decode cX3_goalSet 10 = .ok (.invokevirtual 77, 3) := by decide +kernel
theorem dX3_goalSet_13 : decode cX3_goalSet 13 = .ok (.iload_n 2, 1) := by decide +kernel
theorem dX3_goalSet_14 : decode cX3_goalSet 14 = .ok (.aload_n 0, 1) := by decide +kernel
theorem dX3_goalSet_15 : decode cX3_goalSet 15 = .ok (.aload_n 1, 1) := by decide +kernel
theorem dX3_goalSet_16 : decode cX3_goalSet 16 = .ok (.iload 4, 2) := by decide +kernel
theorem dX3_goalSet_18 : decode cX3_goalSet 18 = .ok (.invokevirtual 36, 3) := by decide +kernel
theorem dX3_goalSet_21 : decode cX3_goalSet 21 = .ok (.invokevirtual 74, 3) := by decide +kernel
theorem dX3_goalSet_24 : decode cX3_goalSet 24 = .ok (.aload_n 0, 1) := by decide +kernel
theorem dX3_goalSet_25 : decode cX3_goalSet 25 = .ok (.aload_n 1, 1) := by decide +kernel
theorem dX3_goalSet_26 : decode cX3_goalSet 26 = .ok (.iload 4, 2) := by decide +kernel
theorem dX3_goalSet_28 : decode cX3_goalSet 28 = .ok (.invokevirtual 45, 3) := by decide +kernel
theorem dX3_goalSet_31 : decode cX3_goalSet 31 = .ok (.invokevirtual 74, 3) := by decide +kernel
theorem dX3_goalSet_34 : decode cX3_goalSet 34 = .ok (.iload_n 3, 1) := by decide +kernel
theorem dX3_goalSet_35 : decode cX3_goalSet 35 = .ok (.invokevirtual 58, 3) := by decide +kernel
theorem dX3_goalSet_38 : decode cX3_goalSet 38 = .ok (.ireturn, 1) := by decide +kernel
theorem dX3_rankOf_0 : decode cX3_rankOf 0 = .ok (.aload_n 0, 1) := by decide +kernel
theorem dX3_rankOf_1 : decode cX3_rankOf 1 = .ok (.getfield 15, 3) := by decide +kernel
theorem dX3_rankOf_4 : decode cX3_rankOf 4 = .ok (.iload_n 1, 1) := by decide +kernel
theorem dX3_rankOf_5 : decode cX3_rankOf 5 = .ok (.invokestatic 39, 3) := by decide +kernel
theorem dX3_rankOf_8 : decode cX3_rankOf 8 = .ok (.ireturn, 1) := by decide +kernel
theorem dX3_statesBelow_0 : decode cX3_statesBelow 0 = .ok (.iconst 0, 1) := by decide +kernel
theorem dX3_statesBelow_1 : decode cX3_statesBelow 1 = .ok (.istore_n 2, 1) := by decide +kernel
theorem dX3_statesBelow_2 : decode cX3_statesBelow 2 = .ok (.iconst 0, 1) := by decide +kernel
theorem dX3_statesBelow_3 : decode cX3_statesBelow 3 = .ok (.istore_n 3, 1) := by decide +kernel
theorem dX3_statesBelow_4 : decode cX3_statesBelow 4 = .ok (.iload_n 3, 1) := by decide +kernel
theorem dX3_statesBelow_5 : decode cX3_statesBelow 5 = .ok (.aload_n 0, 1) := by decide +kernel
theorem dX3_statesBelow_6 : decode cX3_statesBelow 6 = .ok (.getfield 18, 3) := by decide +kernel
theorem dX3_statesBelow_9 : decode cX3_statesBelow 9 = .ok (.getfield 81, 3) := by decide +kernel
theorem dX3_statesBelow_12 : decode cX3_statesBelow 12 = .ok (.if_icmp .ge 33, 3) := by decide +kernel
theorem dX3_statesBelow_15 : decode cX3_statesBelow 15 = .ok (.aload_n 0, 1) := by decide +kernel
theorem dX3_statesBelow_16 : decode cX3_statesBelow 16 = .ok (.iload_n 3, 1) := by decide +kernel
theorem dX3_statesBelow_17 : decode cX3_statesBelow 17 = .ok (.invokevirtual 86, 3) := by decide +kernel
theorem dX3_statesBelow_20 : decode cX3_statesBelow 20 = .ok (.istore 4, 2) := by decide +kernel
theorem dX3_statesBelow_22 : decode cX3_statesBelow 22 = .ok (.iload 4, 2) := by decide +kernel
theorem dX3_statesBelow_24 : decode cX3_statesBelow 24 = .ok (.ifCond .lt 15, 3) := by decide +kernel
theorem dX3_statesBelow_27 : decode cX3_statesBelow 27 = .ok (.iload 4, 2) := by decide +kernel
theorem dX3_statesBelow_29 : decode cX3_statesBelow 29 = .ok (.iload_n 1, 1) := by decide +kernel
theorem dX3_statesBelow_30 : decode cX3_statesBelow 30 = .ok (.if_icmp .ge 9, 3) := by decide +kernel
theorem dX3_statesBelow_33 : decode cX3_statesBelow 33 = .ok (.iload_n 2, 1) := by decide +kernel
theorem dX3_statesBelow_34 : decode cX3_statesBelow 34 = .ok (.iconst 1, 1) := by decide +kernel
theorem dX3_statesBelow_35 : decode cX3_statesBelow 35 = .ok (.iload_n 3, 1) := by decide +kernel
theorem dX3_statesBelow_36 : decode cX3_statesBelow 36 = .ok (.ishl, 1) := by decide +kernel
theorem dX3_statesBelow_37 : decode cX3_statesBelow 37 = .ok (.ior, 1) := by decide +kernel
theorem dX3_statesBelow_38 : decode cX3_statesBelow 38 = .ok (.istore_n 2, 1) := by decide +kernel
theorem dX3_statesBelow_39 : decode cX3_statesBelow 39 = .ok (.iinc 3 1, 3) := by decide +kernel
theorem dX3_statesBelow_42 : decode cX3_statesBelow 42 = .ok (.goto (-38), 3) := by decide +kernel
theorem dX3_statesBelow_45 : decode cX3_statesBelow 45 = .ok (.iload_n 2, 1) := by decide +kernel
theorem dX3_statesBelow_46 : decode cX3_statesBelow 46 = .ok (.ireturn, 1) := by decide +kernel
theorem dX3_labelled_0 : decode cX3_labelled 0 = .ok (.iconst 0, 1) := by decide +kernel
theorem dX3_labelled_1 : decode cX3_labelled 1 = .ok (.istore_n 2, 1) := by decide +kernel
theorem dX3_labelled_2 : decode cX3_labelled 2 = .ok (.iconst 0, 1) := by decide +kernel
theorem dX3_labelled_3 : decode cX3_labelled 3 = .ok (.istore_n 3, 1) := by decide +kernel
theorem dX3_labelled_4 : decode cX3_labelled 4 = .ok (.iload_n 3, 1) := by decide +kernel
theorem dX3_labelled_5 : decode cX3_labelled 5 = .ok (.aload_n 0, 1) := by decide +kernel
theorem dX3_labelled_6 : decode cX3_labelled 6 = .ok (.getfield 18, 3) := by decide +kernel
theorem dX3_labelled_9 : decode cX3_labelled 9 = .ok (.getfield 81, 3) := by decide +kernel
theorem dX3_labelled_12 : decode cX3_labelled 12 = .ok (.if_icmp .ge 26, 3) := by decide +kernel
theorem dX3_labelled_15 : decode cX3_labelled 15 = .ok (.iload_n 2, 1) := by decide +kernel
theorem dX3_labelled_16 : decode cX3_labelled 16 = .ok (.aload_n 0, 1) := by decide +kernel
theorem dX3_labelled_17 : decode cX3_labelled 17 = .ok (.getfield 18, 3) := by decide +kernel
theorem dX3_labelled_20 : decode cX3_labelled 20 = .ok (.iload_n 3, 1) := by decide +kernel
theorem dX3_labelled_21 : decode cX3_labelled 21 = .ok (.invokevirtual 89, 3) := by decide +kernel
theorem dX3_labelled_24 : decode cX3_labelled 24 = .ok (.iload_n 1, 1) := by decide +kernel
theorem dX3_labelled_25 : decode cX3_labelled 25 = .ok (.ishr, 1) := by decide +kernel
theorem dX3_labelled_26 : decode cX3_labelled 26 = .ok (.iconst 1, 1) := by decide +kernel
theorem dX3_labelled_27 : decode cX3_labelled 27 = .ok (.iand, 1) := by decide +kernel
theorem dX3_labelled_28 : decode cX3_labelled 28 = .ok (.iload_n 3, 1) := by decide +kernel
theorem dX3_labelled_29 : decode cX3_labelled 29 = .ok (.ishl, 1) := by decide +kernel
theorem dX3_labelled_30 : decode cX3_labelled 30 = .ok (.ior, 1) := by decide +kernel
theorem dX3_labelled_31 : decode cX3_labelled 31 = .ok (.istore_n 2, 1) := by decide +kernel
theorem dX3_labelled_32 : decode cX3_labelled 32 = .ok (.iinc 3 1, 3) := by decide +kernel
theorem dX3_labelled_35 : decode cX3_labelled 35 = .ok (.goto (-31), 3) := by decide +kernel
theorem dX3_labelled_38 : decode cX3_labelled 38 = .ok (.iload_n 2, 1) := by decide +kernel
theorem dX3_labelled_39 : decode cX3_labelled 39 = .ok (.ireturn, 1) := by decide +kernel
theorem dX3_plainSet_0 : decode cX3_plainSet 0 = .ok (.iload_n 1, 1) := by decide +kernel
theorem dX3_plainSet_1 : decode cX3_plainSet 1 = .ok (.tableswitch 63 1 5 #[35, 63, 43, 55, 59], 35) := by decide +kernel
theorem dX3_plainSet_36 : decode cX3_plainSet 36 = .ok (.aload_n 0, 1) := by decide +kernel
theorem dX3_plainSet_37 : decode cX3_plainSet 37 = .ok (.getfield 18, 3) := by decide +kernel
theorem dX3_plainSet_40 : decode cX3_plainSet 40 = .ok (.invokevirtual 92, 3) := by decide +kernel
theorem dX3_plainSet_43 : decode cX3_plainSet 43 = .ok (.ireturn, 1) := by decide +kernel
theorem dX3_plainSet_44 : decode cX3_plainSet 44 = .ok (.aload_n 0, 1) := by decide +kernel
theorem dX3_plainSet_45 : decode cX3_plainSet 45 = .ok (.getfield 18, 3) := by decide +kernel
theorem dX3_plainSet_48 : decode cX3_plainSet 48 = .ok (.invokevirtual 92, 3) := by decide +kernel
theorem dX3_plainSet_51 : decode cX3_plainSet 51 = .ok (.iload_n 2, 1) := by decide +kernel
theorem dX3_plainSet_52 : decode cX3_plainSet 52 = .ok (.iconst (-1), 1) := by decide +kernel
theorem dX3_plainSet_53 : decode cX3_plainSet 53 = .ok (.ixor, 1) := by decide +kernel
theorem dX3_plainSet_54 : decode cX3_plainSet 54 = .ok (.iand, 1) := by decide +kernel
theorem dX3_plainSet_55 : decode cX3_plainSet 55 = .ok (.ireturn, 1) := by decide +kernel
theorem dX3_plainSet_56 : decode cX3_plainSet 56 = .ok (.iload_n 2, 1) := by decide +kernel
theorem dX3_plainSet_57 : decode cX3_plainSet 57 = .ok (.iload_n 3, 1) := by decide +kernel
theorem dX3_plainSet_58 : decode cX3_plainSet 58 = .ok (.iand, 1) := by decide +kernel
theorem dX3_plainSet_59 : decode cX3_plainSet 59 = .ok (.ireturn, 1) := by decide +kernel
theorem dX3_plainSet_60 : decode cX3_plainSet 60 = .ok (.iload_n 2, 1) := by decide +kernel
theorem dX3_plainSet_61 : decode cX3_plainSet 61 = .ok (.iload_n 3, 1) := by decide +kernel
theorem dX3_plainSet_62 : decode cX3_plainSet 62 = .ok (.ior, 1) := by decide +kernel
theorem dX3_plainSet_63 : decode cX3_plainSet 63 = .ok (.ireturn, 1) := by decide +kernel
theorem dX3_plainSet_64 : decode cX3_plainSet 64 = .ok (.iconst 0, 1) := by decide +kernel
theorem dX3_plainSet_65 : decode cX3_plainSet 65 = .ok (.ireturn, 1) := by decide +kernel
theorem dX3_strongSet_0 : decode cX3_strongSet 0 = .ok (.iload_n 1, 1) := by decide +kernel
theorem dX3_strongSet_1 : decode cX3_strongSet 1 = .ok (.tableswitch 79 6 9 #[31, 43, 59, 68], 31) := by decide +kernel
theorem dX3_strongSet_32 : decode cX3_strongSet 32 = .ok (.aload_n 0, 1) := by decide +kernel
theorem dX3_strongSet_33 : decode cX3_strongSet 33 = .ok (.getfield 22, 3) := by decide +kernel
theorem dX3_strongSet_36 : decode cX3_strongSet 36 = .ok (.iload_n 2, 1) := by decide +kernel
theorem dX3_strongSet_37 : decode cX3_strongSet 37 = .ok (.iload_n 3, 1) := by decide +kernel
theorem dX3_strongSet_38 : decode cX3_strongSet 38 = .ok (.iload 5, 2) := by decide +kernel
theorem dX3_strongSet_40 : decode cX3_strongSet 40 = .ok (.invokevirtual 95, 3) := by decide +kernel
theorem dX3_strongSet_43 : decode cX3_strongSet 43 = .ok (.ireturn, 1) := by decide +kernel
theorem dX3_strongSet_44 : decode cX3_strongSet 44 = .ok (.aload_n 0, 1) := by decide +kernel
theorem dX3_strongSet_45 : decode cX3_strongSet 45 = .ok (.iload_n 2, 1) := by decide +kernel
theorem dX3_strongSet_46 : decode cX3_strongSet 46 = .ok (.aload_n 0, 1) := by decide +kernel
theorem dX3_strongSet_47 : decode cX3_strongSet 47 = .ok (.getfield 18, 3) := by decide +kernel
theorem dX3_strongSet_50 : decode cX3_strongSet 50 = .ok (.invokevirtual 92, 3) := by decide +kernel
theorem dX3_strongSet_53 : decode cX3_strongSet 53 = .ok (.iload_n 3, 1) := by decide +kernel
theorem dX3_strongSet_54 : decode cX3_strongSet 54 = .ok (.iload 5, 2) := by decide +kernel
theorem dX3_strongSet_56 : decode cX3_strongSet 56 = .ok (.invokevirtual 101, 3) := by decide +kernel
theorem dX3_strongSet_59 : decode cX3_strongSet 59 = .ok (.ireturn, 1) := by decide +kernel
theorem dX3_strongSet_60 : decode cX3_strongSet 60 = .ok (.aload_n 0, 1) := by decide +kernel
theorem dX3_strongSet_61 : decode cX3_strongSet 61 = .ok (.iload_n 2, 1) := by decide +kernel
theorem dX3_strongSet_62 : decode cX3_strongSet 62 = .ok (.iload_n 3, 1) := by decide +kernel
theorem dX3_strongSet_63 : decode cX3_strongSet 63 = .ok (.iload 5, 2) := by decide +kernel
theorem dX3_strongSet_65 : decode cX3_strongSet 65 = .ok (.invokevirtual 105, 3) := by decide +kernel
theorem dX3_strongSet_68 : decode cX3_strongSet 68 = .ok (.ireturn, 1) := by decide +kernel
theorem dX3_strongSet_69 : decode cX3_strongSet 69 = .ok (.aload_n 0, 1) := by decide +kernel
theorem dX3_strongSet_70 : decode cX3_strongSet 70 = .ok (.iload_n 2, 1) := by decide +kernel
theorem dX3_strongSet_71 : decode cX3_strongSet 71 = .ok (.iload_n 3, 1) := by decide +kernel
theorem dX3_strongSet_72 : decode cX3_strongSet 72 = .ok (.iload 4, 2) := by decide +kernel
theorem dX3_strongSet_74 : decode cX3_strongSet 74 = .ok (.iload 5, 2) := by decide +kernel
theorem dX3_strongSet_76 : decode cX3_strongSet 76 = .ok (.invokevirtual 101, 3) := by decide +kernel
theorem dX3_strongSet_79 : decode cX3_strongSet 79 = .ok (.ireturn, 1) := by decide +kernel
theorem dX3_strongSet_80 : decode cX3_strongSet 80 = .ok (.iconst 0, 1) := by decide +kernel
theorem dX3_strongSet_81 : decode cX3_strongSet 81 = .ok (.ireturn, 1) := by decide +kernel
theorem dX3_boxSet_0 : decode cX3_boxSet 0 = .ok (.aload_n 0, 1) := by decide +kernel
theorem dX3_boxSet_1 : decode cX3_boxSet 1 = .ok (.getfield 18, 3) := by decide +kernel
theorem dX3_boxSet_4 : decode cX3_boxSet 4 = .ok (.invokevirtual 92, 3) := by decide +kernel
theorem dX3_boxSet_7 : decode cX3_boxSet 7 = .ok (.istore 5, 2) := by decide +kernel
theorem dX3_boxSet_9 : decode cX3_boxSet 9 = .ok (.iload_n 1, 1) := by decide +kernel
theorem dX3_boxSet_10 : decode cX3_boxSet 10 = .ok (.tableswitch 98 6 9 #[30, 51, 69, 89], 30) := by decide +kernel
theorem dX3_boxSet_40 : decode cX3_boxSet 40 = .ok (.iload 5, 2) := by decide +kernel
theorem dX3_boxSet_42 : decode cX3_boxSet 42 = .ok (.aload_n 0, 1) := by decide +kernel
theorem dX3_boxSet_43 : decode cX3_boxSet 43 = .ok (.getfield 22, 3) := by decide +kernel
theorem dX3_boxSet_46 : decode cX3_boxSet 46 = .ok (.iload_n 2, 1) := by decide +kernel
theorem dX3_boxSet_47 : decode cX3_boxSet 47 = .ok (.iload 5, 2) := by decide +kernel
theorem dX3_boxSet_49 : decode cX3_boxSet 49 = .ok (.iload_n 3, 1) := by decide +kernel
theorem dX3_boxSet_50 : decode cX3_boxSet 50 = .ok (.iconst (-1), 1) := by decide +kernel
theorem dX3_boxSet_51 : decode cX3_boxSet 51 = .ok (.ixor, 1) := by decide +kernel
theorem dX3_boxSet_52 : decode cX3_boxSet 52 = .ok (.iand, 1) := by decide +kernel
theorem dX3_boxSet_53 : decode cX3_boxSet 53 = .ok (.iconst 0, 1) := by decide +kernel
theorem dX3_boxSet_54 : decode cX3_boxSet 54 = .ok (.invokevirtual 95, 3) := by decide +kernel
theorem dX3_boxSet_57 : decode cX3_boxSet 57 = .ok (.iconst (-1), 1) := by decide +kernel
theorem dX3_boxSet_58 : decode cX3_boxSet 58 = .ok (.ixor, 1) := by decide +kernel
theorem dX3_boxSet_59 : decode cX3_boxSet 59 = .ok (.iand, 1) := by decide +kernel
theorem dX3_boxSet_60 : decode cX3_boxSet 60 = .ok (.ireturn, 1) := by decide +kernel
theorem dX3_boxSet_61 : decode cX3_boxSet 61 = .ok (.iload 5, 2) := by decide +kernel
theorem dX3_boxSet_63 : decode cX3_boxSet 63 = .ok (.aload_n 0, 1) := by decide +kernel
theorem dX3_boxSet_64 : decode cX3_boxSet 64 = .ok (.iload_n 2, 1) := by decide +kernel
theorem dX3_boxSet_65 : decode cX3_boxSet 65 = .ok (.iload 5, 2) := by decide +kernel
theorem dX3_boxSet_67 : decode cX3_boxSet 67 = .ok (.iload_n 3, 1) := by decide +kernel
theorem dX3_boxSet_68 : decode cX3_boxSet 68 = .ok (.iconst (-1), 1) := by decide +kernel
theorem dX3_boxSet_69 : decode cX3_boxSet 69 = .ok (.ixor, 1) := by decide +kernel
theorem dX3_boxSet_70 : decode cX3_boxSet 70 = .ok (.iand, 1) := by decide +kernel
theorem dX3_boxSet_71 : decode cX3_boxSet 71 = .ok (.iconst 0, 1) := by decide +kernel
theorem dX3_boxSet_72 : decode cX3_boxSet 72 = .ok (.invokevirtual 105, 3) := by decide +kernel
theorem dX3_boxSet_75 : decode cX3_boxSet 75 = .ok (.iconst (-1), 1) := by decide +kernel
theorem dX3_boxSet_76 : decode cX3_boxSet 76 = .ok (.ixor, 1) := by decide +kernel
theorem dX3_boxSet_77 : decode cX3_boxSet 77 = .ok (.iand, 1) := by decide +kernel
theorem dX3_boxSet_78 : decode cX3_boxSet 78 = .ok (.ireturn, 1) := by decide +kernel
theorem dX3_boxSet_79 : decode cX3_boxSet 79 = .ok (.iload 5, 2) := by decide +kernel
theorem dX3_boxSet_81 : decode cX3_boxSet 81 = .ok (.aload_n 0, 1) := by decide +kernel
theorem dX3_boxSet_82 : decode cX3_boxSet 82 = .ok (.iload_n 2, 1) := by decide +kernel
theorem dX3_boxSet_83 : decode cX3_boxSet 83 = .ok (.iload 5, 2) := by decide +kernel
theorem dX3_boxSet_85 : decode cX3_boxSet 85 = .ok (.iload 5, 2) := by decide +kernel
theorem dX3_boxSet_87 : decode cX3_boxSet 87 = .ok (.iload_n 3, 1) := by decide +kernel
theorem dX3_boxSet_88 : decode cX3_boxSet 88 = .ok (.iconst (-1), 1) := by decide +kernel
theorem dX3_boxSet_89 : decode cX3_boxSet 89 = .ok (.ixor, 1) := by decide +kernel
theorem dX3_boxSet_90 : decode cX3_boxSet 90 = .ok (.iand, 1) := by decide +kernel
theorem dX3_boxSet_91 : decode cX3_boxSet 91 = .ok (.iconst 0, 1) := by decide +kernel
theorem dX3_boxSet_92 : decode cX3_boxSet 92 = .ok (.invokevirtual 101, 3) := by decide +kernel
theorem dX3_boxSet_95 : decode cX3_boxSet 95 = .ok (.iconst (-1), 1) := by decide +kernel
theorem dX3_boxSet_96 : decode cX3_boxSet 96 = .ok (.ixor, 1) := by decide +kernel
theorem dX3_boxSet_97 : decode cX3_boxSet 97 = .ok (.iand, 1) := by decide +kernel
theorem dX3_boxSet_98 : decode cX3_boxSet 98 = .ok (.ireturn, 1) := by decide +kernel
theorem dX3_boxSet_99 : decode cX3_boxSet 99 = .ok (.aload_n 0, 1) := by decide +kernel
theorem dX3_boxSet_100 : decode cX3_boxSet 100 = .ok (.iload_n 2, 1) := by decide +kernel
theorem dX3_boxSet_101 : decode cX3_boxSet 101 = .ok (.iload_n 3, 1) := by decide +kernel
theorem dX3_boxSet_102 : decode cX3_boxSet 102 = .ok (.iload 4, 2) := by decide +kernel
theorem dX3_boxSet_104 : decode cX3_boxSet 104 = .ok (.invokevirtual 108, 3) := by decide +kernel
theorem dX3_boxSet_107 : decode cX3_boxSet 107 = .ok (.ireturn, 1) := by decide +kernel
theorem dX3_boxSet_108 : decode cX3_boxSet 108 = .ok (.iconst 0, 1) := by decide +kernel
theorem dX3_boxSet_109 : decode cX3_boxSet 109 = .ok (.ireturn, 1) := by decide +kernel
theorem dX3_reached_0 : decode cX3_reached 0 = .ok (.iconst 0, 1) := by decide +kernel
theorem dX3_reached_1 : decode cX3_reached 1 = .ok (.istore 5, 2) := by decide +kernel
theorem dX3_reached_3 : decode cX3_reached 3 = .ok (.iload 5, 2) := by decide +kernel
theorem dX3_reached_5 : decode cX3_reached 5 = .ok (.bipush 12, 2) := by decide +kernel
theorem dX3_reached_7 : decode cX3_reached 7 = .ok (.if_icmp .ge 32, 3) := by decide +kernel
theorem dX3_reached_10 : decode cX3_reached 10 = .ok (.aload_n 0, 1) := by decide +kernel
theorem dX3_reached_11 : decode cX3_reached 11 = .ok (.getfield 15, 3) := by decide +kernel
theorem dX3_reached_14 : decode cX3_reached 14 = .ok (.iload 5, 2) := by decide +kernel
theorem dX3_reached_16 : decode cX3_reached 16 = .ok (.iload_n 3, 1) := by decide +kernel
theorem dX3_reached_17 : decode cX3_reached 17 = .ok (.iload 5, 2) := by decide +kernel
theorem dX3_reached_19 : decode cX3_reached 19 = .ok (.ishr, 1) := by decide +kernel
theorem dX3_reached_20 : decode cX3_reached 20 = .ok (.iconst 1, 1) := by decide +kernel
theorem dX3_reached_21 : decode cX3_reached 21 = .ok (.iand, 1) := by decide +kernel
theorem dX3_reached_22 : decode cX3_reached 22 = .ok (.ifCond .eq 7, 3) := by decide +kernel
theorem dX3_reached_25 : decode cX3_reached 25 = .ok (.iconst 0, 1) := by decide +kernel
theorem dX3_reached_26 : decode cX3_reached 26 = .ok (.goto 4, 3) := by decide +kernel
theorem dX3_reached_29 : decode cX3_reached 29 = .ok (.iconst (-1), 1) := by decide +kernel
theorem dX3_reached_30 : decode cX3_reached 30 = .ok (.invokestatic 66, 3) := by decide +kernel
theorem dX3_reached_33 : decode cX3_reached 33 = .ok (.iinc 5 1, 3) := by decide +kernel
theorem dX3_reached_36 : decode cX3_reached 36 = .ok (.goto (-33), 3) := by decide +kernel
theorem dX3_reached_39 : decode cX3_reached 39 = .ok (.iload_n 3, 1) := by decide +kernel
theorem dX3_reached_40 : decode cX3_reached 40 = .ok (.istore 5, 2) := by decide +kernel
theorem dX3_reached_42 : decode cX3_reached 42 = .ok (.iconst 1, 1) := by decide +kernel
theorem dX3_reached_43 : decode cX3_reached 43 = .ok (.istore 6, 2) := by decide +kernel
theorem dX3_reached_45 : decode cX3_reached 45 = .ok (.iload 6, 2) := by decide +kernel
theorem dX3_reached_47 : decode cX3_reached 47 = .ok (.bipush 12, 2) := by decide +kernel
theorem dX3_reached_49 : decode cX3_reached 49 = .ok (.if_icmp .gt 82, 3) := by decide +kernel
theorem dX3_reached_52 : decode cX3_reached 52 = .ok (.iload_n 2, 1) := by decide +kernel
theorem dX3_reached_53 : decode cX3_reached 53 = .ok (.iload 5, 2) := by decide +kernel
theorem dX3_reached_55 : decode cX3_reached 55 = .ok (.iconst (-1), 1) := by decide +kernel
theorem dX3_reached_56 : decode cX3_reached 56 = .ok (.ixor, 1) := by decide +kernel
theorem dX3_reached_57 : decode cX3_reached 57 = .ok (.iand, 1) := by decide +kernel
theorem dX3_reached_58 : decode cX3_reached 58 = .ok (.aload_n 0, 1) := by decide +kernel
theorem dX3_reached_59 : decode cX3_reached 59 = .ok (.getfield 22, 3) := by decide +kernel
theorem dX3_reached_62 : decode cX3_reached 62 = .ok (.iload_n 1, 1) := by decide +kernel
theorem dX3_reached_63 : decode cX3_reached 63 = .ok (.iload 5, 2) := by decide +kernel
theorem dX3_reached_65 : decode cX3_reached 65 = .ok (.iload 4, 2) := by decide +kernel
theorem dX3_reached_67 : decode cX3_reached 67 = .ok (.invokevirtual 95, 3) := by decide +kernel
theorem dX3_reached_70 : decode cX3_reached 70 = .ok (.iand, 1) := by decide +kernel
theorem dX3_reached_71 : decode cX3_reached 71 = .ok (.istore 7, 2) := by decide +kernel
theorem dX3_reached_73 : decode cX3_reached 73 = .ok (.iload 7, 2) := by decide +kernel
theorem dX3_reached_75 : decode cX3_reached 75 = .ok (.ifCond .ne 6, 3) := by decide +kernel
theorem dX3_reached_78 : decode cX3_reached 78 = .ok (.goto 53, 3) := by decide +kernel
theorem dX3_reached_81 : decode cX3_reached 81 = .ok (.iconst 0, 1) := by decide +kernel
theorem dX3_reached_82 : decode cX3_reached 82 = .ok (.istore 8, 2) := by decide +kernel
theorem dX3_reached_84 : decode cX3_reached 84 = .ok (.iload 8, 2) := by decide +kernel
theorem dX3_reached_86 : decode cX3_reached 86 = .ok (.bipush 12, 2) := by decide +kernel
theorem dX3_reached_88 : decode cX3_reached 88 = .ok (.if_icmp .ge 30, 3) := by decide +kernel
theorem dX3_reached_91 : decode cX3_reached 91 = .ok (.iload 7, 2) := by decide +kernel
theorem dX3_reached_93 : decode cX3_reached 93 = .ok (.iload 8, 2) := by decide +kernel
theorem dX3_reached_95 : decode cX3_reached 95 = .ok (.ishr, 1) := by decide +kernel
theorem dX3_reached_96 : decode cX3_reached 96 = .ok (.iconst 1, 1) := by decide +kernel
theorem dX3_reached_97 : decode cX3_reached 97 = .ok (.iand, 1) := by decide +kernel
theorem dX3_reached_98 : decode cX3_reached 98 = .ok (.ifCond .eq 14, 3) := by decide +kernel
theorem dX3_reached_101 : decode cX3_reached 101 = .ok (.aload_n 0, 1) := by decide +kernel
theorem dX3_reached_102 : decode cX3_reached 102 = .ok (.getfield 15, 3) := by decide +kernel
theorem dX3_reached_105 : decode cX3_reached 105 = .ok (.iload 8, 2) := by decide +kernel
theorem dX3_reached_107 : decode cX3_reached 107 = .ok (.iload 6, 2) := by decide +kernel
theorem dX3_reached_109 : decode cX3_reached 109 = .ok (.invokestatic 66, 3) := by decide +kernel
theorem dX3_reached_112 : decode cX3_reached 112 = .ok (.iinc 8 1, 3) := by decide +kernel
theorem dX3_reached_115 : decode cX3_reached 115 = .ok (.goto (-31), 3) := by decide +kernel
theorem dX3_reached_118 : decode cX3_reached 118 = .ok (.iload 5, 2) := by decide +kernel
theorem dX3_reached_120 : decode cX3_reached 120 = .ok (.iload 7, 2) := by decide +kernel
theorem dX3_reached_122 : decode cX3_reached 122 = .ok (.ior, 1) := by decide +kernel
theorem dX3_reached_123 : decode cX3_reached 123 = .ok (.istore 5, 2) := by decide +kernel
theorem dX3_reached_125 : decode cX3_reached 125 = .ok (.iinc 6 1, 3) := by decide +kernel
theorem dX3_reached_128 : decode cX3_reached 128 = .ok (.goto (-83), 3) := by decide +kernel
theorem dX3_reached_131 : decode cX3_reached 131 = .ok (.iload 5, 2) := by decide +kernel
theorem dX3_reached_133 : decode cX3_reached 133 = .ok (.ireturn, 1) := by decide +kernel
theorem dX3_kept_0 : decode cX3_kept 0 = .ok (.iload_n 2, 1) := by decide +kernel
theorem dX3_kept_1 : decode cX3_kept 1 = .ok (.istore 4, 2) := by decide +kernel
theorem dX3_kept_3 : decode cX3_kept 3 = .ok (.iconst 0, 1) := by decide +kernel
theorem dX3_kept_4 : decode cX3_kept 4 = .ok (.istore 5, 2) := by decide +kernel
theorem dX3_kept_6 : decode cX3_kept 6 = .ok (.iload 5, 2) := by decide +kernel
theorem dX3_kept_8 : decode cX3_kept 8 = .ok (.bipush 12, 2) := by decide +kernel
theorem dX3_kept_10 : decode cX3_kept 10 = .ok (.if_icmp .gt 39, 3) := by decide +kernel
theorem dX3_kept_13 : decode cX3_kept 13 = .ok (.iload 4, 2) := by decide +kernel
theorem dX3_kept_15 : decode cX3_kept 15 = .ok (.aload_n 0, 1) := by decide +kernel
theorem dX3_kept_16 : decode cX3_kept 16 = .ok (.getfield 22, 3) := by decide +kernel
theorem dX3_kept_19 : decode cX3_kept 19 = .ok (.iload_n 1, 1) := by decide +kernel
theorem dX3_kept_20 : decode cX3_kept 20 = .ok (.iload 4, 2) := by decide +kernel
theorem dX3_kept_22 : decode cX3_kept 22 = .ok (.iload_n 3, 1) := by decide +kernel
theorem dX3_kept_23 : decode cX3_kept 23 = .ok (.invokevirtual 95, 3) := by decide +kernel
theorem dX3_kept_26 : decode cX3_kept 26 = .ok (.iand, 1) := by decide +kernel
theorem dX3_kept_27 : decode cX3_kept 27 = .ok (.istore 6, 2) := by decide +kernel
theorem dX3_kept_29 : decode cX3_kept 29 = .ok (.iload 6, 2) := by decide +kernel
theorem dX3_kept_31 : decode cX3_kept 31 = .ok (.iload 4, 2) := by decide +kernel
theorem dX3_kept_33 : decode cX3_kept 33 = .ok (.if_icmp .ne 6, 3) := by decide +kernel
theorem dX3_kept_36 : decode cX3_kept 36 = .ok (.goto 13, 3) := by decide +kernel
theorem dX3_kept_39 : decode cX3_kept 39 = .ok (.iload 6, 2) := by decide +kernel
theorem dX3_kept_41 : decode cX3_kept 41 = .ok (.istore 4, 2) := by decide +kernel
theorem dX3_kept_43 : decode cX3_kept 43 = .ok (.iinc 5 1, 3) := by decide +kernel
theorem dX3_kept_46 : decode cX3_kept 46 = .ok (.goto (-40), 3) := by decide +kernel
theorem dX3_kept_49 : decode cX3_kept 49 = .ok (.iload 4, 2) := by decide +kernel
theorem dX3_kept_51 : decode cX3_kept 51 = .ok (.ireturn, 1) := by decide +kernel
theorem dX3_unavoidable_0 : decode cX3_unavoidable 0 = .ok (.aload_n 0, 1) := by decide +kernel
theorem dX3_unavoidable_1 : decode cX3_unavoidable 1 = .ok (.getfield 18, 3) := by decide +kernel
theorem dX3_unavoidable_4 : decode cX3_unavoidable 4 = .ok (.invokevirtual 92, 3) := by decide +kernel
theorem dX3_unavoidable_7 : decode cX3_unavoidable 7 = .ok (.istore 4, 2) := by decide +kernel
theorem dX3_unavoidable_9 : decode cX3_unavoidable 9 = .ok (.iload_n 3, 1) := by decide +kernel
theorem dX3_unavoidable_10 : decode cX3_unavoidable 10 = .ok (.istore 5, 2) := by decide +kernel
theorem dX3_unavoidable_12 : decode cX3_unavoidable 12 = .ok (.iconst 0, 1) := by decide +kernel
theorem dX3_unavoidable_13 : decode cX3_unavoidable 13 = .ok (.istore 6, 2) := by decide +kernel
theorem dX3_unavoidable_15 : decode cX3_unavoidable 15 = .ok (.iload 6, 2) := by decide +kernel
theorem dX3_unavoidable_17 : decode cX3_unavoidable 17 = .ok (.bipush 12, 2) := by decide +kernel
theorem dX3_unavoidable_19 : decode cX3_unavoidable 19 = .ok (.if_icmp .gt 47, 3) := by decide +kernel
theorem dX3_unavoidable_22 : decode cX3_unavoidable 22 = .ok (.iload_n 3, 1) := by decide +kernel
theorem dX3_unavoidable_23 : decode cX3_unavoidable 23 = .ok (.iload_n 2, 1) := by decide +kernel
theorem dX3_unavoidable_24 : decode cX3_unavoidable 24 = .ok (.aload_n 0, 1) := by decide +kernel
theorem dX3_unavoidable_25 : decode cX3_unavoidable 25 = .ok (.getfield 22, 3) := by decide +kernel
theorem dX3_unavoidable_28 : decode cX3_unavoidable 28 = .ok (.iload_n 1, 1) := by decide +kernel
theorem dX3_unavoidable_29 : decode cX3_unavoidable 29 = .ok (.iload 4, 2) := by decide +kernel
theorem dX3_unavoidable_31 : decode cX3_unavoidable 31 = .ok (.iload 5, 2) := by decide +kernel
theorem dX3_unavoidable_33 : decode cX3_unavoidable 33 = .ok (.iconst (-1), 1) := by decide +kernel
theorem dX3_unavoidable_34 : decode cX3_unavoidable 34 = .ok (.ixor, 1) := by decide +kernel
theorem dX3_unavoidable_35 : decode cX3_unavoidable 35 = .ok (.iand, 1) := by decide +kernel
theorem dX3_unavoidable_36 : decode cX3_unavoidable 36 = .ok (.iconst 0, 1) := by decide +kernel
theorem dX3_unavoidable_37 : decode cX3_unavoidable 37 = .ok (.invokevirtual 95, 3) := by decide +kernel
theorem dX3_unavoidable_40 : decode cX3_unavoidable 40 = .ok (.iconst (-1), 1) := by decide +kernel
theorem dX3_unavoidable_41 : decode cX3_unavoidable 41 = .ok (.ixor, 1) := by decide +kernel
theorem dX3_unavoidable_42 : decode cX3_unavoidable 42 = .ok (.iand, 1) := by decide +kernel
theorem dX3_unavoidable_43 : decode cX3_unavoidable 43 = .ok (.ior, 1) := by decide +kernel
theorem dX3_unavoidable_44 : decode cX3_unavoidable 44 = .ok (.istore 7, 2) := by decide +kernel
theorem dX3_unavoidable_46 : decode cX3_unavoidable 46 = .ok (.iload 7, 2) := by decide +kernel
theorem dX3_unavoidable_48 : decode cX3_unavoidable 48 = .ok (.iload 5, 2) := by decide +kernel
theorem dX3_unavoidable_50 : decode cX3_unavoidable 50 = .ok (.if_icmp .ne 6, 3) := by decide +kernel
theorem dX3_unavoidable_53 : decode cX3_unavoidable 53 = .ok (.goto 13, 3) := by decide +kernel
theorem dX3_unavoidable_56 : decode cX3_unavoidable 56 = .ok (.iload 7, 2) := by decide +kernel
theorem dX3_unavoidable_58 : decode cX3_unavoidable 58 = .ok (.istore 5, 2) := by decide +kernel
theorem dX3_unavoidable_60 : decode cX3_unavoidable 60 = .ok (.iinc 6 1, 3) := by decide +kernel
theorem dX3_unavoidable_63 : decode cX3_unavoidable 63 = .ok (.goto (-48), 3) := by decide +kernel
theorem dX3_unavoidable_66 : decode cX3_unavoidable 66 = .ok (.iload 5, 2) := by decide +kernel
theorem dX3_unavoidable_68 : decode cX3_unavoidable 68 = .ok (.ireturn, 1) := by decide +kernel
theorem dX4_init_0 : decode cX4_init 0 = .ok (.aload_n 0, 1) := by decide +kernel
theorem dX4_init_1 : decode cX4_init 1 = .ok (.invokespecial 3, 3) := by decide +kernel
theorem dX4_init_4 : decode cX4_init 4 = .ok (.aload_n 0, 1) := by decide +kernel
theorem dX4_init_5 : decode cX4_init 5 = .ok (.bipush 60, 2) := by decide +kernel
theorem dX4_init_7 : decode cX4_init 7 = .ok (.newarray .int, 2) := by decide +kernel
theorem dX4_init_9 : decode cX4_init 9 = .ok (.putfield 9, 3) := by decide +kernel
theorem dX4_init_12 : decode cX4_init 12 = .ok (.aload_n 0, 1) := by decide +kernel
theorem dX4_init_13 : decode cX4_init 13 = .ok (.bipush 60, 2) := by decide +kernel
theorem dX4_init_15 : decode cX4_init 15 = .ok (.newarray .int, 2) := by decide +kernel
theorem dX4_init_17 : decode cX4_init 17 = .ok (.putfield 15, 3) := by decide +kernel
theorem dX4_init_20 : decode cX4_init 20 = .ok (.aload_n 0, 1) := by decide +kernel
theorem dX4_init_21 : decode cX4_init 21 = .ok (.bipush 60, 2) := by decide +kernel
theorem dX4_init_23 : decode cX4_init 23 = .ok (.newarray .int, 2) := by decide +kernel
theorem dX4_init_25 : decode cX4_init 25 = .ok (.putfield 18, 3) := by decide +kernel
theorem dX4_init_28 : decode cX4_init 28 = .ok (.aload_n 0, 1) := by decide +kernel
theorem dX4_init_29 : decode cX4_init 29 = .ok (.bipush 60, 2) := by decide +kernel
theorem dX4_init_31 : decode cX4_init 31 = .ok (.newarray .int, 2) := by decide +kernel
theorem dX4_init_33 : decode cX4_init 33 = .ok (.putfield 21, 3) := by decide +kernel
theorem dX4_init_36 : decode cX4_init 36 = .ok (.aload_n 0, 1) := by decide +kernel
theorem dX4_init_37 : decode cX4_init 37 = .ok (.iconst 0, 1) := by decide +kernel
theorem dX4_init_38 : decode cX4_init 38 = .ok (.putfield 24, 3) := by decide +kernel
theorem dX4_init_41 : decode cX4_init 41 = .ok (.aload_n 0, 1) := by decide +kernel
theorem dX4_init_42 : decode cX4_init 42 = .ok (.iload_n 1, 1) := by decide +kernel
theorem dX4_init_43 : decode cX4_init 43 = .ok (.putfield 28, 3) := by decide +kernel
theorem dX4_init_46 : decode cX4_init 46 = .ok (.return_, 1) := by decide +kernel
theorem dX4_append_0 : decode cX4_append 0 = .ok (.aload_n 0, 1) := by decide +kernel
theorem dX4_append_1 : decode cX4_append 1 = .ok (.getfield 24, 3) := by decide +kernel
theorem dX4_append_4 : decode cX4_append 4 = .ok (.bipush 60, 2) := by decide +kernel
theorem dX4_append_6 : decode cX4_append 6 = .ok (.if_icmp .lt 5, 3) := by decide +kernel
theorem dX4_append_9 : decode cX4_append 9 = .ok (.iconst 0, 1) := by decide +kernel
theorem dX4_append_10 : decode cX4_append 10 = .ok (.ireturn, 1) := by decide +kernel
theorem dX4_append_11 : decode cX4_append 11 = .ok (.aload_n 0, 1) := by decide +kernel
theorem dX4_append_12 : decode cX4_append 12 = .ok (.getfield 9, 3) := by decide +kernel
theorem dX4_append_15 : decode cX4_append 15 = .ok (.aload_n 0, 1) := by decide +kernel
theorem dX4_append_16 : decode cX4_append 16 = .ok (.getfield 24, 3) := by decide +kernel
theorem dX4_append_19 : decode cX4_append 19 = .ok (.iload_n 1, 1) := by decide +kernel
theorem dX4_append_20 : decode cX4_append 20 = .ok (.invokestatic 31, 3) := by decide +kernel
theorem dX4_append_23 : decode cX4_append 23 = .ok (.aload_n 0, 1) := by decide +kernel
theorem dX4_append_24 : decode cX4_append 24 = .ok (.dup, 1) := by decide +kernel
theorem dX4_append_25 : decode cX4_append 25 = .ok (.getfield 24, 3) := by decide +kernel
theorem dX4_append_28 : decode cX4_append 28 = .ok (.iconst 1, 1) := by decide +kernel
theorem dX4_append_29 : decode cX4_append 29 = .ok (.iadd, 1) := by decide +kernel
theorem dX4_append_30 : decode cX4_append 30 = .ok (.putfield 24, 3) := by decide +kernel
theorem dX4_append_33 : decode cX4_append 33 = .ok (.iconst 1, 1) := by decide +kernel
theorem dX4_append_34 : decode cX4_append 34 = .ok (.ireturn, 1) := by decide +kernel
theorem dX4_parse_0 : decode cX4_parse 0 = .ok (.aload_n 1, 1) := by decide +kernel
theorem dX4_parse_1 : decode cX4_parse 1 = .ok (.ifnonnull 5, 3) := by decide +kernel
theorem dX4_parse_4 : decode cX4_parse 4 = .ok (.iconst 0, 1) := by decide +kernel
theorem dX4_parse_5 : decode cX4_parse 5 = .ok (.ireturn, 1) := by decide +kernel
theorem dX4_parse_6 : decode cX4_parse 6 = .ok (.aload_n 0, 1) := by decide +kernel
theorem dX4_parse_7 : decode cX4_parse 7 = .ok (.aload_n 1, 1) := by decide +kernel
theorem dX4_parse_8 : decode cX4_parse 8 = .ok (.putfield 37, 3) := by decide +kernel
theorem dX4_parse_11 : decode cX4_parse 11 = .ok (.aload_n 0, 1) := by decide +kernel
theorem dX4_parse_12 : decode cX4_parse 12 = .ok (.getfield 37, 3) := by decide +kernel
theorem dX4_parse_15 : decode cX4_parse 15 = .ok (.iconst 0, 1) := by decide +kernel
theorem dX4_parse_16 : decode cX4_parse 16 = .ok (.putfield 41, 3) := by decide +kernel
theorem dX4_parse_19 : decode cX4_parse 19 = .ok (.aload_n 0, 1) := by decide +kernel
theorem dX4_parse_20 : decode cX4_parse 20 = .ok (.iconst 0, 1) := by decide +kernel
theorem dX4_parse_21 : decode cX4_parse 21 = .ok (.putfield 46, 3) := by decide +kernel
theorem dX4_parse_24 : decode cX4_parse 24 = .ok (.aload_n 0, 1) := by decide +kernel
theorem dX4_parse_25 : decode cX4_parse 25 = .ok (.iconst 0, 1) := by decide +kernel
theorem dX4_parse_26 : decode cX4_parse 26 = .ok (.putfield 49, 3) := by decide +kernel
theorem dX4_parse_29 : decode cX4_parse 29 = .ok (.aload_n 0, 1) := by decide +kernel
theorem dX4_parse_30 : decode cX4_parse 30 = .ok (.iconst 0, 1) := by decide +kernel
theorem dX4_parse_31 : decode cX4_parse 31 = .ok (.putfield 52, 3) := by decide +kernel
theorem dX4_parse_34 : decode cX4_parse 34 = .ok (.iconst 0, 1) := by decide +kernel
theorem dX4_parse_35 : decode cX4_parse 35 = .ok (.istore_n 2, 1) := by decide +kernel
theorem dX4_parse_36 : decode cX4_parse 36 = .ok (.iload_n 2, 1) := by decide +kernel
theorem dX4_parse_37 : decode cX4_parse 37 = .ok (.aload_n 0, 1) := by decide +kernel
theorem dX4_parse_38 : decode cX4_parse 38 = .ok (.getfield 24, 3) := by decide +kernel
theorem dX4_parse_41 : decode cX4_parse 41 = .ok (.if_icmp .ge 38, 3) := by decide +kernel
theorem dX4_parse_44 : decode cX4_parse 44 = .ok (.aload_n 0, 1) := by decide +kernel
theorem dX4_parse_45 : decode cX4_parse 45 = .ok (.aload_n 0, 1) := by decide +kernel
theorem dX4_parse_46 : decode cX4_parse 46 = .ok (.getfield 9, 3) := by decide +kernel
theorem dX4_parse_49 : decode cX4_parse 49 = .ok (.iload_n 2, 1) := by decide +kernel
theorem dX4_parse_50 : decode cX4_parse 50 = .ok (.invokestatic 55, 3) := by decide +kernel
theorem dX4_parse_53 : decode cX4_parse 53 = .ok (.invokevirtual 59, 3) := by decide +kernel
theorem dX4_parse_56 : decode cX4_parse 56 = .ok (.ifCond .ne 5, 3) := by decide +kernel
theorem dX4_parse_59 : decode cX4_parse 59 = .ok (.iload_n 2, 1) := by decide +kernel
theorem dX4_parse_60 : decode cX4_parse 60 = .ok (.ireturn, 1) := by decide +kernel
theorem dX4_parse_61 : decode cX4_parse 61 = .ok (.aload_n 0, 1) := by decide +kernel
theorem dX4_parse_62 : decode cX4_parse 62 = .ok (.getfield 52, 3) := by decide +kernel
theorem dX4_parse_65 : decode cX4_parse 65 = .ok (.iconst 3, 1) := by decide +kernel
theorem dX4_parse_66 : decode cX4_parse 66 = .ok (.if_icmp .ne 7, 3) := by decide +kernel
theorem dX4_parse_69 : decode cX4_parse 69 = .ok (.aload_n 0, 1) := by decide +kernel
theorem dX4_parse_70 : decode cX4_parse 70 = .ok (.invokevirtual 63, 3) := by decide +kernel
theorem dX4_parse_73 : decode cX4_parse 73 = .ok (.iinc 2 1, 3) := by decide +kernel
theorem dX4_parse_76 : decode cX4_parse 76 = .ok (.goto (-40), 3) := by decide +kernel
theorem dX4_parse_79 : decode cX4_parse 79 = .ok (.aload_n 0, 1) := by decide +kernel
theorem dX4_parse_80 : decode cX4_parse 80 = .ok (.getfield 52, 3) := by decide +kernel
theorem dX4_parse_83 : decode cX4_parse 83 = .ok (.iconst 3, 1) := by decide +kernel
theorem dX4_parse_84 : decode cX4_parse 84 = .ok (.if_icmp .eq 8, 3) := by decide +kernel
theorem dX4_parse_87 : decode cX4_parse 87 = .ok (.aload_n 0, 1) := by decide +kernel
theorem dX4_parse_88 : decode cX4_parse 88 = .ok (.getfield 24, 3) := by decide +kernel
theorem dX4_parse_91 : decode cX4_parse 91 = .ok (.ireturn, 1) := by decide +kernel
theorem dX4_parse_92 : decode cX4_parse 92 = .ok (.aload_n 0, 1) := by decide +kernel
theorem dX4_parse_93 : decode cX4_parse 93 = .ok (.iconst 4, 1) := by decide +kernel
theorem dX4_parse_94 : decode cX4_parse 94 = .ok (.invokevirtual 66, 3) := by decide +kernel
theorem dX4_parse_97 : decode cX4_parse 97 = .ok (.aload_n 0, 1) := by decide +kernel
theorem dX4_parse_98 : decode cX4_parse 98 = .ok (.iconst 5, 1) := by decide +kernel
theorem dX4_parse_99 : decode cX4_parse 99 = .ok (.invokevirtual 66, 3) := by decide +kernel
theorem dX4_parse_102 : decode cX4_parse 102 = .ok (.aload_n 0, 1) := by decide +kernel
theorem dX4_parse_103 : decode cX4_parse 103 = .ok (.getfield 46, 3) := by decide +kernel
theorem dX4_parse_106 : decode cX4_parse 106 = .ok (.ifCond .ne 7, 3) := by decide +kernel
theorem dX4_parse_109 : decode cX4_parse 109 = .ok (.iconst (-1), 1) := by decide +kernel
theorem dX4_parse_110 : decode cX4_parse 110 = .ok (.goto 7, 3) := by decide +kernel
theorem dX4_parse_113 : decode cX4_parse 113 = .ok (.aload_n 0, 1) := by decide +kernel
theorem dX4_parse_114 : decode cX4_parse 114 = .ok (.getfield 24, 3) := by decide +kernel
theorem dX4_parse_117 : decode cX4_parse 117 = .ok (.ireturn, 1) := by decide +kernel
theorem dX4_take_0 : decode cX4_take 0 = .ok (.aload_n 0, 1) := by decide +kernel
theorem dX4_take_1 : decode cX4_take 1 = .ok (.getfield 52, 3) := by decide +kernel
theorem dX4_take_4 : decode cX4_take 4 = .ok (.tableswitch 46 0 2 #[28, 34, 40], 28) := by decide +kernel
theorem dX4_take_32 : decode cX4_take 32 = .ok (.aload_n 0, 1) := by decide +kernel
theorem dX4_take_33 : decode cX4_take 33 = .ok (.iload_n 1, 1) := by decide +kernel
theorem dX4_take_34 : decode cX4_take 34 = .ok (.invokevirtual 70, 3) := by decide +kernel
theorem dX4_take_37 : decode cX4_take 37 = .ok (.ireturn, 1) := by decide +kernel
theorem dX4_take_38 : decode cX4_take 38 = .ok (.aload_n 0, 1) := by decide +kernel
theorem dX4_take_39 : decode cX4_take 39 = .ok (.iload_n 1, 1) := by decide +kernel
theorem dX4_take_40 : decode cX4_take 40 = .ok (.invokevirtual 73, 3) := by decide +kernel
theorem dX4_take_43 : decode cX4_take 43 = .ok (.ireturn, 1) := by decide +kernel
theorem dX4_take_44 : decode cX4_take 44 = .ok (.aload_n 0, 1) := by decide +kernel
theorem dX4_take_45 : decode cX4_take 45 = .ok (.iload_n 1, 1) := by decide +kernel
theorem dX4_take_46 : decode cX4_take 46 = .ok (.invokevirtual 76, 3) := by decide +kernel
theorem dX4_take_49 : decode cX4_take 49 = .ok (.ireturn, 1) := by decide +kernel
theorem dX4_take_50 : decode cX4_take 50 = .ok (.aload_n 0, 1) := by decide +kernel
theorem dX4_take_51 : decode cX4_take 51 = .ok (.iload_n 1, 1) := by decide +kernel
theorem dX4_take_52 : decode cX4_take 52 = .ok (.invokevirtual 79, 3) := by decide +kernel
theorem dX4_take_55 : decode cX4_take 55 = .ok (.ireturn, 1) := by decide +kernel
theorem dX4_takeUnit_0 : decode cX4_takeUnit 0 = .ok (.iload_n 1, 1) := by decide +kernel
theorem dX4_takeUnit_1 : decode cX4_takeUnit 1 = .ok (.bipush 97, 2) := by decide +kernel
theorem dX4_takeUnit_3 : decode cX4_takeUnit 3 = .ok (.if_icmp .lt 19, 3) := by decide +kernel
theorem dX4_takeUnit_6 : decode cX4_takeUnit 6 = .ok (.iload_n 1, 1) := by decide +kernel
theorem dX4_takeUnit_7 : decode cX4_takeUnit 7 = .ok (.bipush 122, 2) := by decide +kernel
theorem dX4_takeUnit_9 : decode cX4_takeUnit 9 = .ok (.if_icmp .gt 13, 3) := by decide +kernel
theorem dX4_takeUnit_12 : decode cX4_takeUnit 12 = .ok (.aload_n 0, 1) := by decide +kernel
theorem dX4_takeUnit_13 : decode cX4_takeUnit 13 = .ok (.iconst 2, 1) := by decide +kernel
theorem dX4_takeUnit_14 : decode cX4_takeUnit 14 = .ok (.iload_n 1, 1) := by decide +kernel
theorem dX4_takeUnit_15 : decode cX4_takeUnit 15 = .ok (.bipush 97, 2) := by decide +kernel
theorem dX4_takeUnit_17 : decode cX4_takeUnit 17 = .ok (.isub, 1) := by decide +kernel
theorem dX4_takeUnit_18 : decode cX4_takeUnit 18 = .ok (.invokevirtual 82, 3) := by decide +kernel
theorem dX4_takeUnit_21 : decode cX4_takeUnit 21 = .ok (.ireturn, 1) := by decide +kernel
theorem dX4_takeUnit_22 : decode cX4_takeUnit 22 = .ok (.iload_n 1, 1) := by decide +kernel
theorem dX4_takeUnit_23 : decode cX4_takeUnit 23 = .ok (.lookupswitch 113 #[(33, 71), (40, 78), (48, 57), (49, 64), (60, 86), (91, 86)], 57) := by decide +kernel
theorem dX4_takeUnit_80 : decode cX4_takeUnit 80 = .ok (.aload_n 0, 1) := by decide +kernel
theorem dX4_takeUnit_81 : decode cX4_takeUnit 81 = .ok (.iconst 0, 1) := by decide +kernel
theorem dX4_takeUnit_82 : decode cX4_takeUnit 82 = .ok (.iconst 0, 1) := by decide +kernel
theorem dX4_takeUnit_83 : decode cX4_takeUnit 83 = .ok (.invokevirtual 82, 3) := by decide +kernel
theorem dX4_takeUnit_86 : decode cX4_takeUnit 86 = .ok (.ireturn, 1) := by decide +kernel
theorem dX4_takeUnit_87 : decode cX4_takeUnit 87 = .ok (.aload_n 0, 1) := by decide +kernel
theorem dX4_takeUnit_88 : decode cX4_takeUnit 88 = .ok (.iconst 1, 1) := by decide +kernel
theorem dX4_takeUnit_89 : decode cX4_takeUnit 89 = .ok (.iconst 0, 1) := by decide +kernel
theorem dX4_takeUnit_90 : decode cX4_takeUnit 90 = .ok (.invokevirtual 82, 3) := by decide +kernel
theorem dX4_takeUnit_93 : decode cX4_takeUnit 93 = .ok (.ireturn, 1) := by decide +kernel
theorem dX4_takeUnit_94 : decode cX4_takeUnit 94 = .ok (.aload_n 0, 1) := by decide +kernel
theorem dX4_takeUnit_95 : decode cX4_takeUnit 95 = .ok (.iconst 3, 1) := by decide +kernel
theorem dX4_takeUnit_96 : decode cX4_takeUnit 96 = .ok (.iconst 0, 1) := by decide +kernel
theorem dX4_takeUnit_97 : decode cX4_takeUnit 97 = .ok (.invokevirtual 86, 3) := by decide +kernel
theorem dX4_takeUnit_100 : decode cX4_takeUnit 100 = .ok (.ireturn, 1) := by decide +kernel
theorem dX4_takeUnit_101 : decode cX4_takeUnit 101 = .ok (.aload_n 0, 1) := by decide +kernel
theorem dX4_takeUnit_102 : decode cX4_takeUnit 102 = .ok (.bipush 14, 2) := by decide +kernel
theorem dX4_takeUnit_104 : decode cX4_takeUnit 104 = .ok (.iconst 0, 1) := by decide +kernel
theorem dX4_takeUnit_105 : decode cX4_takeUnit 105 = .ok (.invokevirtual 86, 3) := by decide +kernel
theorem dX4_takeUnit_108 : decode cX4_takeUnit 108 = .ok (.ireturn, 1) := by decide +kernel
theorem dX4_takeUnit_109 : decode cX4_takeUnit 109 = .ok (.aload_n 0, 1) := by decide +kernel
theorem dX4_takeUnit_110 : decode cX4_takeUnit 110 = .ok (.iconst 0, 1) := by decide +kernel
theorem dX4_takeUnit_111 : decode cX4_takeUnit 111 = .ok (.putfield 89, 3) := by decide +kernel
theorem dX4_takeUnit_114 : decode cX4_takeUnit 114 = .ok (.aload_n 0, 1) := by decide +kernel
theorem dX4_takeUnit_115 : decode cX4_takeUnit 115 = .ok (.iload_n 1, 1) := by decide +kernel
theorem dX4_takeUnit_116 : decode cX4_takeUnit 116 = .ok (.bipush 91, 2) := by decide +kernel
theorem dX4_takeUnit_118 : decode cX4_takeUnit 118 = .ok (.if_icmp .ne 7, 3) := by decide +kernel
theorem dX4_takeUnit_121 : decode cX4_takeUnit 121 = .ok (.iconst 4, 1) := by decide +kernel
theorem dX4_takeUnit_122 : decode cX4_takeUnit 122 = .ok (.goto 4, 3) := by decide +kernel
theorem dX4_takeUnit_125 : decode cX4_takeUnit 125 = .ok (.iconst 0, 1) := by decide +kernel
theorem dX4_takeUnit_126 : decode cX4_takeUnit 126 = .ok (.putfield 92, 3) := by decide +kernel
theorem dX4_takeUnit_129 : decode cX4_takeUnit 129 = .ok (.aload_n 0, 1) := by decide +kernel
theorem dX4_takeUnit_130 : decode cX4_takeUnit 130 = .ok (.iconst 1, 1) := by decide +kernel
theorem dX4_takeUnit_131 : decode cX4_takeUnit 131 = .ok (.putfield 52, 3) := by decide +kernel
theorem dX4_takeUnit_134 : decode cX4_takeUnit 134 = .ok (.iconst 1, 1) := by decide +kernel
theorem dX4_takeUnit_135 : decode cX4_takeUnit 135 = .ok (.ireturn, 1) := by decide +kernel
theorem dX4_takeUnit_136 : decode cX4_takeUnit 136 = .ok (.iconst 0, 1) := by decide +kernel
theorem dX4_takeUnit_137 : decode cX4_takeUnit 137 = .ok (.ireturn, 1) := by decide +kernel
theorem dX4_takeAgent_0 : decode cX4_takeAgent 0 = .ok (.iload_n 1, 1) := by decide +kernel
theorem dX4_takeAgent_1 : decode cX4_takeAgent 1 = .ok (.aload_n 0, 1) := by decide +kernel
theorem dX4_takeAgent_2 : decode cX4_takeAgent 2 = .ok (.getfield 92, 3) := by decide +kernel
theorem dX4_takeAgent_5 : decode cX4_takeAgent 5 = .ok (.ifCond .ne 8, 3) := by decide +kernel
theorem dX4_takeAgent_8 : decode cX4_takeAgent 8 = .ok (.bipush 62, 2) := by decide +kernel
theorem dX4_takeAgent_10 : decode cX4_takeAgent 10 = .ok (.goto 5, 3) := by decide +kernel
theorem dX4_takeAgent_13 : decode cX4_takeAgent 13 = .ok (.bipush 93, 2) := by decide +kernel
theorem dX4_takeAgent_15 : decode cX4_takeAgent 15 = .ok (.if_icmp .ne 10, 3) := by decide +kernel
theorem dX4_takeAgent_18 : decode cX4_takeAgent 18 = .ok (.aload_n 0, 1) := by decide +kernel
theorem dX4_takeAgent_19 : decode cX4_takeAgent 19 = .ok (.iconst 2, 1) := by decide +kernel
theorem dX4_takeAgent_20 : decode cX4_takeAgent 20 = .ok (.putfield 52, 3) := by decide +kernel
theorem dX4_takeAgent_23 : decode cX4_takeAgent 23 = .ok (.iconst 1, 1) := by decide +kernel
theorem dX4_takeAgent_24 : decode cX4_takeAgent 24 = .ok (.ireturn, 1) := by decide +kernel
theorem dX4_takeAgent_25 : decode cX4_takeAgent 25 = .ok (.iload_n 1, 1) := by decide +kernel
theorem dX4_takeAgent_26 : decode cX4_takeAgent 26 = .ok (.bipush 48, 2) := by decide +kernel
theorem dX4_takeAgent_28 : decode cX4_takeAgent 28 = .ok (.isub, 1) := by decide +kernel
theorem dX4_takeAgent_29 : decode cX4_takeAgent 29 = .ok (.istore_n 2, 1) := by decide +kernel
theorem dX4_takeAgent_30 : decode cX4_takeAgent 30 = .ok (.iload_n 2, 1) := by decide +kernel
theorem dX4_takeAgent_31 : decode cX4_takeAgent 31 = .ok (.ifCond .lt 20, 3) := by decide +kernel
theorem dX4_takeAgent_34 : decode cX4_takeAgent 34 = .ok (.iload_n 2, 1) := by decide +kernel
theorem dX4_takeAgent_35 : decode cX4_takeAgent 35 = .ok (.aload_n 0, 1) := by decide +kernel
theorem dX4_takeAgent_36 : decode cX4_takeAgent 36 = .ok (.getfield 28, 3) := by decide +kernel
theorem dX4_takeAgent_39 : decode cX4_takeAgent 39 = .ok (.if_icmp .ge 12, 3) := by decide +kernel
theorem dX4_takeAgent_42 : decode cX4_takeAgent 42 = .ok (.aload_n 0, 1) := by decide +kernel
theorem dX4_takeAgent_43 : decode cX4_takeAgent 43 = .ok (.getfield 89, 3) := by decide +kernel
theorem dX4_takeAgent_46 : decode cX4_takeAgent 46 = .ok (.iload_n 2, 1) := by decide +kernel
theorem dX4_takeAgent_47 : decode cX4_takeAgent 47 = .ok (.ishr, 1) := by decide +kernel
theorem dX4_takeAgent_48 : decode cX4_takeAgent 48 = .ok (.ifCond .eq 5, 3) := by decide +kernel
theorem dX4_takeAgent_51 : decode cX4_takeAgent 51 = .ok (.iconst 0, 1) := by decide +kernel
theorem dX4_takeAgent_52 : decode cX4_takeAgent 52 = .ok (.ireturn, 1) := by decide +kernel
theorem dX4_takeAgent_53 : decode cX4_takeAgent 53 = .ok (.aload_n 0, 1) := by decide +kernel
theorem dX4_takeAgent_54 : decode cX4_takeAgent 54 = .ok (.dup, 1) := by decide +kernel
theorem dX4_takeAgent_55 : decode cX4_takeAgent 55 = .ok (.getfield 89, 3) := by decide +kernel
theorem dX4_takeAgent_58 : decode cX4_takeAgent 58 = .ok (.iconst 1, 1) := by decide +kernel
theorem dX4_takeAgent_59 : decode cX4_takeAgent 59 = .ok (.iload_n 2, 1) := by decide +kernel
theorem dX4_takeAgent_60 : decode cX4_takeAgent 60 = .ok (.ishl, 1) := by decide +kernel
theorem dX4_takeAgent_61 : decode cX4_takeAgent 61 = .ok (.ior, 1) := by decide +kernel
theorem dX4_takeAgent_62 : decode cX4_takeAgent 62 = .ok (.putfield 89, 3) := by decide +kernel
theorem dX4_takeAgent_65 : decode cX4_takeAgent 65 = .ok (.iconst 1, 1) := by decide +kernel
theorem dX4_takeAgent_66 : decode cX4_takeAgent 66 = .ok (.ireturn, 1) := by decide +kernel
theorem dX4_takeGoal_0 : decode cX4_takeGoal 0 = .ok (.iload_n 1, 1) := by decide +kernel
theorem dX4_takeGoal_1 : decode cX4_takeGoal 1 = .ok (.lookupswitch 107 #[(40, 91), (70, 59), (71, 75), (88, 43)], 43) := by decide +kernel
theorem dX4_takeGoal_44 : decode cX4_takeGoal 44 = .ok (.aload_n 0, 1) := by decide +kernel
theorem dX4_takeGoal_45 : decode cX4_takeGoal 45 = .ok (.bipush 6, 2) := by decide +kernel
theorem dX4_takeGoal_47 : decode cX4_takeGoal 47 = .ok (.aload_n 0, 1) := by decide +kernel
theorem dX4_takeGoal_48 : decode cX4_takeGoal 48 = .ok (.getfield 92, 3) := by decide +kernel
theorem dX4_takeGoal_51 : decode cX4_takeGoal 51 = .ok (.iadd, 1) := by decide +kernel
theorem dX4_takeGoal_52 : decode cX4_takeGoal 52 = .ok (.aload_n 0, 1) := by decide +kernel
theorem dX4_takeGoal_53 : decode cX4_takeGoal 53 = .ok (.getfield 89, 3) := by decide +kernel
theorem dX4_takeGoal_56 : decode cX4_takeGoal 56 = .ok (.invokevirtual 86, 3) := by decide +kernel
theorem dX4_takeGoal_59 : decode cX4_takeGoal 59 = .ok (.ireturn, 1) := by decide +kernel
theorem dX4_takeGoal_60 : decode cX4_takeGoal 60 = .ok (.aload_n 0, 1) := by decide +kernel
theorem dX4_takeGoal_61 : decode cX4_takeGoal 61 = .ok (.bipush 7, 2) := by decide +kernel
theorem dX4_takeGoal_63 : decode cX4_takeGoal 63 = .ok (.aload_n 0, 1) := by decide +kernel
theorem dX4_takeGoal_64 : decode cX4_takeGoal 64 = .ok (.getfield 92, 3) := by decide +kernel
theorem dX4_takeGoal_67 : decode cX4_takeGoal 67 = .ok (.iadd, 1) := by decide +kernel
theorem dX4_takeGoal_68 : decode cX4_takeGoal 68 = .ok (.aload_n 0, 1) := by decide +kernel
theorem dX4_takeGoal_69 : decode cX4_takeGoal 69 = .ok (.getfield 89, 3) := by decide +kernel
theorem dX4_takeGoal_72 : decode cX4_takeGoal 72 = .ok (.invokevirtual 86, 3) := by decide +kernel
theorem dX4_takeGoal_75 : decode cX4_takeGoal 75 = .ok (.ireturn, 1) := by decide +kernel
theorem dX4_takeGoal_76 : decode cX4_takeGoal 76 = .ok (.aload_n 0, 1) := by decide +kernel
theorem dX4_takeGoal_77 : decode cX4_takeGoal 77 = .ok (.bipush 8, 2) := by decide +kernel
theorem dX4_takeGoal_79 : decode cX4_takeGoal 79 = .ok (.aload_n 0, 1) := by decide +kernel
theorem dX4_takeGoal_80 : decode cX4_takeGoal 80 = .ok (.getfield 92, 3) := by decide +kernel
theorem dX4_takeGoal_83 : decode cX4_takeGoal 83 = .ok (.iadd, 1) := by decide +kernel
theorem dX4_takeGoal_84 : decode cX4_takeGoal 84 = .ok (.aload_n 0, 1) := by decide +kernel
theorem dX4_takeGoal_85 : decode cX4_takeGoal 85 = .ok (.getfield 89, 3) := by decide +kernel
theorem dX4_takeGoal_88 : decode cX4_takeGoal 88 = .ok (.invokevirtual 86, 3) := by decide +kernel
theorem dX4_takeGoal_91 : decode cX4_takeGoal 91 = .ok (.ireturn, 1) := by decide +kernel
theorem dX4_takeGoal_92 : decode cX4_takeGoal 92 = .ok (.aload_n 0, 1) := by decide +kernel
theorem dX4_takeGoal_93 : decode cX4_takeGoal 93 = .ok (.bipush 15, 2) := by decide +kernel
theorem dX4_takeGoal_95 : decode cX4_takeGoal 95 = .ok (.aload_n 0, 1) := by decide +kernel
theorem dX4_takeGoal_96 : decode cX4_takeGoal 96 = .ok (.getfield 92, 3) := by decide +kernel
theorem dX4_takeGoal_99 : decode cX4_takeGoal 99 = .ok (.iadd, 1) := by decide +kernel
theorem dX4_takeGoal_100 : decode cX4_takeGoal 100 = .ok (.aload_n 0, 1) := by decide +kernel
theorem dX4_takeGoal_101 : decode cX4_takeGoal 101 = .ok (.getfield 89, 3) := by decide +kernel
theorem dX4_takeGoal_104 : decode cX4_takeGoal 104 = .ok (.invokevirtual 86, 3) := by decide +kernel
theorem dX4_takeGoal_107 : decode cX4_takeGoal 107 = .ok (.ireturn, 1) := by decide +kernel
theorem dX4_takeGoal_108 : decode cX4_takeGoal 108 = .ok (.iconst 0, 1) := by decide +kernel
theorem dX4_takeGoal_109 : decode cX4_takeGoal 109 = .ok (.ireturn, 1) := by decide +kernel
theorem dX4_takeAfterUnit_0 : decode cX4_takeAfterUnit 0 = .ok (.aload_n 0, 1) := by decide +kernel
theorem dX4_takeAfterUnit_1 : decode cX4_takeAfterUnit 1 = .ok (.iconst 4, 1) := by decide +kernel
theorem dX4_takeAfterUnit_2 : decode cX4_takeAfterUnit 2 = .ok (.invokevirtual 66, 3) := by decide +kernel
theorem dX4_takeAfterUnit_5 : decode cX4_takeAfterUnit 5 = .ok (.iload_n 1, 1) := by decide +kernel
theorem dX4_takeAfterUnit_6 : decode cX4_takeAfterUnit 6 = .ok (.bipush 38, 2) := by decide +kernel
theorem dX4_takeAfterUnit_8 : decode cX4_takeAfterUnit 8 = .ok (.if_icmp .ne 10, 3) := by decide +kernel
theorem dX4_takeAfterUnit_11 : decode cX4_takeAfterUnit 11 = .ok (.aload_n 0, 1) := by decide +kernel
theorem dX4_takeAfterUnit_12 : decode cX4_takeAfterUnit 12 = .ok (.iconst 4, 1) := by decide +kernel
theorem dX4_takeAfterUnit_13 : decode cX4_takeAfterUnit 13 = .ok (.iconst 0, 1) := by decide +kernel
theorem dX4_takeAfterUnit_14 : decode cX4_takeAfterUnit 14 = .ok (.invokevirtual 86, 3) := by decide +kernel
theorem dX4_takeAfterUnit_17 : decode cX4_takeAfterUnit 17 = .ok (.ireturn, 1) := by decide +kernel
theorem dX4_takeAfterUnit_18 : decode cX4_takeAfterUnit 18 = .ok (.aload_n 0, 1) := by decide +kernel
theorem dX4_takeAfterUnit_19 : decode cX4_takeAfterUnit 19 = .ok (.iconst 5, 1) := by decide +kernel
theorem dX4_takeAfterUnit_20 : decode cX4_takeAfterUnit 20 = .ok (.invokevirtual 66, 3) := by decide +kernel
theorem dX4_takeAfterUnit_23 : decode cX4_takeAfterUnit 23 = .ok (.iload_n 1, 1) := by decide +kernel
theorem dX4_takeAfterUnit_24 : decode cX4_takeAfterUnit 24 = .ok (.lookupswitch 53 #[(41, 48), (85, 43), (124, 36)], 36) := by decide +kernel
theorem dX4_takeAfterUnit_60 : decode cX4_takeAfterUnit 60 = .ok (.aload_n 0, 1) := by decide +kernel
theorem dX4_takeAfterUnit_61 : decode cX4_takeAfterUnit 61 = .ok (.iconst 5, 1) := by decide +kernel
theorem dX4_takeAfterUnit_62 : decode cX4_takeAfterUnit 62 = .ok (.iconst 0, 1) := by decide +kernel
theorem dX4_takeAfterUnit_63 : decode cX4_takeAfterUnit 63 = .ok (.invokevirtual 86, 3) := by decide +kernel
theorem dX4_takeAfterUnit_66 : decode cX4_takeAfterUnit 66 = .ok (.ireturn, 1) := by decide +kernel
theorem dX4_takeAfterUnit_67 : decode cX4_takeAfterUnit 67 = .ok (.aload_n 0, 1) := by decide +kernel
theorem dX4_takeAfterUnit_68 : decode cX4_takeAfterUnit 68 = .ok (.invokevirtual 95, 3) := by decide +kernel
theorem dX4_takeAfterUnit_71 : decode cX4_takeAfterUnit 71 = .ok (.ireturn, 1) := by decide +kernel
theorem dX4_takeAfterUnit_72 : decode cX4_takeAfterUnit 72 = .ok (.aload_n 0, 1) := by decide +kernel
theorem dX4_takeAfterUnit_73 : decode cX4_takeAfterUnit 73 = .ok (.invokevirtual 99, 3) := by decide +kernel
theorem dX4_takeAfterUnit_76 : decode cX4_takeAfterUnit 76 = .ok (.ireturn, 1) := by decide +kernel
theorem dX4_takeAfterUnit_77 : decode cX4_takeAfterUnit 77 = .ok (.iconst 0, 1) := by decide +kernel
theorem dX4_takeAfterUnit_78 : decode cX4_takeAfterUnit 78 = .ok (.ireturn, 1) := by decide +kernel
theorem dX4_takeUntil_0 : decode cX4_takeUntil 0 = .ok (.aload_n 0, 1) := by decide +kernel
theorem dX4_takeUntil_1 : decode cX4_takeUntil 1 = .ok (.invokevirtual 102, 3) := by decide +kernel
theorem dX4_takeUntil_4 : decode cX4_takeUntil 4 = .ok (.istore_n 1, 1) := by decide +kernel
theorem dX4_takeUntil_5 : decode cX4_takeUntil 5 = .ok (.iload_n 1, 1) := by decide +kernel
theorem dX4_takeUntil_6 : decode cX4_takeUntil 6 = .ok (.bipush 15, 2) := by decide +kernel
theorem dX4_takeUntil_8 : decode cX4_takeUntil 8 = .ok (.if_icmp .eq 11, 3) := by decide +kernel
theorem dX4_takeUntil_11 : decode cX4_takeUntil 11 = .ok (.iload_n 1, 1) := by decide +kernel
theorem dX4_takeUntil_12 : decode cX4_takeUntil 12 = .ok (.bipush 19, 2) := by decide +kernel
theorem dX4_takeUntil_14 : decode cX4_takeUntil 14 = .ok (.if_icmp .eq 5, 3) := by decide +kernel
theorem dX4_takeUntil_17 : decode cX4_takeUntil 17 = .ok (.iconst 0, 1) := by decide +kernel
theorem dX4_takeUntil_18 : decode cX4_takeUntil 18 = .ok (.ireturn, 1) := by decide +kernel
theorem dX4_takeUntil_19 : decode cX4_takeUntil 19 = .ok (.aload_n 0, 1) := by decide +kernel
theorem dX4_takeUntil_20 : decode cX4_takeUntil 20 = .ok (.getfield 15, 3) := by decide +kernel
theorem dX4_takeUntil_23 : decode cX4_takeUntil 23 = .ok (.aload_n 0, 1) := by decide +kernel
theorem dX4_takeUntil_24 : decode cX4_takeUntil 24 = .ok (.getfield 46, 3) := by decide +kernel
theorem dX4_takeUntil_27 : decode cX4_takeUntil 27 = .ok (.iconst 1, 1) := by decide +kernel
theorem dX4_takeUntil_28 : decode cX4_takeUntil 28 = .ok (.isub, 1) := by decide +kernel
theorem dX4_takeUntil_29 : decode cX4_takeUntil 29 = .ok (.iload_n 1, 1) := by decide +kernel
theorem dX4_takeUntil_30 : decode cX4_takeUntil 30 = .ok (.bipush 15, 2) := by decide +kernel
theorem dX4_takeUntil_32 : decode cX4_takeUntil 32 = .ok (.isub, 1) := by decide +kernel
theorem dX4_takeUntil_33 : decode cX4_takeUntil 33 = .ok (.bipush 9, 2) := by decide +kernel
theorem dX4_takeUntil_35 : decode cX4_takeUntil 35 = .ok (.iadd, 1) := by decide +kernel
theorem dX4_takeUntil_36 : decode cX4_takeUntil 36 = .ok (.invokestatic 31, 3) := by decide +kernel
theorem dX4_takeUntil_39 : decode cX4_takeUntil 39 = .ok (.aload_n 0, 1) := by decide +kernel
theorem dX4_takeUntil_40 : decode cX4_takeUntil 40 = .ok (.iconst 0, 1) := by decide +kernel
theorem dX4_takeUntil_41 : decode cX4_takeUntil 41 = .ok (.putfield 52, 3) := by decide +kernel
theorem dX4_takeUntil_44 : decode cX4_takeUntil 44 = .ok (.iconst 1, 1) := by decide +kernel
theorem dX4_takeUntil_45 : decode cX4_takeUntil 45 = .ok (.ireturn, 1) := by decide +kernel
theorem dX4_takeBracket_0 : decode cX4_takeBracket 0 = .ok (.aload_n 0, 1) := by decide +kernel
theorem dX4_takeBracket_1 : decode cX4_takeBracket 1 = .ok (.invokevirtual 102, 3) := by decide +kernel
theorem dX4_takeBracket_4 : decode cX4_takeBracket 4 = .ok (.istore_n 1, 1) := by decide +kernel
theorem dX4_takeBracket_5 : decode cX4_takeBracket 5 = .ok (.iload_n 1, 1) := by decide +kernel
theorem dX4_takeBracket_6 : decode cX4_takeBracket 6 = .ok (.bipush 14, 2) := by decide +kernel
theorem dX4_takeBracket_8 : decode cX4_takeBracket 8 = .ok (.if_icmp .ne 16, 3) := by decide +kernel
theorem dX4_takeBracket_11 : decode cX4_takeBracket 11 = .ok (.aload_n 0, 1) := by decide +kernel
theorem dX4_takeBracket_12 : decode cX4_takeBracket 12 = .ok (.dup, 1) := by decide +kernel
theorem dX4_takeBracket_13 : decode cX4_takeBracket 13 = .ok (.getfield 46, 3) := by decide +kernel
theorem dX4_takeBracket_16 : decode cX4_takeBracket 16 = .ok (.iconst 1, 1) := by decide +kernel
theorem dX4_takeBracket_17 : decode cX4_takeBracket 17 = .ok (.isub, 1) := by decide +kernel
theorem dX4_takeBracket_18 : decode cX4_takeBracket 18 = .ok (.putfield 46, 3) := by decide +kernel
theorem dX4_takeBracket_21 : decode cX4_takeBracket 21 = .ok (.goto 24, 3) := by decide +kernel
theorem dX4_takeBracket_24 : decode cX4_takeBracket 24 = .ok (.iload_n 1, 1) := by decide +kernel
theorem dX4_takeBracket_25 : decode cX4_takeBracket 25 = .ok (.bipush 9, 2) := by decide +kernel
theorem dX4_takeBracket_27 : decode cX4_takeBracket 27 = .ok (.if_icmp .eq 9, 3) := by decide +kernel
theorem dX4_takeBracket_30 : decode cX4_takeBracket 30 = .ok (.iload_n 1, 1) := by decide +kernel
theorem dX4_takeBracket_31 : decode cX4_takeBracket 31 = .ok (.bipush 13, 2) := by decide +kernel
theorem dX4_takeBracket_33 : decode cX4_takeBracket 33 = .ok (.if_icmp .ne 10, 3) := by decide +kernel
theorem dX4_takeBracket_36 : decode cX4_takeBracket 36 = .ok (.aload_n 0, 1) := by decide +kernel
theorem dX4_takeBracket_37 : decode cX4_takeBracket 37 = .ok (.invokevirtual 106, 3) := by decide +kernel
theorem dX4_takeBracket_40 : decode cX4_takeBracket 40 = .ok (.goto 5, 3) := by decide +kernel
theorem dX4_takeBracket_43 : decode cX4_takeBracket 43 = .ok (.iconst 0, 1) := by decide +kernel
theorem dX4_takeBracket_44 : decode cX4_takeBracket 44 = .ok (.ireturn, 1) := by decide +kernel
theorem dX4_takeBracket_45 : decode cX4_takeBracket 45 = .ok (.aload_n 0, 1) := by decide +kernel
theorem dX4_takeBracket_46 : decode cX4_takeBracket 46 = .ok (.iconst 3, 1) := by decide +kernel
theorem dX4_takeBracket_47 : decode cX4_takeBracket 47 = .ok (.putfield 52, 3) := by decide +kernel
theorem dX4_takeBracket_50 : decode cX4_takeBracket 50 = .ok (.iconst 1, 1) := by decide +kernel
theorem dX4_takeBracket_51 : decode cX4_takeBracket 51 = .ok (.ireturn, 1) := by decide +kernel
theorem dX4_addLeaf_0 : decode cX4_addLeaf 0 = .ok (.aload_n 0, 1) := by decide +kernel
theorem dX4_addLeaf_1 : decode cX4_addLeaf 1 = .ok (.aload_n 0, 1) := by decide +kernel
theorem dX4_addLeaf_2 : decode cX4_addLeaf 2 = .ok (.getfield 37, 3) := by decide +kernel
theorem dX4_addLeaf_5 : decode cX4_addLeaf 5 = .ok (.iload_n 1, 1) := by decide +kernel
theorem dX4_addLeaf_6 : decode cX4_addLeaf 6 = .ok (.iload_n 2, 1) := by decide +kernel
theorem dX4_addLeaf_7 : decode cX4_addLeaf 7 = .ok (.iconst 0, 1) := by decide +kernel
theorem dX4_addLeaf_8 : decode cX4_addLeaf 8 = .ok (.iconst 0, 1) := by decide +kernel
theorem dX4_addLeaf_9 : decode cX4_addLeaf 9 = .ok (.invokevirtual 109, 3) := by decide +kernel
theorem dX4_addLeaf_12 : decode cX4_addLeaf 12 = .ok (.invokevirtual 113, 3) := by decide +kernel
theorem dX4_addLeaf_15 : decode cX4_addLeaf 15 = .ok (.aload_n 0, 1) := by decide +kernel
theorem dX4_addLeaf_16 : decode cX4_addLeaf 16 = .ok (.iconst 3, 1) := by decide +kernel
theorem dX4_addLeaf_17 : decode cX4_addLeaf 17 = .ok (.putfield 52, 3) := by decide +kernel
theorem dX4_addLeaf_20 : decode cX4_addLeaf 20 = .ok (.iconst 1, 1) := by decide +kernel
theorem dX4_addLeaf_21 : decode cX4_addLeaf 21 = .ok (.ireturn, 1) := by decide +kernel
theorem dX4_closePrefixes_0 : decode cX4_closePrefixes 0 = .ok (.aload_n 0, 1) := by decide +kernel
theorem dX4_closePrefixes_1 : decode cX4_closePrefixes 1 = .ok (.getfield 46, 3) := by decide +kernel
theorem dX4_closePrefixes_4 : decode cX4_closePrefixes 4 = .ok (.istore_n 1, 1) := by decide +kernel
theorem dX4_closePrefixes_5 : decode cX4_closePrefixes 5 = .ok (.iload_n 1, 1) := by decide +kernel
theorem dX4_closePrefixes_6 : decode cX4_closePrefixes 6 = .ok (.ifCond .le 23, 3) := by decide +kernel
theorem dX4_closePrefixes_9 : decode cX4_closePrefixes 9 = .ok (.aload_n 0, 1) := by decide +kernel
theorem dX4_closePrefixes_10 : decode cX4_closePrefixes 10 = .ok (.invokevirtual 102, 3) := by decide +kernel
theorem dX4_closePrefixes_13 : decode cX4_closePrefixes 13 = .ok (.invokestatic 116, 3) := by decide +kernel
theorem dX4_closePrefixes_16 : decode cX4_closePrefixes 16 = .ok (.ifCond .eq 13, 3) := by decide +kernel
theorem dX4_closePrefixes_19 : decode cX4_closePrefixes 19 = .ok (.aload_n 0, 1) := by decide +kernel
theorem dX4_closePrefixes_20 : decode cX4_closePrefixes 20 = .ok (.invokevirtual 106, 3) := by decide +kernel
theorem dX4_closePrefixes_23 : decode cX4_closePrefixes 23 = .ok (.iinc 1 (-1), 3) := by decide +kernel
theorem dX4_closePrefixes_26 : decode cX4_closePrefixes 26 = .ok (.goto (-21), 3) := by decide +kernel
theorem dX4_closePrefixes_29 : decode cX4_closePrefixes 29 = .ok (.return_, 1) := by decide +kernel
theorem dX4_isPrefix_0 : decode cX4_isPrefix 0 = .ok (.iload_n 0, 1) := by decide +kernel
theorem dX4_isPrefix_1 : decode cX4_isPrefix 1 = .ok (.iconst 3, 1) := by decide +kernel
theorem dX4_isPrefix_2 : decode cX4_isPrefix 2 = .ok (.if_icmp .ne 5, 3) := by decide +kernel
theorem dX4_isPrefix_5 : decode cX4_isPrefix 5 = .ok (.iconst 1, 1) := by decide +kernel
theorem dX4_isPrefix_6 : decode cX4_isPrefix 6 = .ok (.ireturn, 1) := by decide +kernel
theorem dX4_isPrefix_7 : decode cX4_isPrefix 7 = .ok (.iload_n 0, 1) := by decide +kernel
theorem dX4_isPrefix_8 : decode cX4_isPrefix 8 = .ok (.bipush 9, 2) := by decide +kernel
theorem dX4_isPrefix_10 : decode cX4_isPrefix 10 = .ok (.if_icmp .le 9, 3) := by decide +kernel
theorem dX4_isPrefix_13 : decode cX4_isPrefix 13 = .ok (.iload_n 0, 1) := by decide +kernel
theorem dX4_isPrefix_14 : decode cX4_isPrefix 14 = .ok (.iconst 4, 1) := by decide +kernel
theorem dX4_isPrefix_15 : decode cX4_isPrefix 15 = .ok (.isub, 1) := by decide +kernel
theorem dX4_isPrefix_16 : decode cX4_isPrefix 16 = .ok (.goto 4, 3) := by decide +kernel
theorem dX4_isPrefix_19 : decode cX4_isPrefix 19 = .ok (.iload_n 0, 1) := by decide +kernel
theorem dX4_isPrefix_20 : decode cX4_isPrefix 20 = .ok (.istore_n 1, 1) := by decide +kernel
theorem dX4_isPrefix_21 : decode cX4_isPrefix 21 = .ok (.iload_n 1, 1) := by decide +kernel
theorem dX4_isPrefix_22 : decode cX4_isPrefix 22 = .ok (.bipush 6, 2) := by decide +kernel
theorem dX4_isPrefix_24 : decode cX4_isPrefix 24 = .ok (.if_icmp .lt 13, 3) := by decide +kernel
theorem dX4_isPrefix_27 : decode cX4_isPrefix 27 = .ok (.iload_n 1, 1) := by decide +kernel
theorem dX4_isPrefix_28 : decode cX4_isPrefix 28 = .ok (.bipush 8, 2) := by decide +kernel
theorem dX4_isPrefix_30 : decode cX4_isPrefix 30 = .ok (.if_icmp .gt 7, 3) := by decide +kernel
theorem dX4_isPrefix_33 : decode cX4_isPrefix 33 = .ok (.iconst 1, 1) := by decide +kernel
theorem dX4_isPrefix_34 : decode cX4_isPrefix 34 = .ok (.goto 4, 3) := by decide +kernel
theorem dX4_isPrefix_37 : decode cX4_isPrefix 37 = .ok (.iconst 0, 1) := by decide +kernel
theorem dX4_isPrefix_38 : decode cX4_isPrefix 38 = .ok (.ireturn, 1) := by decide +kernel
theorem dX4_closeIf_0 : decode cX4_closeIf 0 = .ok (.aload_n 0, 1) := by decide +kernel
theorem dX4_closeIf_1 : decode cX4_closeIf 1 = .ok (.invokevirtual 102, 3) := by decide +kernel
theorem dX4_closeIf_4 : decode cX4_closeIf 4 = .ok (.iload_n 1, 1) := by decide +kernel
theorem dX4_closeIf_5 : decode cX4_closeIf 5 = .ok (.if_icmp .ne 7, 3) := by decide +kernel
theorem dX4_closeIf_8 : decode cX4_closeIf 8 = .ok (.aload_n 0, 1) := by decide +kernel
theorem dX4_closeIf_9 : decode cX4_closeIf 9 = .ok (.invokevirtual 106, 3) := by decide +kernel
theorem dX4_closeIf_12 : decode cX4_closeIf 12 = .ok (.return_, 1) := by decide +kernel
theorem dX4_close_0 : decode cX4_close 0 = .ok (.aload_n 0, 1) := by decide +kernel
theorem dX4_close_1 : decode cX4_close 1 = .ok (.invokevirtual 102, 3) := by decide +kernel
theorem dX4_close_4 : decode cX4_close 4 = .ok (.istore_n 1, 1) := by decide +kernel
theorem dX4_close_5 : decode cX4_close 5 = .ok (.aload_n 0, 1) := by decide +kernel
theorem dX4_close_6 : decode cX4_close 6 = .ok (.getfield 18, 3) := by decide +kernel
theorem dX4_close_9 : decode cX4_close 9 = .ok (.aload_n 0, 1) := by decide +kernel
theorem dX4_close_10 : decode cX4_close 10 = .ok (.getfield 46, 3) := by decide +kernel
theorem dX4_close_13 : decode cX4_close 13 = .ok (.iconst 1, 1) := by decide +kernel
theorem dX4_close_14 : decode cX4_close 14 = .ok (.isub, 1) := by decide +kernel
theorem dX4_close_15 : decode cX4_close 15 = .ok (.invokestatic 55, 3) := by decide +kernel
theorem dX4_close_18 : decode cX4_close 18 = .ok (.istore_n 2, 1) := by decide +kernel
theorem dX4_close_19 : decode cX4_close 19 = .ok (.aload_n 0, 1) := by decide +kernel
theorem dX4_close_20 : decode cX4_close 20 = .ok (.dup, 1) := by decide +kernel
theorem dX4_close_21 : decode cX4_close 21 = .ok (.getfield 46, 3) := by decide +kernel
theorem dX4_close_24 : decode cX4_close 24 = .ok (.iconst 1, 1) := by decide +kernel
theorem dX4_close_25 : decode cX4_close 25 = .ok (.isub, 1) := by decide +kernel
theorem dX4_close_26 : decode cX4_close 26 = .ok (.putfield 46, 3) := by decide +kernel
theorem dX4_close_29 : decode cX4_close 29 = .ok (.iload_n 1, 1) := by decide +kernel
theorem dX4_close_30 : decode cX4_close 30 = .ok (.invokestatic 116, 3) := by decide +kernel
theorem dX4_close_33 : decode cX4_close 33 = .ok (.ifCond .eq 7, 3) := by decide +kernel
theorem dX4_close_36 : decode cX4_close 36 = .ok (.iconst 0, 1) := by decide +kernel
theorem dX4_close_37 : decode cX4_close 37 = .ok (.goto 7, 3) := by decide +kernel
theorem dX4_close_40 : decode cX4_close 40 = .ok (.aload_n 0, 1) := by decide +kernel
theorem dX4_close_41 : decode cX4_close 41 = .ok (.invokevirtual 119, 3) := by decide +kernel
theorem dX4_close_44 : decode cX4_close 44 = .ok (.istore_n 3, 1) := by decide +kernel
theorem dX4_close_45 : decode cX4_close 45 = .ok (.aload_n 0, 1) := by decide +kernel
theorem dX4_close_46 : decode cX4_close 46 = .ok (.invokevirtual 119, 3) := by decide +kernel
theorem dX4_close_49 : decode cX4_close 49 = .ok (.istore 4, 2) := by decide +kernel
theorem dX4_close_51 : decode cX4_close 51 = .ok (.aload_n 0, 1) := by decide +kernel
theorem dX4_close_52 : decode cX4_close 52 = .ok (.aload_n 0, 1) := by decide +kernel
theorem dX4_close_53 : decode cX4_close 53 = .ok (.getfield 37, 3) := by decide +kernel
theorem dX4_close_56 : decode cX4_close 56 = .ok (.iload_n 1, 1) := by decide +kernel
theorem dX4_close_57 : decode cX4_close 57 = .ok (.iload_n 2, 1) := by decide +kernel
theorem dX4_close_58 : decode cX4_close 58 = .ok (.iload 4, 2) := by decide +kernel
theorem dX4_close_60 : decode cX4_close 60 = .ok (.iload_n 3, 1) := by decide +kernel
theorem dX4_close_61 : decode cX4_close 61 = .ok (.invokevirtual 109, 3) := by decide +kernel
theorem dX4_close_64 : decode cX4_close 64 = .ok (.invokevirtual 113, 3) := by decide +kernel
theorem dX4_close_67 : decode cX4_close 67 = .ok (.return_, 1) := by decide +kernel
theorem dX4_topOpen_0 : decode cX4_topOpen 0 = .ok (.aload_n 0, 1) := by decide +kernel
theorem dX4_topOpen_1 : decode cX4_topOpen 1 = .ok (.getfield 46, 3) := by decide +kernel
theorem dX4_topOpen_4 : decode cX4_topOpen 4 = .ok (.ifCond .le 19, 3) := by decide +kernel
theorem dX4_topOpen_7 : decode cX4_topOpen 7 = .ok (.aload_n 0, 1) := by decide +kernel
theorem dX4_topOpen_8 : decode cX4_topOpen 8 = .ok (.getfield 15, 3) := by decide +kernel
theorem dX4_topOpen_11 : decode cX4_topOpen 11 = .ok (.aload_n 0, 1) := by decide +kernel
theorem dX4_topOpen_12 : decode cX4_topOpen 12 = .ok (.getfield 46, 3) := by decide +kernel
theorem dX4_topOpen_15 : decode cX4_topOpen 15 = .ok (.iconst 1, 1) := by decide +kernel
theorem dX4_topOpen_16 : decode cX4_topOpen 16 = .ok (.isub, 1) := by decide +kernel
theorem dX4_topOpen_17 : decode cX4_topOpen 17 = .ok (.invokestatic 55, 3) := by decide +kernel
theorem dX4_topOpen_20 : decode cX4_topOpen 20 = .ok (.goto 4, 3) := by decide +kernel
theorem dX4_topOpen_23 : decode cX4_topOpen 23 = .ok (.iconst (-1), 1) := by decide +kernel
theorem dX4_topOpen_24 : decode cX4_topOpen 24 = .ok (.ireturn, 1) := by decide +kernel
theorem dX4_push_0 : decode cX4_push 0 = .ok (.aload_n 0, 1) := by decide +kernel
theorem dX4_push_1 : decode cX4_push 1 = .ok (.getfield 15, 3) := by decide +kernel
theorem dX4_push_4 : decode cX4_push 4 = .ok (.aload_n 0, 1) := by decide +kernel
theorem dX4_push_5 : decode cX4_push 5 = .ok (.getfield 46, 3) := by decide +kernel
theorem dX4_push_8 : decode cX4_push 8 = .ok (.iload_n 1, 1) := by decide +kernel
theorem dX4_push_9 : decode cX4_push 9 = .ok (.invokestatic 31, 3) := by decide +kernel
theorem dX4_push_12 : decode cX4_push 12 = .ok (.aload_n 0, 1) := by decide +kernel
theorem dX4_push_13 : decode cX4_push 13 = .ok (.getfield 18, 3) := by decide +kernel
theorem dX4_push_16 : decode cX4_push 16 = .ok (.aload_n 0, 1) := by decide +kernel
theorem dX4_push_17 : decode cX4_push 17 = .ok (.getfield 46, 3) := by decide +kernel
theorem dX4_push_20 : decode cX4_push 20 = .ok (.iload_n 2, 1) := by decide +kernel
theorem dX4_push_21 : decode cX4_push 21 = .ok (.invokestatic 31, 3) := by decide +kernel
theorem dX4_push_24 : decode cX4_push 24 = .ok (.aload_n 0, 1) := by decide +kernel
theorem dX4_push_25 : decode cX4_push 25 = .ok (.dup, 1) := by decide +kernel
theorem dX4_push_26 : decode cX4_push 26 = .ok (.getfield 46, 3) := by decide +kernel
theorem dX4_push_29 : decode cX4_push 29 = .ok (.iconst 1, 1) := by decide +kernel
theorem dX4_push_30 : decode cX4_push 30 = .ok (.iadd, 1) := by decide +kernel
theorem dX4_push_31 : decode cX4_push 31 = .ok (.putfield 46, 3) := by decide +kernel
theorem dX4_push_34 : decode cX4_push 34 = .ok (.aload_n 0, 1) := by decide +kernel
theorem dX4_push_35 : decode cX4_push 35 = .ok (.iconst 0, 1) := by decide +kernel
theorem dX4_push_36 : decode cX4_push 36 = .ok (.putfield 52, 3) := by decide +kernel
theorem dX4_push_39 : decode cX4_push 39 = .ok (.iconst 1, 1) := by decide +kernel
theorem dX4_push_40 : decode cX4_push 40 = .ok (.ireturn, 1) := by decide +kernel
theorem dX4_pushOperand_0 : decode cX4_pushOperand 0 = .ok (.aload_n 0, 1) := by decide +kernel
theorem dX4_pushOperand_1 : decode cX4_pushOperand 1 = .ok (.getfield 21, 3) := by decide +kernel
theorem dX4_pushOperand_4 : decode cX4_pushOperand 4 = .ok (.aload_n 0, 1) := by decide +kernel
theorem dX4_pushOperand_5 : decode cX4_pushOperand 5 = .ok (.getfield 49, 3) := by decide +kernel
theorem dX4_pushOperand_8 : decode cX4_pushOperand 8 = .ok (.iload_n 1, 1) := by decide +kernel
theorem dX4_pushOperand_9 : decode cX4_pushOperand 9 = .ok (.invokestatic 31, 3) := by decide +kernel
theorem dX4_pushOperand_12 : decode cX4_pushOperand 12 = .ok (.aload_n 0, 1) := by decide +kernel
theorem dX4_pushOperand_13 : decode cX4_pushOperand 13 = .ok (.dup, 1) := by decide +kernel
theorem dX4_pushOperand_14 : decode cX4_pushOperand 14 = .ok (.getfield 49, 3) := by decide +kernel
theorem dX4_pushOperand_17 : decode cX4_pushOperand 17 = .ok (.iconst 1, 1) := by decide +kernel
theorem dX4_pushOperand_18 : decode cX4_pushOperand 18 = .ok (.iadd, 1) := by decide +kernel
theorem dX4_pushOperand_19 : decode cX4_pushOperand 19 = .ok (.putfield 49, 3) := by decide +kernel
theorem dX4_pushOperand_22 : decode cX4_pushOperand 22 = .ok (.return_, 1) := by decide +kernel
theorem dX4_popOperand_0 : decode cX4_popOperand 0 = .ok (.aload_n 0, 1) := by decide +kernel
theorem dX4_popOperand_1 : decode cX4_popOperand 1 = .ok (.dup, 1) := by decide +kernel
theorem dX4_popOperand_2 : decode cX4_popOperand 2 = .ok (.getfield 49, 3) := by decide +kernel
theorem dX4_popOperand_5 : decode cX4_popOperand 5 = .ok (.iconst 1, 1) := by decide +kernel
theorem dX4_popOperand_6 : decode cX4_popOperand 6 = .ok (.isub, 1) := by decide +kernel
theorem dX4_popOperand_7 : decode cX4_popOperand 7 = .ok (.putfield 49, 3) := by decide +kernel
theorem dX4_popOperand_10 : decode cX4_popOperand 10 = .ok (.aload_n 0, 1) := by decide +kernel
theorem dX4_popOperand_11 : decode cX4_popOperand 11 = .ok (.getfield 21, 3) := by decide +kernel
theorem dX4_popOperand_14 : decode cX4_popOperand 14 = .ok (.aload_n 0, 1) := by decide +kernel
theorem dX4_popOperand_15 : decode cX4_popOperand 15 = .ok (.getfield 49, 3) := by decide +kernel
theorem dX4_popOperand_18 : decode cX4_popOperand 18 = .ok (.invokestatic 55, 3) := by decide +kernel
theorem dX4_popOperand_21 : decode cX4_popOperand 21 = .ok (.ireturn, 1) := by decide +kernel
theorem dX5_at_0 : decode cX5_at 0 = .ok (.aload_n 0, 1) := by decide +kernel
theorem dX5_at_1 : decode cX5_at 1 = .ok (.ifnull 19, 3) := by decide +kernel
theorem dX5_at_4 : decode cX5_at 4 = .ok (.iload_n 1, 1) := by decide +kernel
theorem dX5_at_5 : decode cX5_at 5 = .ok (.ifCond .lt 15, 3) := by decide +kernel
theorem dX5_at_8 : decode cX5_at 8 = .ok (.iload_n 1, 1) := by decide +kernel
theorem dX5_at_9 : decode cX5_at 9 = .ok (.aload_n 0, 1) := by decide +kernel
theorem dX5_at_10 : decode cX5_at 10 = .ok (.arraylength, 1) := by decide +kernel
theorem dX5_at_11 : decode cX5_at 11 = .ok (.if_icmp .ge 9, 3) := by decide +kernel
theorem dX5_at_14 : decode cX5_at 14 = .ok (.aload_n 0, 1) := by decide +kernel
theorem dX5_at_15 : decode cX5_at 15 = .ok (.iload_n 1, 1) := by decide +kernel
theorem dX5_at_16 : decode cX5_at 16 = .ok (.iaload, 1) := by decide +kernel
theorem dX5_at_17 : decode cX5_at 17 = .ok (.goto 4, 3) := by decide +kernel
theorem dX5_at_20 : decode cX5_at 20 = .ok (.iconst 0, 1) := by decide +kernel
theorem dX5_at_21 : decode cX5_at 21 = .ok (.ireturn, 1) := by decide +kernel
theorem dX5_put_0 : decode cX5_put 0 = .ok (.aload_n 0, 1) := by decide +kernel
theorem dX5_put_1 : decode cX5_put 1 = .ok (.ifnull 17, 3) := by decide +kernel
theorem dX5_put_4 : decode cX5_put 4 = .ok (.iload_n 1, 1) := by decide +kernel
theorem dX5_put_5 : decode cX5_put 5 = .ok (.ifCond .lt 13, 3) := by decide +kernel
theorem dX5_put_8 : decode cX5_put 8 = .ok (.iload_n 1, 1) := by decide +kernel
theorem dX5_put_9 : decode cX5_put 9 = .ok (.aload_n 0, 1) := by decide +kernel
theorem dX5_put_10 : decode cX5_put 10 = .ok (.arraylength, 1) := by decide +kernel
theorem dX5_put_11 : decode cX5_put 11 = .ok (.if_icmp .ge 7, 3) := by decide +kernel
theorem dX5_put_14 : decode cX5_put 14 = .ok (.aload_n 0, 1) := by decide +kernel
theorem dX5_put_15 : decode cX5_put 15 = .ok (.iload_n 1, 1) := by decide +kernel
theorem dX5_put_16 : decode cX5_put 16 = .ok (.iload_n 2, 1) := by decide +kernel
theorem dX5_put_17 : decode cX5_put 17 = .ok (.iastore, 1) := by decide +kernel
theorem dX5_put_18 : decode cX5_put 18 = .ok (.return_, 1) := by decide +kernel
theorem dX5_copy_0 : decode cX5_copy 0 = .ok (.aload_n 0, 1) := by decide +kernel
theorem dX5_copy_1 : decode cX5_copy 1 = .ok (.ifnull 23, 3) := by decide +kernel
theorem dX5_copy_4 : decode cX5_copy 4 = .ok (.aload_n 1, 1) := by decide +kernel
theorem dX5_copy_5 : decode cX5_copy 5 = .ok (.ifnull 19, 3) := by decide +kernel
theorem dX5_copy_8 : decode cX5_copy 8 = .ok (.aload_n 0, 1) := by decide +kernel
theorem dX5_copy_9 : decode cX5_copy 9 = .ok (.arraylength, 1) := by decide +kernel
theorem dX5_copy_10 : decode cX5_copy 10 = .ok (.aload_n 1, 1) := by decide +kernel
theorem dX5_copy_11 : decode cX5_copy 11 = .ok (.arraylength, 1) := by decide +kernel
theorem dX5_copy_12 : decode cX5_copy 12 = .ok (.if_icmp .ne 12, 3) := by decide +kernel
theorem dX5_copy_15 : decode cX5_copy 15 = .ok (.aload_n 0, 1) := by decide +kernel
theorem dX5_copy_16 : decode cX5_copy 16 = .ok (.iconst 0, 1) := by decide +kernel
theorem dX5_copy_17 : decode cX5_copy 17 = .ok (.aload_n 1, 1) := by decide +kernel
theorem dX5_copy_18 : decode cX5_copy 18 = .ok (.iconst 0, 1) := by decide +kernel
theorem dX5_copy_19 : decode cX5_copy 19 = .ok (.aload_n 0, 1) := by decide +kernel
theorem dX5_copy_20 : decode cX5_copy 20 = .ok (.arraylength, 1) := by decide +kernel
theorem dX5_copy_21 : decode cX5_copy 21 = .ok (.invokestatic 7, 3) := by decide +kernel
theorem dX5_copy_24 : decode cX5_copy 24 = .ok (.return_, 1) := by decide +kernel
theorem dX6_init_0 : decode cX6_init 0 = .ok (.aload_n 0, 1) := by decide +kernel
theorem dX6_init_1 : decode cX6_init 1 = .ok (.invokespecial 3, 3) := by decide +kernel
theorem dX6_init_4 : decode cX6_init 4 = .ok (.aload_n 0, 1) := by decide +kernel
theorem dX6_init_5 : decode cX6_init 5 = .ok (.sipush 1296, 3) := by decide +kernel
theorem dX6_init_8 : decode cX6_init 8 = .ok (.newarray .int, 2) := by decide +kernel
theorem dX6_init_10 : decode cX6_init 10 = .ok (.putfield 9, 3) := by decide +kernel
theorem dX6_init_13 : decode cX6_init 13 = .ok (.aload_n 0, 1) := by decide +kernel
theorem dX6_init_14 : decode cX6_init 14 = .ok (.bipush 12, 2) := by decide +kernel
theorem dX6_init_16 : decode cX6_init 16 = .ok (.newarray .int, 2) := by decide +kernel
theorem dX6_init_18 : decode cX6_init 18 = .ok (.putfield 15, 3) := by decide +kernel
theorem dX6_init_21 : decode cX6_init 21 = .ok (.aload_n 0, 1) := by decide +kernel
theorem dX6_init_22 : decode cX6_init 22 = .ok (.bipush 81, 2) := by decide +kernel
theorem dX6_init_24 : decode cX6_init 24 = .ok (.newarray .int, 2) := by decide +kernel
theorem dX6_init_26 : decode cX6_init 26 = .ok (.putfield 18, 3) := by decide +kernel
theorem dX6_init_29 : decode cX6_init 29 = .ok (.aload_n 0, 1) := by decide +kernel
theorem dX6_init_30 : decode cX6_init 30 = .ok (.aload_n 1, 1) := by decide +kernel
theorem dX6_init_31 : decode cX6_init 31 = .ok (.putfield 21, 3) := by decide +kernel
theorem dX6_init_34 : decode cX6_init 34 = .ok (.iconst 0, 1) := by decide +kernel
theorem dX6_init_35 : decode cX6_init 35 = .ok (.istore_n 2, 1) := by decide +kernel
theorem dX6_init_36 : decode cX6_init 36 = .ok (.iload_n 2, 1) := by decide +kernel
theorem dX6_init_37 : decode cX6_init 37 = .ok (.aload_n 0, 1) := by decide +kernel
theorem dX6_init_38 : decode cX6_init 38 = .ok (.getfield 15, 3) := by decide +kernel
theorem dX6_init_41 : decode cX6_init 41 = .ok (.arraylength, 1) := by decide +kernel
theorem dX6_init_42 : decode cX6_init 42 = .ok (.if_icmp .ge 16, 3) := by decide +kernel
theorem dX6_init_45 : decode cX6_init 45 = .ok (.aload_n 0, 1) := by decide +kernel
theorem dX6_init_46 : decode cX6_init 46 = .ok (.getfield 15, 3) := by decide +kernel
theorem dX6_init_49 : decode cX6_init 49 = .ok (.iload_n 2, 1) := by decide +kernel
theorem dX6_init_50 : decode cX6_init 50 = .ok (.iload_n 2, 1) := by decide +kernel
theorem dX6_init_51 : decode cX6_init 51 = .ok (.iastore, 1) := by decide +kernel
theorem dX6_init_52 : decode cX6_init 52 = .ok (.iinc 2 1, 3) := by decide +kernel
theorem dX6_init_55 : decode cX6_init 55 = .ok (.goto (-19), 3) := by decide +kernel
theorem dX6_init_58 : decode cX6_init 58 = .ok (.iconst 0, 1) := by decide +kernel
theorem dX6_init_59 : decode cX6_init 59 = .ok (.istore_n 2, 1) := by decide +kernel
theorem dX6_init_60 : decode cX6_init 60 = .ok (.iload_n 2, 1) := by decide +kernel
theorem dX6_init_61 : decode cX6_init 61 = .ok (.aload_n 0, 1) := by decide +kernel
theorem dX6_init_62 : decode cX6_init 62 = .ok (.getfield 9, 3) := by decide +kernel
theorem dX6_init_65 : decode cX6_init 65 = .ok (.arraylength, 1) := by decide +kernel
theorem dX6_init_66 : decode cX6_init 66 = .ok (.if_icmp .ge 26, 3) := by decide +kernel
theorem dX6_init_69 : decode cX6_init 69 = .ok (.aload_n 0, 1) := by decide +kernel
theorem dX6_init_70 : decode cX6_init 70 = .ok (.getfield 9, 3) := by decide +kernel
theorem dX6_init_73 : decode cX6_init 73 = .ok (.iload_n 2, 1) := by decide +kernel
theorem dX6_init_74 : decode cX6_init 74 = .ok (.iload_n 2, 1) := by decide +kernel
theorem dX6_init_75 : decode cX6_init 75 = .ok (.bipush 81, 2) := by decide +kernel
theorem dX6_init_77 : decode cX6_init 77 = .ok (.idiv, 1) := by decide +kernel
theorem dX6_init_78 : decode cX6_init 78 = .ok (.iload_n 2, 1) := by decide +kernel
theorem dX6_init_79 : decode cX6_init 79 = .ok (.bipush 81, 2) := by decide +kernel
theorem dX6_init_81 : decode cX6_init 81 = .ok (.irem, 1) := by decide +kernel
theorem dX6_init_82 : decode cX6_init 82 = .ok (.invokestatic 25, 3) := by decide +kernel
theorem dX6_init_85 : decode cX6_init 85 = .ok (.iastore, 1) := by decide +kernel
theorem dX6_init_86 : decode cX6_init 86 = .ok (.iinc 2 1, 3) := by decide +kernel
theorem dX6_init_89 : decode cX6_init 89 = .ok (.goto (-29), 3) := by decide +kernel
theorem dX6_init_92 : decode cX6_init 92 = .ok (.return_, 1) := by decide +kernel
theorem dX6_spread_0 : decode cX6_spread 0 = .ok (.iconst 0, 1) := by decide +kernel
theorem dX6_spread_1 : decode cX6_spread 1 = .ok (.istore 5, 2) := by decide +kernel
theorem dX6_spread_3 : decode cX6_spread 3 = .ok (.iload 5, 2) := by decide +kernel
theorem dX6_spread_5 : decode cX6_spread 5 = .ok (.bipush 81, 2) := by decide +kernel
theorem dX6_spread_7 : decode cX6_spread 7 = .ok (.if_icmp .ge 17, 3) := by decide +kernel
theorem dX6_spread_10 : decode cX6_spread 10 = .ok (.aload 4, 2) := by decide +kernel
theorem dX6_spread_12 : decode cX6_spread 12 = .ok (.iload 5, 2) := by decide +kernel
theorem dX6_spread_14 : decode cX6_spread 14 = .ok (.iconst 0, 1) := by decide +kernel
theorem dX6_spread_15 : decode cX6_spread 15 = .ok (.invokestatic 29, 3) := by decide +kernel
theorem dX6_spread_18 : decode cX6_spread 18 = .ok (.iinc 5 1, 3) := by decide +kernel
theorem dX6_spread_21 : decode cX6_spread 21 = .ok (.goto (-18), 3) := by decide +kernel
theorem dX6_spread_24 : decode cX6_spread 24 = .ok (.iconst 0, 1) := by decide +kernel
theorem dX6_spread_25 : decode cX6_spread 25 = .ok (.istore 5, 2) := by decide +kernel
theorem dX6_spread_27 : decode cX6_spread 27 = .ok (.iload 5, 2) := by decide +kernel
theorem dX6_spread_29 : decode cX6_spread 29 = .ok (.aload_n 0, 1) := by decide +kernel
theorem dX6_spread_30 : decode cX6_spread 30 = .ok (.getfield 21, 3) := by decide +kernel
theorem dX6_spread_33 : decode cX6_spread 33 = .ok (.getfield 35, 3) := by decide +kernel
theorem dX6_spread_36 : decode cX6_spread 36 = .ok (.if_icmp .ge 73, 3) := by decide +kernel
theorem dX6_spread_39 : decode cX6_spread 39 = .ok (.aload_n 0, 1) := by decide +kernel
theorem dX6_spread_40 : decode cX6_spread 40 = .ok (.getfield 21, 3) := by decide +kernel
theorem dX6_spread_43 : decode cX6_spread 43 = .ok (.getfield 41, 3) := by decide +kernel
theorem dX6_spread_46 : decode cX6_spread 46 = .ok (.iload_n 2, 1) := by decide +kernel
theorem dX6_spread_47 : decode cX6_spread 47 = .ok (.bipush 81, 2) := by decide +kernel
theorem dX6_spread_49 : decode cX6_spread 49 = .ok (.imul, 1) := by decide +kernel
theorem dX6_spread_50 : decode cX6_spread 50 = .ok (.iload 5, 2) := by decide +kernel
theorem dX6_spread_52 : decode cX6_spread 52 = .ok (.iadd, 1) := by decide +kernel
theorem dX6_spread_53 : decode cX6_spread 53 = .ok (.invokestatic 44, 3) := by decide +kernel
theorem dX6_spread_56 : decode cX6_spread 56 = .ok (.istore 6, 2) := by decide +kernel
theorem dX6_spread_58 : decode cX6_spread 58 = .ok (.iload 6, 2) := by decide +kernel
theorem dX6_spread_60 : decode cX6_spread 60 = .ok (.iconst (-1), 1) := by decide +kernel
theorem dX6_spread_61 : decode cX6_spread 61 = .ok (.if_icmp .eq 42, 3) := by decide +kernel
theorem dX6_spread_64 : decode cX6_spread 64 = .ok (.aload_n 0, 1) := by decide +kernel
theorem dX6_spread_65 : decode cX6_spread 65 = .ok (.getfield 9, 3) := by decide +kernel
theorem dX6_spread_68 : decode cX6_spread 68 = .ok (.iload_n 1, 1) := by decide +kernel
theorem dX6_spread_69 : decode cX6_spread 69 = .ok (.bipush 81, 2) := by decide +kernel
theorem dX6_spread_71 : decode cX6_spread 71 = .ok (.imul, 1) := by decide +kernel
theorem dX6_spread_72 : decode cX6_spread 72 = .ok (.iload 5, 2) := by decide +kernel
theorem dX6_spread_74 : decode cX6_spread 74 = .ok (.iadd, 1) := by decide +kernel
theorem dX6_spread_75 : decode cX6_spread 75 = .ok (.invokestatic 44, 3) := by decide +kernel
theorem dX6_spread_78 : decode cX6_spread 78 = .ok (.istore 7, 2) := by decide +kernel
theorem dX6_spread_80 : decode cX6_spread 80 = .ok (.aload 4, 2) := by decide +kernel
theorem dX6_spread_82 : decode cX6_spread 82 = .ok (.iload 7, 2) := by decide +kernel
theorem dX6_spread_84 : decode cX6_spread 84 = .ok (.aload 4, 2) := by decide +kernel
theorem dX6_spread_86 : decode cX6_spread 86 = .ok (.iload 7, 2) := by decide +kernel
theorem dX6_spread_88 : decode cX6_spread 88 = .ok (.invokestatic 44, 3) := by decide +kernel
theorem dX6_spread_91 : decode cX6_spread 91 = .ok (.iconst 1, 1) := by decide +kernel
theorem dX6_spread_92 : decode cX6_spread 92 = .ok (.aload_n 3, 1) := by decide +kernel
theorem dX6_spread_93 : decode cX6_spread 93 = .ok (.iload 6, 2) := by decide +kernel
theorem dX6_spread_95 : decode cX6_spread 95 = .ok (.invokestatic 44, 3) := by decide +kernel
theorem dX6_spread_98 : decode cX6_spread 98 = .ok (.ishl, 1) := by decide +kernel
theorem dX6_spread_99 : decode cX6_spread 99 = .ok (.ior, 1) := by decide +kernel
theorem dX6_spread_100 : decode cX6_spread 100 = .ok (.invokestatic 29, 3) := by decide +kernel
theorem dX6_spread_103 : decode cX6_spread 103 = .ok (.iinc 5 1, 3) := by decide +kernel
theorem dX6_spread_106 : decode cX6_spread 106 = .ok (.goto (-79), 3) := by decide +kernel
theorem dX6_spread_109 : decode cX6_spread 109 = .ok (.return_, 1) := by decide +kernel
theorem dX6_isForced_0 : decode cX6_isForced 0 = .ok (.iload_n 0, 1) := by decide +kernel
theorem dX6_isForced_1 : decode cX6_isForced 1 = .ok (.ifCond .eq 15, 3) := by decide +kernel
theorem dX6_isForced_4 : decode cX6_isForced 4 = .ok (.iload_n 0, 1) := by decide +kernel
theorem dX6_isForced_5 : decode cX6_isForced 5 = .ok (.iload_n 1, 1) := by decide +kernel
theorem dX6_isForced_6 : decode cX6_isForced 6 = .ok (.iconst (-1), 1) := by decide +kernel
theorem dX6_isForced_7 : decode cX6_isForced 7 = .ok (.ixor, 1) := by decide +kernel
theorem dX6_isForced_8 : decode cX6_isForced 8 = .ok (.iand, 1) := by decide +kernel
theorem dX6_isForced_9 : decode cX6_isForced 9 = .ok (.ifCond .ne 7, 3) := by decide +kernel
theorem dX6_isForced_12 : decode cX6_isForced 12 = .ok (.iconst 1, 1) := by decide +kernel
theorem dX6_isForced_13 : decode cX6_isForced 13 = .ok (.goto 4, 3) := by decide +kernel
theorem dX6_isForced_16 : decode cX6_isForced 16 = .ok (.iconst 0, 1) := by decide +kernel
theorem dX6_isForced_17 : decode cX6_isForced 17 = .ok (.ireturn, 1) := by decide +kernel
theorem dX6_leastForcing_0 : decode cX6_leastForcing 0 = .ok (.aload_n 0, 1) := by decide +kernel
theorem dX6_leastForcing_1 : decode cX6_leastForcing 1 = .ok (.iload_n 1, 1) := by decide +kernel
theorem dX6_leastForcing_2 : decode cX6_leastForcing 2 = .ok (.iload_n 2, 1) := by decide +kernel
theorem dX6_leastForcing_3 : decode cX6_leastForcing 3 = .ok (.aload_n 0, 1) := by decide +kernel
theorem dX6_leastForcing_4 : decode cX6_leastForcing 4 = .ok (.getfield 15, 3) := by decide +kernel
theorem dX6_leastForcing_7 : decode cX6_leastForcing 7 = .ok (.aload_n 0, 1) := by decide +kernel
theorem dX6_leastForcing_8 : decode cX6_leastForcing 8 = .ok (.getfield 18, 3) := by decide +kernel
theorem dX6_leastForcing_11 : decode cX6_leastForcing 11 = .ok (.invokevirtual 48, 3) := by decide +kernel
theorem dX6_leastForcing_14 : decode cX6_leastForcing 14 = .ok (.aload_n 0, 1) := by decide +kernel
theorem dX6_leastForcing_15 : decode cX6_leastForcing 15 = .ok (.iload_n 3, 1) := by decide +kernel
theorem dX6_leastForcing_16 : decode cX6_leastForcing 16 = .ok (.invokevirtual 52, 3) := by decide +kernel
theorem dX6_leastForcing_19 : decode cX6_leastForcing 19 = .ok (.ireturn, 1) := by decide +kernel
theorem dX6_isJointAction_0 : decode cX6_isJointAction 0 = .ok (.aload_n 0, 1) := by decide +kernel
theorem dX6_isJointAction_1 : decode cX6_isJointAction 1 = .ok (.iload_n 1, 1) := by decide +kernel
theorem dX6_isJointAction_2 : decode cX6_isJointAction 2 = .ok (.iload_n 2, 1) := by decide +kernel
theorem dX6_isJointAction_3 : decode cX6_isJointAction 3 = .ok (.aload_n 0, 1) := by decide +kernel
theorem dX6_isJointAction_4 : decode cX6_isJointAction 4 = .ok (.getfield 15, 3) := by decide +kernel
theorem dX6_isJointAction_7 : decode cX6_isJointAction 7 = .ok (.aload_n 0, 1) := by decide +kernel
theorem dX6_isJointAction_8 : decode cX6_isJointAction 8 = .ok (.getfield 18, 3) := by decide +kernel
theorem dX6_isJointAction_11 : decode cX6_isJointAction 11 = .ok (.invokevirtual 48, 3) := by decide +kernel
theorem dX6_isJointAction_14 : decode cX6_isJointAction 14 = .ok (.aload_n 0, 1) := by decide +kernel
theorem dX6_isJointAction_15 : decode cX6_isJointAction 15 = .ok (.getfield 18, 3) := by decide +kernel
theorem dX6_isJointAction_18 : decode cX6_isJointAction 18 = .ok (.iload_n 3, 1) := by decide +kernel
theorem dX6_isJointAction_19 : decode cX6_isJointAction 19 = .ok (.invokestatic 44, 3) := by decide +kernel
theorem dX6_isJointAction_22 : decode cX6_isJointAction 22 = .ok (.ifCond .eq 7, 3) := by decide +kernel
theorem dX6_isJointAction_25 : decode cX6_isJointAction 25 = .ok (.iconst 1, 1) := by decide +kernel
theorem dX6_isJointAction_26 : decode cX6_isJointAction 26 = .ok (.goto 4, 3) := by decide +kernel
theorem dX6_isJointAction_29 : decode cX6_isJointAction 29 = .ok (.iconst 0, 1) := by decide +kernel
theorem dX6_isJointAction_30 : decode cX6_isJointAction 30 = .ok (.ireturn, 1) := by decide +kernel
theorem dX6_leastLeaving_0 : decode cX6_leastLeaving 0 = .ok (.iconst 0, 1) := by decide +kernel
theorem dX6_leastLeaving_1 : decode cX6_leastLeaving 1 = .ok (.istore 5, 2) := by decide +kernel
theorem dX6_leastLeaving_3 : decode cX6_leastLeaving 3 = .ok (.iload 5, 2) := by decide +kernel
theorem dX6_leastLeaving_5 : decode cX6_leastLeaving 5 = .ok (.aload_n 0, 1) := by decide +kernel
theorem dX6_leastLeaving_6 : decode cX6_leastLeaving 6 = .ok (.getfield 21, 3) := by decide +kernel
theorem dX6_leastLeaving_9 : decode cX6_leastLeaving 9 = .ok (.getfield 35, 3) := by decide +kernel
theorem dX6_leastLeaving_12 : decode cX6_leastLeaving 12 = .ok (.if_icmp .ge 51, 3) := by decide +kernel
theorem dX6_leastLeaving_15 : decode cX6_leastLeaving 15 = .ok (.aload_n 0, 1) := by decide +kernel
theorem dX6_leastLeaving_16 : decode cX6_leastLeaving 16 = .ok (.getfield 21, 3) := by decide +kernel
theorem dX6_leastLeaving_19 : decode cX6_leastLeaving 19 = .ok (.iload_n 2, 1) := by decide +kernel
theorem dX6_leastLeaving_20 : decode cX6_leastLeaving 20 = .ok (.iload 5, 2) := by decide +kernel
theorem dX6_leastLeaving_22 : decode cX6_leastLeaving 22 = .ok (.invokevirtual 56, 3) := by decide +kernel
theorem dX6_leastLeaving_25 : decode cX6_leastLeaving 25 = .ok (.istore 6, 2) := by decide +kernel
theorem dX6_leastLeaving_27 : decode cX6_leastLeaving 27 = .ok (.iload 6, 2) := by decide +kernel
theorem dX6_leastLeaving_29 : decode cX6_leastLeaving 29 = .ok (.iconst (-1), 1) := by decide +kernel
theorem dX6_leastLeaving_30 : decode cX6_leastLeaving 30 = .ok (.if_icmp .eq 27, 3) := by decide +kernel
theorem dX6_leastLeaving_33 : decode cX6_leastLeaving 33 = .ok (.aload_n 0, 1) := by decide +kernel
theorem dX6_leastLeaving_34 : decode cX6_leastLeaving 34 = .ok (.iload_n 1, 1) := by decide +kernel
theorem dX6_leastLeaving_35 : decode cX6_leastLeaving 35 = .ok (.iload 5, 2) := by decide +kernel
theorem dX6_leastLeaving_37 : decode cX6_leastLeaving 37 = .ok (.invokevirtual 59, 3) := by decide +kernel
theorem dX6_leastLeaving_40 : decode cX6_leastLeaving 40 = .ok (.iload_n 3, 1) := by decide +kernel
theorem dX6_leastLeaving_41 : decode cX6_leastLeaving 41 = .ok (.if_icmp .ne 16, 3) := by decide +kernel
theorem dX6_leastLeaving_44 : decode cX6_leastLeaving 44 = .ok (.iload 4, 2) := by decide +kernel
theorem dX6_leastLeaving_46 : decode cX6_leastLeaving 46 = .ok (.iload 6, 2) := by decide +kernel
theorem dX6_leastLeaving_48 : decode cX6_leastLeaving 48 = .ok (.ishr, 1) := by decide +kernel
theorem dX6_leastLeaving_49 : decode cX6_leastLeaving 49 = .ok (.iconst 1, 1) := by decide +kernel
theorem dX6_leastLeaving_50 : decode cX6_leastLeaving 50 = .ok (.iand, 1) := by decide +kernel
theorem dX6_leastLeaving_51 : decode cX6_leastLeaving 51 = .ok (.ifCond .ne 6, 3) := by decide +kernel
theorem dX6_leastLeaving_54 : decode cX6_leastLeaving 54 = .ok (.iload 5, 2) := by decide +kernel
theorem dX6_leastLeaving_56 : decode cX6_leastLeaving 56 = .ok (.ireturn, 1) := by decide +kernel
theorem dX6_leastLeaving_57 : decode cX6_leastLeaving 57 = .ok (.iinc 5 1, 3) := by decide +kernel
theorem dX6_leastLeaving_60 : decode cX6_leastLeaving 60 = .ok (.goto (-57), 3) := by decide +kernel
theorem dX6_leastLeaving_63 : decode cX6_leastLeaving 63 = .ok (.bipush (-9), 2) := by decide +kernel
theorem dX6_leastLeaving_65 : decode cX6_leastLeaving 65 = .ok (.ireturn, 1) := by decide +kernel
theorem dX6_countForced_0 : decode cX6_countForced 0 = .ok (.aload_n 0, 1) := by decide +kernel
theorem dX6_countForced_1 : decode cX6_countForced 1 = .ok (.iload_n 1, 1) := by decide +kernel
theorem dX6_countForced_2 : decode cX6_countForced 2 = .ok (.iload_n 2, 1) := by decide +kernel
theorem dX6_countForced_3 : decode cX6_countForced 3 = .ok (.aload_n 0, 1) := by decide +kernel
theorem dX6_countForced_4 : decode cX6_countForced 4 = .ok (.getfield 15, 3) := by decide +kernel
theorem dX6_countForced_7 : decode cX6_countForced 7 = .ok (.aload_n 0, 1) := by decide +kernel
theorem dX6_countForced_8 : decode cX6_countForced 8 = .ok (.getfield 18, 3) := by decide +kernel
theorem dX6_countForced_11 : decode cX6_countForced 11 = .ok (.invokevirtual 48, 3) := by decide +kernel
theorem dX6_countForced_14 : decode cX6_countForced 14 = .ok (.iconst 0, 1) := by decide +kernel
theorem dX6_countForced_15 : decode cX6_countForced 15 = .ok (.istore_n 3, 1) := by decide +kernel
theorem dX6_countForced_16 : decode cX6_countForced 16 = .ok (.iconst 0, 1) := by decide +kernel
theorem dX6_countForced_17 : decode cX6_countForced 17 = .ok (.istore 4, 2) := by decide +kernel
theorem dX6_countForced_19 : decode cX6_countForced 19 = .ok (.iload 4, 2) := by decide +kernel
theorem dX6_countForced_21 : decode cX6_countForced 21 = .ok (.aload_n 0, 1) := by decide +kernel
theorem dX6_countForced_22 : decode cX6_countForced 22 = .ok (.getfield 21, 3) := by decide +kernel
theorem dX6_countForced_25 : decode cX6_countForced 25 = .ok (.invokevirtual 62, 3) := by decide +kernel
theorem dX6_countForced_28 : decode cX6_countForced 28 = .ok (.if_icmp .gt 23, 3) := by decide +kernel
theorem dX6_countForced_31 : decode cX6_countForced 31 = .ok (.aload_n 0, 1) := by decide +kernel
theorem dX6_countForced_32 : decode cX6_countForced 32 = .ok (.iload 4, 2) := by decide +kernel
theorem dX6_countForced_34 : decode cX6_countForced 34 = .ok (.invokevirtual 52, 3) := by decide +kernel
theorem dX6_countForced_37 : decode cX6_countForced 37 = .ok (.bipush (-9), 2) := by decide +kernel
theorem dX6_countForced_39 : decode cX6_countForced 39 = .ok (.if_icmp .eq 6, 3) := by decide +kernel
theorem dX6_countForced_42 : decode cX6_countForced 42 = .ok (.iinc 3 1, 3) := by decide +kernel
theorem dX6_countForced_45 : decode cX6_countForced 45 = .ok (.iinc 4 1, 3) := by decide +kernel
theorem dX6_countForced_48 : decode cX6_countForced 48 = .ok (.goto (-29), 3) := by decide +kernel
theorem dX6_countForced_51 : decode cX6_countForced 51 = .ok (.iload_n 3, 1) := by decide +kernel
theorem dX6_countForced_52 : decode cX6_countForced 52 = .ok (.ireturn, 1) := by decide +kernel
theorem dX6_forcing_0 : decode cX6_forcing 0 = .ok (.iconst 0, 1) := by decide +kernel
theorem dX6_forcing_1 : decode cX6_forcing 1 = .ok (.istore 4, 2) := by decide +kernel
theorem dX6_forcing_3 : decode cX6_forcing 3 = .ok (.iconst 0, 1) := by decide +kernel
theorem dX6_forcing_4 : decode cX6_forcing 4 = .ok (.istore 5, 2) := by decide +kernel
theorem dX6_forcing_6 : decode cX6_forcing 6 = .ok (.iload 5, 2) := by decide +kernel
theorem dX6_forcing_8 : decode cX6_forcing 8 = .ok (.aload_n 0, 1) := by decide +kernel
theorem dX6_forcing_9 : decode cX6_forcing 9 = .ok (.getfield 21, 3) := by decide +kernel
theorem dX6_forcing_12 : decode cX6_forcing 12 = .ok (.getfield 66, 3) := by decide +kernel
theorem dX6_forcing_15 : decode cX6_forcing 15 = .ok (.if_icmp .ge 82, 3) := by decide +kernel
theorem dX6_forcing_18 : decode cX6_forcing 18 = .ok (.aload_n 0, 1) := by decide +kernel
theorem dX6_forcing_19 : decode cX6_forcing 19 = .ok (.iload_n 1, 1) := by decide +kernel
theorem dX6_forcing_20 : decode cX6_forcing 20 = .ok (.iload 5, 2) := by decide +kernel
theorem dX6_forcing_22 : decode cX6_forcing 22 = .ok (.aload_n 0, 1) := by decide +kernel
theorem dX6_forcing_23 : decode cX6_forcing 23 = .ok (.getfield 15, 3) := by decide +kernel
theorem dX6_forcing_26 : decode cX6_forcing 26 = .ok (.aload_n 0, 1) := by decide +kernel
theorem dX6_forcing_27 : decode cX6_forcing 27 = .ok (.getfield 18, 3) := by decide +kernel
theorem dX6_forcing_30 : decode cX6_forcing 30 = .ok (.invokevirtual 48, 3) := by decide +kernel
theorem dX6_forcing_33 : decode cX6_forcing 33 = .ok (.iload_n 3, 1) := by decide +kernel
theorem dX6_forcing_34 : decode cX6_forcing 34 = .ok (.ifCond .eq 26, 3) := by decide +kernel
theorem dX6_forcing_37 : decode cX6_forcing 37 = .ok (.aload_n 0, 1) := by decide +kernel
theorem dX6_forcing_38 : decode cX6_forcing 38 = .ok (.getfield 18, 3) := by decide +kernel
theorem dX6_forcing_41 : decode cX6_forcing 41 = .ok (.aload_n 0, 1) := by decide +kernel
theorem dX6_forcing_42 : decode cX6_forcing 42 = .ok (.iload_n 1, 1) := by decide +kernel
theorem dX6_forcing_43 : decode cX6_forcing 43 = .ok (.iload 5, 2) := by decide +kernel
theorem dX6_forcing_45 : decode cX6_forcing 45 = .ok (.invokevirtual 69, 3) := by decide +kernel
theorem dX6_forcing_48 : decode cX6_forcing 48 = .ok (.invokestatic 44, 3) := by decide +kernel
theorem dX6_forcing_51 : decode cX6_forcing 51 = .ok (.iload_n 2, 1) := by decide +kernel
theorem dX6_forcing_52 : decode cX6_forcing 52 = .ok (.invokestatic 72, 3) := by decide +kernel
theorem dX6_forcing_55 : decode cX6_forcing 55 = .ok (.istore 6, 2) := by decide +kernel
theorem dX6_forcing_57 : decode cX6_forcing 57 = .ok (.goto 20, 3) := by decide +kernel
theorem dX6_forcing_60 : decode cX6_forcing 60 = .ok (.aload_n 0, 1) := by decide +kernel
theorem dX6_forcing_61 : decode cX6_forcing 61 = .ok (.iload_n 2, 1) := by decide +kernel
theorem dX6_forcing_62 : decode cX6_forcing 62 = .ok (.invokevirtual 52, 3) := by decide +kernel
theorem dX6_forcing_65 : decode cX6_forcing 65 = .ok (.bipush (-9), 2) := by decide +kernel
theorem dX6_forcing_67 : decode cX6_forcing 67 = .ok (.if_icmp .eq 7, 3) := by decide +kernel
theorem dX6_forcing_70 : decode cX6_forcing 70 = .ok (.iconst 1, 1) := by decide +kernel
theorem dX6_forcing_71 : decode cX6_forcing 71 = .ok (.goto 4, 3) := by decide +kernel
theorem dX6_forcing_74 : decode cX6_forcing 74 = .ok (.iconst 0, 1) := by decide +kernel
theorem dX6_forcing_75 : decode cX6_forcing 75 = .ok (.istore 6, 2) := by decide +kernel
theorem dX6_forcing_77 : decode cX6_forcing 77 = .ok (.iload 6, 2) := by decide +kernel
theorem dX6_forcing_79 : decode cX6_forcing 79 = .ok (.ifCond .eq 12, 3) := by decide +kernel
theorem dX6_forcing_82 : decode cX6_forcing 82 = .ok (.iload 4, 2) := by decide +kernel
theorem dX6_forcing_84 : decode cX6_forcing 84 = .ok (.iconst 1, 1) := by decide +kernel
theorem dX6_forcing_85 : decode cX6_forcing 85 = .ok (.iload 5, 2) := by decide +kernel
theorem dX6_forcing_87 : decode cX6_forcing 87 = .ok (.ishl, 1) := by decide +kernel
theorem dX6_forcing_88 : decode cX6_forcing 88 = .ok (.ior, 1) := by decide +kernel
theorem dX6_forcing_89 : decode cX6_forcing 89 = .ok (.istore 4, 2) := by decide +kernel
theorem dX6_forcing_91 : decode cX6_forcing 91 = .ok (.iinc 5 1, 3) := by decide +kernel
theorem dX6_forcing_94 : decode cX6_forcing 94 = .ok (.goto (-88), 3) := by decide +kernel
end
section
theorem dX6_forcing_97 : decode cX6_forcing 97 = .ok (.iload 4, 2) := by decide +kernel
theorem dX6_forcing_99 : decode cX6_forcing 99 = .ok (.ireturn, 1) := by decide +kernel
theorem dX6_chosenJoint_0 : decode cX6_chosenJoint 0 = .ok (.iconst 0, 1) := by decide +kernel
theorem dX6_chosenJoint_1 : decode cX6_chosenJoint 1 = .ok (.istore_n 3, 1) := by decide +kernel
theorem dX6_chosenJoint_2 : decode cX6_chosenJoint 2 = .ok (.iconst 1, 1) := by decide +kernel
theorem dX6_chosenJoint_3 : decode cX6_chosenJoint 3 = .ok (.istore 4, 2) := by decide +kernel
theorem dX6_chosenJoint_5 : decode cX6_chosenJoint 5 = .ok (.iconst 0, 1) := by decide +kernel
theorem dX6_chosenJoint_6 : decode cX6_chosenJoint 6 = .ok (.istore 5, 2) := by decide +kernel
theorem dX6_chosenJoint_8 : decode cX6_chosenJoint 8 = .ok (.iload 5, 2) := by decide +kernel
theorem dX6_chosenJoint_10 : decode cX6_chosenJoint 10 = .ok (.aload_n 0, 1) := by decide +kernel
theorem dX6_chosenJoint_11 : decode cX6_chosenJoint 11 = .ok (.getfield 21, 3) := by decide +kernel
theorem dX6_chosenJoint_14 : decode cX6_chosenJoint 14 = .ok (.getfield 76, 3) := by decide +kernel
theorem dX6_chosenJoint_17 : decode cX6_chosenJoint 17 = .ok (.if_icmp .ge 83, 3) := by decide +kernel
theorem dX6_chosenJoint_20 : decode cX6_chosenJoint 20 = .ok (.iload_n 2, 1) := by decide +kernel
theorem dX6_chosenJoint_21 : decode cX6_chosenJoint 21 = .ok (.iconst 4, 1) := by decide +kernel
theorem dX6_chosenJoint_22 : decode cX6_chosenJoint 22 = .ok (.imul, 1) := by decide +kernel
theorem dX6_chosenJoint_23 : decode cX6_chosenJoint 23 = .ok (.iload 5, 2) := by decide +kernel
theorem dX6_chosenJoint_25 : decode cX6_chosenJoint 25 = .ok (.iadd, 1) := by decide +kernel
theorem dX6_chosenJoint_26 : decode cX6_chosenJoint 26 = .ok (.istore 6, 2) := by decide +kernel
theorem dX6_chosenJoint_28 : decode cX6_chosenJoint 28 = .ok (.aload_n 0, 1) := by decide +kernel
theorem dX6_chosenJoint_29 : decode cX6_chosenJoint 29 = .ok (.getfield 21, 3) := by decide +kernel
theorem dX6_chosenJoint_32 : decode cX6_chosenJoint 32 = .ok (.getfield 79, 3) := by decide +kernel
theorem dX6_chosenJoint_35 : decode cX6_chosenJoint 35 = .ok (.iload 6, 2) := by decide +kernel
theorem dX6_chosenJoint_37 : decode cX6_chosenJoint 37 = .ok (.invokestatic 44, 3) := by decide +kernel
theorem dX6_chosenJoint_40 : decode cX6_chosenJoint 40 = .ok (.istore 7, 2) := by decide +kernel
theorem dX6_chosenJoint_42 : decode cX6_chosenJoint 42 = .ok (.iload 7, 2) := by decide +kernel
theorem dX6_chosenJoint_44 : decode cX6_chosenJoint 44 = .ok (.aload_n 0, 1) := by decide +kernel
theorem dX6_chosenJoint_45 : decode cX6_chosenJoint 45 = .ok (.getfield 21, 3) := by decide +kernel
theorem dX6_chosenJoint_48 : decode cX6_chosenJoint 48 = .ok (.getfield 82, 3) := by decide +kernel
theorem dX6_chosenJoint_51 : decode cX6_chosenJoint 51 = .ok (.iload 6, 2) := by decide +kernel
theorem dX6_chosenJoint_53 : decode cX6_chosenJoint 53 = .ok (.invokestatic 44, 3) := by decide +kernel
theorem dX6_chosenJoint_56 : decode cX6_chosenJoint 56 = .ok (.if_icmp .ge 7, 3) := by decide +kernel
theorem dX6_chosenJoint_59 : decode cX6_chosenJoint 59 = .ok (.iconst 1, 1) := by decide +kernel
theorem dX6_chosenJoint_60 : decode cX6_chosenJoint 60 = .ok (.goto 4, 3) := by decide +kernel
theorem dX6_chosenJoint_63 : decode cX6_chosenJoint 63 = .ok (.iconst 0, 1) := by decide +kernel
theorem dX6_chosenJoint_64 : decode cX6_chosenJoint 64 = .ok (.istore 8, 2) := by decide +kernel
theorem dX6_chosenJoint_66 : decode cX6_chosenJoint 66 = .ok (.iload 8, 2) := by decide +kernel
theorem dX6_chosenJoint_68 : decode cX6_chosenJoint 68 = .ok (.ifCond .eq 20, 3) := by decide +kernel
theorem dX6_chosenJoint_71 : decode cX6_chosenJoint 71 = .ok (.iload_n 1, 1) := by decide +kernel
theorem dX6_chosenJoint_72 : decode cX6_chosenJoint 72 = .ok (.iload 5, 2) := by decide +kernel
theorem dX6_chosenJoint_74 : decode cX6_chosenJoint 74 = .ok (.ishr, 1) := by decide +kernel
theorem dX6_chosenJoint_75 : decode cX6_chosenJoint 75 = .ok (.iconst 1, 1) := by decide +kernel
theorem dX6_chosenJoint_76 : decode cX6_chosenJoint 76 = .ok (.iand, 1) := by decide +kernel
theorem dX6_chosenJoint_77 : decode cX6_chosenJoint 77 = .ok (.ifCond .eq 11, 3) := by decide +kernel
theorem dX6_chosenJoint_80 : decode cX6_chosenJoint 80 = .ok (.iload_n 3, 1) := by decide +kernel
theorem dX6_chosenJoint_81 : decode cX6_chosenJoint 81 = .ok (.iload 7, 2) := by decide +kernel
theorem dX6_chosenJoint_83 : decode cX6_chosenJoint 83 = .ok (.iload 4, 2) := by decide +kernel
theorem dX6_chosenJoint_85 : decode cX6_chosenJoint 85 = .ok (.imul, 1) := by decide +kernel
theorem dX6_chosenJoint_86 : decode cX6_chosenJoint 86 = .ok (.iadd, 1) := by decide +kernel
theorem dX6_chosenJoint_87 : decode cX6_chosenJoint 87 = .ok (.istore_n 3, 1) := by decide +kernel
theorem dX6_chosenJoint_88 : decode cX6_chosenJoint 88 = .ok (.iload 4, 2) := by decide +kernel
theorem dX6_chosenJoint_90 : decode cX6_chosenJoint 90 = .ok (.iconst 3, 1) := by decide +kernel
theorem dX6_chosenJoint_91 : decode cX6_chosenJoint 91 = .ok (.imul, 1) := by decide +kernel
theorem dX6_chosenJoint_92 : decode cX6_chosenJoint 92 = .ok (.istore 4, 2) := by decide +kernel
theorem dX6_chosenJoint_94 : decode cX6_chosenJoint 94 = .ok (.iinc 5 1, 3) := by decide +kernel
theorem dX6_chosenJoint_97 : decode cX6_chosenJoint 97 = .ok (.goto (-89), 3) := by decide +kernel
theorem dX6_chosenJoint_100 : decode cX6_chosenJoint 100 = .ok (.iload_n 3, 1) := by decide +kernel
theorem dX6_chosenJoint_101 : decode cX6_chosenJoint 101 = .ok (.ireturn, 1) := by decide +kernel
theorem dX6_follow_0 : decode cX6_follow 0 = .ok (.aload_n 0, 1) := by decide +kernel
theorem dX6_follow_1 : decode cX6_follow 1 = .ok (.iload_n 1, 1) := by decide +kernel
theorem dX6_follow_2 : decode cX6_follow 2 = .ok (.iload_n 2, 1) := by decide +kernel
theorem dX6_follow_3 : decode cX6_follow 3 = .ok (.invokevirtual 69, 3) := by decide +kernel
theorem dX6_follow_6 : decode cX6_follow 6 = .ok (.istore 4, 2) := by decide +kernel
theorem dX6_follow_8 : decode cX6_follow 8 = .ok (.iconst 0, 1) := by decide +kernel
theorem dX6_follow_9 : decode cX6_follow 9 = .ok (.istore 5, 2) := by decide +kernel
theorem dX6_follow_11 : decode cX6_follow 11 = .ok (.iconst 0, 1) := by decide +kernel
theorem dX6_follow_12 : decode cX6_follow 12 = .ok (.istore 6, 2) := by decide +kernel
theorem dX6_follow_14 : decode cX6_follow 14 = .ok (.iload 6, 2) := by decide +kernel
theorem dX6_follow_16 : decode cX6_follow 16 = .ok (.aload_n 0, 1) := by decide +kernel
theorem dX6_follow_17 : decode cX6_follow 17 = .ok (.getfield 21, 3) := by decide +kernel
theorem dX6_follow_20 : decode cX6_follow 20 = .ok (.getfield 35, 3) := by decide +kernel
theorem dX6_follow_23 : decode cX6_follow 23 = .ok (.if_icmp .ge 38, 3) := by decide +kernel
theorem dX6_follow_26 : decode cX6_follow 26 = .ok (.aload_n 0, 1) := by decide +kernel
theorem dX6_follow_27 : decode cX6_follow 27 = .ok (.getfield 21, 3) := by decide +kernel
theorem dX6_follow_30 : decode cX6_follow 30 = .ok (.iload_n 2, 1) := by decide +kernel
theorem dX6_follow_31 : decode cX6_follow 31 = .ok (.iload 6, 2) := by decide +kernel
theorem dX6_follow_33 : decode cX6_follow 33 = .ok (.invokevirtual 56, 3) := by decide +kernel
theorem dX6_follow_36 : decode cX6_follow 36 = .ok (.iconst (-1), 1) := by decide +kernel
theorem dX6_follow_37 : decode cX6_follow 37 = .ok (.if_icmp .eq 18, 3) := by decide +kernel
theorem dX6_follow_40 : decode cX6_follow 40 = .ok (.aload_n 0, 1) := by decide +kernel
theorem dX6_follow_41 : decode cX6_follow 41 = .ok (.iload_n 1, 1) := by decide +kernel
theorem dX6_follow_42 : decode cX6_follow 42 = .ok (.iload 6, 2) := by decide +kernel
theorem dX6_follow_44 : decode cX6_follow 44 = .ok (.invokevirtual 59, 3) := by decide +kernel
theorem dX6_follow_47 : decode cX6_follow 47 = .ok (.iload 4, 2) := by decide +kernel
theorem dX6_follow_49 : decode cX6_follow 49 = .ok (.if_icmp .ne 6, 3) := by decide +kernel
theorem dX6_follow_52 : decode cX6_follow 52 = .ok (.iinc 5 1, 3) := by decide +kernel
theorem dX6_follow_55 : decode cX6_follow 55 = .ok (.iinc 6 1, 3) := by decide +kernel
theorem dX6_follow_58 : decode cX6_follow 58 = .ok (.goto (-44), 3) := by decide +kernel
theorem dX6_follow_61 : decode cX6_follow 61 = .ok (.iload 5, 2) := by decide +kernel
theorem dX6_follow_63 : decode cX6_follow 63 = .ok (.ifCond .le 10, 3) := by decide +kernel
theorem dX6_follow_66 : decode cX6_follow 66 = .ok (.iload_n 3, 1) := by decide +kernel
theorem dX6_follow_67 : decode cX6_follow 67 = .ok (.iload 5, 2) := by decide +kernel
theorem dX6_follow_69 : decode cX6_follow 69 = .ok (.irem, 1) := by decide +kernel
theorem dX6_follow_70 : decode cX6_follow 70 = .ok (.goto 4, 3) := by decide +kernel
theorem dX6_follow_73 : decode cX6_follow 73 = .ok (.iconst 0, 1) := by decide +kernel
theorem dX6_follow_74 : decode cX6_follow 74 = .ok (.istore 6, 2) := by decide +kernel
theorem dX6_follow_76 : decode cX6_follow 76 = .ok (.iconst 0, 1) := by decide +kernel
theorem dX6_follow_77 : decode cX6_follow 77 = .ok (.istore 7, 2) := by decide +kernel
theorem dX6_follow_79 : decode cX6_follow 79 = .ok (.iload 7, 2) := by decide +kernel
theorem dX6_follow_81 : decode cX6_follow 81 = .ok (.aload_n 0, 1) := by decide +kernel
theorem dX6_follow_82 : decode cX6_follow 82 = .ok (.getfield 21, 3) := by decide +kernel
theorem dX6_follow_85 : decode cX6_follow 85 = .ok (.getfield 35, 3) := by decide +kernel
theorem dX6_follow_88 : decode cX6_follow 88 = .ok (.if_icmp .ge 53, 3) := by decide +kernel
theorem dX6_follow_91 : decode cX6_follow 91 = .ok (.aload_n 0, 1) := by decide +kernel
theorem dX6_follow_92 : decode cX6_follow 92 = .ok (.getfield 21, 3) := by decide +kernel
theorem dX6_follow_95 : decode cX6_follow 95 = .ok (.iload_n 2, 1) := by decide +kernel
theorem dX6_follow_96 : decode cX6_follow 96 = .ok (.iload 7, 2) := by decide +kernel
theorem dX6_follow_98 : decode cX6_follow 98 = .ok (.invokevirtual 56, 3) := by decide +kernel
theorem dX6_follow_101 : decode cX6_follow 101 = .ok (.istore 8, 2) := by decide +kernel
theorem dX6_follow_103 : decode cX6_follow 103 = .ok (.iload 8, 2) := by decide +kernel
theorem dX6_follow_105 : decode cX6_follow 105 = .ok (.iconst (-1), 1) := by decide +kernel
theorem dX6_follow_106 : decode cX6_follow 106 = .ok (.if_icmp .eq 29, 3) := by decide +kernel
theorem dX6_follow_109 : decode cX6_follow 109 = .ok (.aload_n 0, 1) := by decide +kernel
theorem dX6_follow_110 : decode cX6_follow 110 = .ok (.iload_n 1, 1) := by decide +kernel
theorem dX6_follow_111 : decode cX6_follow 111 = .ok (.iload 7, 2) := by decide +kernel
theorem dX6_follow_113 : decode cX6_follow 113 = .ok (.invokevirtual 59, 3) := by decide +kernel
theorem dX6_follow_116 : decode cX6_follow 116 = .ok (.iload 4, 2) := by decide +kernel
theorem dX6_follow_118 : decode cX6_follow 118 = .ok (.if_icmp .eq 6, 3) := by decide +kernel
theorem dX6_follow_121 : decode cX6_follow 121 = .ok (.goto 14, 3) := by decide +kernel
theorem dX6_follow_124 : decode cX6_follow 124 = .ok (.iload 6, 2) := by decide +kernel
theorem dX6_follow_126 : decode cX6_follow 126 = .ok (.ifCond .ne 6, 3) := by decide +kernel
theorem dX6_follow_129 : decode cX6_follow 129 = .ok (.iload 8, 2) := by decide +kernel
theorem dX6_follow_131 : decode cX6_follow 131 = .ok (.ireturn, 1) := by decide +kernel
theorem dX6_follow_132 : decode cX6_follow 132 = .ok (.iinc 6 (-1), 3) := by decide +kernel
theorem dX6_follow_135 : decode cX6_follow 135 = .ok (.iinc 7 1, 3) := by decide +kernel
theorem dX6_follow_138 : decode cX6_follow 138 = .ok (.goto (-59), 3) := by decide +kernel
theorem dX6_follow_141 : decode cX6_follow 141 = .ok (.iload_n 2, 1) := by decide +kernel
theorem dX6_follow_142 : decode cX6_follow 142 = .ok (.ireturn, 1) := by decide +kernel
theorem dX6_leastWithin_0 : decode cX6_leastWithin 0 = .ok (.iconst 0, 1) := by decide +kernel
theorem dX6_leastWithin_1 : decode cX6_leastWithin 1 = .ok (.istore_n 2, 1) := by decide +kernel
theorem dX6_leastWithin_2 : decode cX6_leastWithin 2 = .ok (.iload_n 2, 1) := by decide +kernel
theorem dX6_leastWithin_3 : decode cX6_leastWithin 3 = .ok (.aload_n 0, 1) := by decide +kernel
theorem dX6_leastWithin_4 : decode cX6_leastWithin 4 = .ok (.getfield 21, 3) := by decide +kernel
theorem dX6_leastWithin_7 : decode cX6_leastWithin 7 = .ok (.getfield 35, 3) := by decide +kernel
theorem dX6_leastWithin_10 : decode cX6_leastWithin 10 = .ok (.if_icmp .ge 26, 3) := by decide +kernel
theorem dX6_leastWithin_13 : decode cX6_leastWithin 13 = .ok (.aload_n 0, 1) := by decide +kernel
theorem dX6_leastWithin_14 : decode cX6_leastWithin 14 = .ok (.getfield 18, 3) := by decide +kernel
theorem dX6_leastWithin_17 : decode cX6_leastWithin 17 = .ok (.iload_n 2, 1) := by decide +kernel
theorem dX6_leastWithin_18 : decode cX6_leastWithin 18 = .ok (.invokestatic 44, 3) := by decide +kernel
theorem dX6_leastWithin_21 : decode cX6_leastWithin 21 = .ok (.iload_n 1, 1) := by decide +kernel
theorem dX6_leastWithin_22 : decode cX6_leastWithin 22 = .ok (.invokestatic 72, 3) := by decide +kernel
theorem dX6_leastWithin_25 : decode cX6_leastWithin 25 = .ok (.ifCond .eq 5, 3) := by decide +kernel
theorem dX6_leastWithin_28 : decode cX6_leastWithin 28 = .ok (.iload_n 2, 1) := by decide +kernel
theorem dX6_leastWithin_29 : decode cX6_leastWithin 29 = .ok (.ireturn, 1) := by decide +kernel
theorem dX6_leastWithin_30 : decode cX6_leastWithin 30 = .ok (.iinc 2 1, 3) := by decide +kernel
theorem dX6_leastWithin_33 : decode cX6_leastWithin 33 = .ok (.goto (-31), 3) := by decide +kernel
theorem dX6_leastWithin_36 : decode cX6_leastWithin 36 = .ok (.bipush (-9), 2) := by decide +kernel
theorem dX6_leastWithin_38 : decode cX6_leastWithin 38 = .ok (.ireturn, 1) := by decide +kernel
theorem dX6_jointPart_0 : decode cX6_jointPart 0 = .ok (.aload_n 0, 1) := by decide +kernel
theorem dX6_jointPart_1 : decode cX6_jointPart 1 = .ok (.getfield 9, 3) := by decide +kernel
theorem dX6_jointPart_4 : decode cX6_jointPart 4 = .ok (.iload_n 1, 1) := by decide +kernel
theorem dX6_jointPart_5 : decode cX6_jointPart 5 = .ok (.bipush 81, 2) := by decide +kernel
theorem dX6_jointPart_7 : decode cX6_jointPart 7 = .ok (.imul, 1) := by decide +kernel
theorem dX6_jointPart_8 : decode cX6_jointPart 8 = .ok (.iload_n 2, 1) := by decide +kernel
theorem dX6_jointPart_9 : decode cX6_jointPart 9 = .ok (.iadd, 1) := by decide +kernel
theorem dX6_jointPart_10 : decode cX6_jointPart 10 = .ok (.invokestatic 44, 3) := by decide +kernel
theorem dX6_jointPart_13 : decode cX6_jointPart 13 = .ok (.ireturn, 1) := by decide +kernel
theorem dX6_partOf_0 : decode cX6_partOf 0 = .ok (.iconst 0, 1) := by decide +kernel
theorem dX6_partOf_1 : decode cX6_partOf 1 = .ok (.istore_n 2, 1) := by decide +kernel
theorem dX6_partOf_2 : decode cX6_partOf 2 = .ok (.iload_n 1, 1) := by decide +kernel
theorem dX6_partOf_3 : decode cX6_partOf 3 = .ok (.istore_n 3, 1) := by decide +kernel
theorem dX6_partOf_4 : decode cX6_partOf 4 = .ok (.iconst 1, 1) := by decide +kernel
theorem dX6_partOf_5 : decode cX6_partOf 5 = .ok (.istore 4, 2) := by decide +kernel
theorem dX6_partOf_7 : decode cX6_partOf 7 = .ok (.iconst 0, 1) := by decide +kernel
theorem dX6_partOf_8 : decode cX6_partOf 8 = .ok (.istore 5, 2) := by decide +kernel
theorem dX6_partOf_10 : decode cX6_partOf 10 = .ok (.iload 5, 2) := by decide +kernel
theorem dX6_partOf_12 : decode cX6_partOf 12 = .ok (.iconst 4, 1) := by decide +kernel
theorem dX6_partOf_13 : decode cX6_partOf 13 = .ok (.if_icmp .ge 37, 3) := by decide +kernel
theorem dX6_partOf_16 : decode cX6_partOf 16 = .ok (.iload_n 0, 1) := by decide +kernel
theorem dX6_partOf_17 : decode cX6_partOf 17 = .ok (.iload 5, 2) := by decide +kernel
theorem dX6_partOf_19 : decode cX6_partOf 19 = .ok (.ishr, 1) := by decide +kernel
theorem dX6_partOf_20 : decode cX6_partOf 20 = .ok (.iconst 1, 1) := by decide +kernel
theorem dX6_partOf_21 : decode cX6_partOf 21 = .ok (.iand, 1) := by decide +kernel
theorem dX6_partOf_22 : decode cX6_partOf 22 = .ok (.ifCond .eq 12, 3) := by decide +kernel
theorem dX6_partOf_25 : decode cX6_partOf 25 = .ok (.iload_n 2, 1) := by decide +kernel
theorem dX6_partOf_26 : decode cX6_partOf 26 = .ok (.iload_n 3, 1) := by decide +kernel
theorem dX6_partOf_27 : decode cX6_partOf 27 = .ok (.iconst 3, 1) := by decide +kernel
theorem dX6_partOf_28 : decode cX6_partOf 28 = .ok (.irem, 1) := by decide +kernel
theorem dX6_partOf_29 : decode cX6_partOf 29 = .ok (.iload 4, 2) := by decide +kernel
theorem dX6_partOf_31 : decode cX6_partOf 31 = .ok (.imul, 1) := by decide +kernel
theorem dX6_partOf_32 : decode cX6_partOf 32 = .ok (.iadd, 1) := by decide +kernel
theorem dX6_partOf_33 : decode cX6_partOf 33 = .ok (.istore_n 2, 1) := by decide +kernel
theorem dX6_partOf_34 : decode cX6_partOf 34 = .ok (.iload_n 3, 1) := by decide +kernel
theorem dX6_partOf_35 : decode cX6_partOf 35 = .ok (.iconst 3, 1) := by decide +kernel
theorem dX6_partOf_36 : decode cX6_partOf 36 = .ok (.idiv, 1) := by decide +kernel
theorem dX6_partOf_37 : decode cX6_partOf 37 = .ok (.istore_n 3, 1) := by decide +kernel
theorem dX6_partOf_38 : decode cX6_partOf 38 = .ok (.iload 4, 2) := by decide +kernel
theorem dX6_partOf_40 : decode cX6_partOf 40 = .ok (.iconst 3, 1) := by decide +kernel
theorem dX6_partOf_41 : decode cX6_partOf 41 = .ok (.imul, 1) := by decide +kernel
theorem dX6_partOf_42 : decode cX6_partOf 42 = .ok (.istore 4, 2) := by decide +kernel
theorem dX6_partOf_44 : decode cX6_partOf 44 = .ok (.iinc 5 1, 3) := by decide +kernel
theorem dX6_partOf_47 : decode cX6_partOf 47 = .ok (.goto (-37), 3) := by decide +kernel
theorem dX6_partOf_50 : decode cX6_partOf 50 = .ok (.iload_n 2, 1) := by decide +kernel
theorem dX6_partOf_51 : decode cX6_partOf 51 = .ok (.ireturn, 1) := by decide +kernel
theorem dX7_init_0 : decode cX7_init 0 = .ok (.aload_n 0, 1) := by decide +kernel
theorem dX7_init_1 : decode cX7_init 1 = .ok (.invokespecial 3, 3) := by decide +kernel
theorem dX7_init_4 : decode cX7_init 4 = .ok (.aload_n 0, 1) := by decide +kernel
theorem dX7_init_5 : decode cX7_init 5 = .ok (.bipush 12, 2) := by decide +kernel
theorem dX7_init_7 : decode cX7_init 7 = .ok (.newarray .int, 2) := by decide +kernel
theorem dX7_init_9 : decode cX7_init 9 = .ok (.putfield 9, 3) := by decide +kernel
theorem dX7_init_12 : decode cX7_init 12 = .ok (.aload_n 0, 1) := by decide +kernel
theorem dX7_init_13 : decode cX7_init 13 = .ok (.bipush 48, 2) := by decide +kernel
theorem dX7_init_15 : decode cX7_init 15 = .ok (.newarray .int, 2) := by decide +kernel
theorem dX7_init_17 : decode cX7_init 17 = .ok (.putfield 15, 3) := by decide +kernel
theorem dX7_init_20 : decode cX7_init 20 = .ok (.aload_n 0, 1) := by decide +kernel
theorem dX7_init_21 : decode cX7_init 21 = .ok (.bipush 48, 2) := by decide +kernel
theorem dX7_init_23 : decode cX7_init 23 = .ok (.newarray .int, 2) := by decide +kernel
theorem dX7_init_25 : decode cX7_init 25 = .ok (.putfield 18, 3) := by decide +kernel
theorem dX7_init_28 : decode cX7_init 28 = .ok (.aload_n 0, 1) := by decide +kernel
theorem dX7_init_29 : decode cX7_init 29 = .ok (.sipush 972, 3) := by decide +kernel
theorem dX7_init_32 : decode cX7_init 32 = .ok (.newarray .int, 2) := by decide +kernel
theorem dX7_init_34 : decode cX7_init 34 = .ok (.putfield 21, 3) := by decide +kernel
theorem dX7_init_37 : decode cX7_init 37 = .ok (.aload_n 0, 1) := by decide +kernel
theorem dX7_init_38 : decode cX7_init 38 = .ok (.iconst 0, 1) := by decide +kernel
theorem dX7_init_39 : decode cX7_init 39 = .ok (.putfield 24, 3) := by decide +kernel
theorem dX7_init_42 : decode cX7_init 42 = .ok (.aload_n 0, 1) := by decide +kernel
theorem dX7_init_43 : decode cX7_init 43 = .ok (.iload_n 1, 1) := by decide +kernel
theorem dX7_init_44 : decode cX7_init 44 = .ok (.putfield 28, 3) := by decide +kernel
theorem dX7_init_47 : decode cX7_init 47 = .ok (.aload_n 0, 1) := by decide +kernel
theorem dX7_init_48 : decode cX7_init 48 = .ok (.iconst 1, 1) := by decide +kernel
theorem dX7_init_49 : decode cX7_init 49 = .ok (.iload_n 1, 1) := by decide +kernel
theorem dX7_init_50 : decode cX7_init 50 = .ok (.ishl, 1) := by decide +kernel
theorem dX7_init_51 : decode cX7_init 51 = .ok (.putfield 31, 3) := by decide +kernel
theorem dX7_init_54 : decode cX7_init 54 = .ok (.iconst 1, 1) := by decide +kernel
theorem dX7_init_55 : decode cX7_init 55 = .ok (.istore_n 2, 1) := by decide +kernel
theorem dX7_init_56 : decode cX7_init 56 = .ok (.iconst 0, 1) := by decide +kernel
theorem dX7_init_57 : decode cX7_init 57 = .ok (.istore_n 3, 1) := by decide +kernel
theorem dX7_init_58 : decode cX7_init 58 = .ok (.iload_n 3, 1) := by decide +kernel
theorem dX7_init_59 : decode cX7_init 59 = .ok (.iload_n 1, 1) := by decide +kernel
theorem dX7_init_60 : decode cX7_init 60 = .ok (.if_icmp .ge 13, 3) := by decide +kernel
theorem dX7_init_63 : decode cX7_init 63 = .ok (.iload_n 2, 1) := by decide +kernel
theorem dX7_init_64 : decode cX7_init 64 = .ok (.iconst 3, 1) := by decide +kernel
theorem dX7_init_65 : decode cX7_init 65 = .ok (.imul, 1) := by decide +kernel
theorem dX7_init_66 : decode cX7_init 66 = .ok (.istore_n 2, 1) := by decide +kernel
theorem dX7_init_67 : decode cX7_init 67 = .ok (.iinc 3 1, 3) := by decide +kernel
theorem dX7_init_70 : decode cX7_init 70 = .ok (.goto (-12), 3) := by decide +kernel
theorem dX7_init_73 : decode cX7_init 73 = .ok (.aload_n 0, 1) := by decide +kernel
theorem dX7_init_74 : decode cX7_init 74 = .ok (.iload_n 2, 1) := by decide +kernel
theorem dX7_init_75 : decode cX7_init 75 = .ok (.putfield 34, 3) := by decide +kernel
theorem dX7_init_78 : decode cX7_init 78 = .ok (.return_, 1) := by decide +kernel
theorem dX7_copyFrom_0 : decode cX7_copyFrom 0 = .ok (.aload_n 0, 1) := by decide +kernel
theorem dX7_copyFrom_1 : decode cX7_copyFrom 1 = .ok (.aload_n 1, 1) := by decide +kernel
theorem dX7_copyFrom_2 : decode cX7_copyFrom 2 = .ok (.getfield 24, 3) := by decide +kernel
theorem dX7_copyFrom_5 : decode cX7_copyFrom 5 = .ok (.putfield 24, 3) := by decide +kernel
theorem dX7_copyFrom_8 : decode cX7_copyFrom 8 = .ok (.aload_n 1, 1) := by decide +kernel
theorem dX7_copyFrom_9 : decode cX7_copyFrom 9 = .ok (.getfield 9, 3) := by decide +kernel
theorem dX7_copyFrom_12 : decode cX7_copyFrom 12 = .ok (.aload_n 0, 1) := by decide +kernel
theorem dX7_copyFrom_13 : decode cX7_copyFrom 13 = .ok (.getfield 9, 3) := by decide +kernel
theorem dX7_copyFrom_16 : decode cX7_copyFrom 16 = .ok (.invokestatic 37, 3) := by decide +kernel
theorem dX7_copyFrom_19 : decode cX7_copyFrom 19 = .ok (.aload_n 1, 1) := by decide +kernel
theorem dX7_copyFrom_20 : decode cX7_copyFrom 20 = .ok (.getfield 15, 3) := by decide +kernel
theorem dX7_copyFrom_23 : decode cX7_copyFrom 23 = .ok (.aload_n 0, 1) := by decide +kernel
theorem dX7_copyFrom_24 : decode cX7_copyFrom 24 = .ok (.getfield 15, 3) := by decide +kernel
theorem dX7_copyFrom_27 : decode cX7_copyFrom 27 = .ok (.invokestatic 37, 3) := by decide +kernel
theorem dX7_copyFrom_30 : decode cX7_copyFrom 30 = .ok (.aload_n 1, 1) := by decide +kernel
theorem dX7_copyFrom_31 : decode cX7_copyFrom 31 = .ok (.getfield 18, 3) := by decide +kernel
theorem dX7_copyFrom_34 : decode cX7_copyFrom 34 = .ok (.aload_n 0, 1) := by decide +kernel
theorem dX7_copyFrom_35 : decode cX7_copyFrom 35 = .ok (.getfield 18, 3) := by decide +kernel
theorem dX7_copyFrom_38 : decode cX7_copyFrom 38 = .ok (.invokestatic 37, 3) := by decide +kernel
theorem dX7_copyFrom_41 : decode cX7_copyFrom 41 = .ok (.aload_n 1, 1) := by decide +kernel
theorem dX7_copyFrom_42 : decode cX7_copyFrom 42 = .ok (.getfield 21, 3) := by decide +kernel
theorem dX7_copyFrom_45 : decode cX7_copyFrom 45 = .ok (.aload_n 0, 1) := by decide +kernel
theorem dX7_copyFrom_46 : decode cX7_copyFrom 46 = .ok (.getfield 21, 3) := by decide +kernel
theorem dX7_copyFrom_49 : decode cX7_copyFrom 49 = .ok (.invokestatic 37, 3) := by decide +kernel
theorem dX7_copyFrom_52 : decode cX7_copyFrom 52 = .ok (.return_, 1) := by decide +kernel
theorem dX7_hasState_0 : decode cX7_hasState 0 = .ok (.iload_n 1, 1) := by decide +kernel
theorem dX7_hasState_1 : decode cX7_hasState 1 = .ok (.ifCond .lt 15, 3) := by decide +kernel
theorem dX7_hasState_4 : decode cX7_hasState 4 = .ok (.iload_n 1, 1) := by decide +kernel
theorem dX7_hasState_5 : decode cX7_hasState 5 = .ok (.aload_n 0, 1) := by decide +kernel
theorem dX7_hasState_6 : decode cX7_hasState 6 = .ok (.getfield 24, 3) := by decide +kernel
theorem dX7_hasState_9 : decode cX7_hasState 9 = .ok (.if_icmp .ge 7, 3) := by decide +kernel
theorem dX7_hasState_12 : decode cX7_hasState 12 = .ok (.iconst 1, 1) := by decide +kernel
theorem dX7_hasState_13 : decode cX7_hasState 13 = .ok (.goto 4, 3) := by decide +kernel
theorem dX7_hasState_16 : decode cX7_hasState 16 = .ok (.iconst 0, 1) := by decide +kernel
theorem dX7_hasState_17 : decode cX7_hasState 17 = .ok (.ireturn, 1) := by decide +kernel
theorem dX7_hasPlace_0 : decode cX7_hasPlace 0 = .ok (.aload_n 0, 1) := by decide +kernel
theorem dX7_hasPlace_1 : decode cX7_hasPlace 1 = .ok (.iload_n 1, 1) := by decide +kernel
theorem dX7_hasPlace_2 : decode cX7_hasPlace 2 = .ok (.invokevirtual 43, 3) := by decide +kernel
theorem dX7_hasPlace_5 : decode cX7_hasPlace 5 = .ok (.ifCond .eq 19, 3) := by decide +kernel
theorem dX7_hasPlace_8 : decode cX7_hasPlace 8 = .ok (.iload_n 2, 1) := by decide +kernel
theorem dX7_hasPlace_9 : decode cX7_hasPlace 9 = .ok (.ifCond .lt 15, 3) := by decide +kernel
theorem dX7_hasPlace_12 : decode cX7_hasPlace 12 = .ok (.iload_n 2, 1) := by decide +kernel
theorem dX7_hasPlace_13 : decode cX7_hasPlace 13 = .ok (.aload_n 0, 1) := by decide +kernel
theorem dX7_hasPlace_14 : decode cX7_hasPlace 14 = .ok (.getfield 28, 3) := by decide +kernel
theorem dX7_hasPlace_17 : decode cX7_hasPlace 17 = .ok (.if_icmp .ge 7, 3) := by decide +kernel
theorem dX7_hasPlace_20 : decode cX7_hasPlace 20 = .ok (.iconst 1, 1) := by decide +kernel
theorem dX7_hasPlace_21 : decode cX7_hasPlace 21 = .ok (.goto 4, 3) := by decide +kernel
theorem dX7_hasPlace_24 : decode cX7_hasPlace 24 = .ok (.iconst 0, 1) := by decide +kernel
theorem dX7_hasPlace_25 : decode cX7_hasPlace 25 = .ok (.ireturn, 1) := by decide +kernel
theorem dX7_hasCoalition_0 : decode cX7_hasCoalition 0 = .ok (.iload_n 1, 1) := by decide +kernel
theorem dX7_hasCoalition_1 : decode cX7_hasCoalition 1 = .ok (.ifCond .lt 15, 3) := by decide +kernel
theorem dX7_hasCoalition_4 : decode cX7_hasCoalition 4 = .ok (.iload_n 1, 1) := by decide +kernel
theorem dX7_hasCoalition_5 : decode cX7_hasCoalition 5 = .ok (.aload_n 0, 1) := by decide +kernel
theorem dX7_hasCoalition_6 : decode cX7_hasCoalition 6 = .ok (.getfield 31, 3) := by decide +kernel
theorem dX7_hasCoalition_9 : decode cX7_hasCoalition 9 = .ok (.if_icmp .ge 7, 3) := by decide +kernel
theorem dX7_hasCoalition_12 : decode cX7_hasCoalition 12 = .ok (.iconst 1, 1) := by decide +kernel
theorem dX7_hasCoalition_13 : decode cX7_hasCoalition 13 = .ok (.goto 4, 3) := by decide +kernel
theorem dX7_hasCoalition_16 : decode cX7_hasCoalition 16 = .ok (.iconst 0, 1) := by decide +kernel
theorem dX7_hasCoalition_17 : decode cX7_hasCoalition 17 = .ok (.ireturn, 1) := by decide +kernel
theorem dX7_hasSet_0 : decode cX7_hasSet 0 = .ok (.iload_n 1, 1) := by decide +kernel
theorem dX7_hasSet_1 : decode cX7_hasSet 1 = .ok (.aload_n 0, 1) := by decide +kernel
theorem dX7_hasSet_2 : decode cX7_hasSet 2 = .ok (.invokevirtual 47, 3) := by decide +kernel
theorem dX7_hasSet_5 : decode cX7_hasSet 5 = .ok (.iconst (-1), 1) := by decide +kernel
theorem dX7_hasSet_6 : decode cX7_hasSet 6 = .ok (.ixor, 1) := by decide +kernel
theorem dX7_hasSet_7 : decode cX7_hasSet 7 = .ok (.iand, 1) := by decide +kernel
theorem dX7_hasSet_8 : decode cX7_hasSet 8 = .ok (.ifCond .ne 7, 3) := by decide +kernel
theorem dX7_hasSet_11 : decode cX7_hasSet 11 = .ok (.iconst 1, 1) := by decide +kernel
theorem dX7_hasSet_12 : decode cX7_hasSet 12 = .ok (.goto 4, 3) := by decide +kernel
theorem dX7_hasSet_15 : decode cX7_hasSet 15 = .ok (.iconst 0, 1) := by decide +kernel
theorem dX7_hasSet_16 : decode cX7_hasSet 16 = .ok (.ireturn, 1) := by decide +kernel
theorem dX7_allStates_0 : decode cX7_allStates 0 = .ok (.iconst 1, 1) := by decide +kernel
theorem dX7_allStates_1 : decode cX7_allStates 1 = .ok (.aload_n 0, 1) := by decide +kernel
theorem dX7_allStates_2 : decode cX7_allStates 2 = .ok (.getfield 24, 3) := by decide +kernel
theorem dX7_allStates_5 : decode cX7_allStates 5 = .ok (.ishl, 1) := by decide +kernel
theorem dX7_allStates_6 : decode cX7_allStates 6 = .ok (.iconst 1, 1) := by decide +kernel
theorem dX7_allStates_7 : decode cX7_allStates 7 = .ok (.isub, 1) := by decide +kernel
theorem dX7_allStates_8 : decode cX7_allStates 8 = .ok (.ireturn, 1) := by decide +kernel
theorem dX7_labelSet_0 : decode cX7_labelSet 0 = .ok (.aload_n 0, 1) := by decide +kernel
theorem dX7_labelSet_1 : decode cX7_labelSet 1 = .ok (.getfield 9, 3) := by decide +kernel
theorem dX7_labelSet_4 : decode cX7_labelSet 4 = .ok (.iload_n 1, 1) := by decide +kernel
theorem dX7_labelSet_5 : decode cX7_labelSet 5 = .ok (.invokestatic 51, 3) := by decide +kernel
theorem dX7_labelSet_8 : decode cX7_labelSet 8 = .ok (.ireturn, 1) := by decide +kernel
theorem dX7_setLabelSet_0 : decode cX7_setLabelSet 0 = .ok (.aload_n 0, 1) := by decide +kernel
theorem dX7_setLabelSet_1 : decode cX7_setLabelSet 1 = .ok (.getfield 9, 3) := by decide +kernel
theorem dX7_setLabelSet_4 : decode cX7_setLabelSet 4 = .ok (.iload_n 1, 1) := by decide +kernel
theorem dX7_setLabelSet_5 : decode cX7_setLabelSet 5 = .ok (.iload_n 2, 1) := by decide +kernel
theorem dX7_setLabelSet_6 : decode cX7_setLabelSet 6 = .ok (.invokestatic 55, 3) := by decide +kernel
theorem dX7_setLabelSet_9 : decode cX7_setLabelSet 9 = .ok (.return_, 1) := by decide +kernel
theorem dX7_actionCount_0 : decode cX7_actionCount 0 = .ok (.aload_n 0, 1) := by decide +kernel
theorem dX7_actionCount_1 : decode cX7_actionCount 1 = .ok (.getfield 15, 3) := by decide +kernel
theorem dX7_actionCount_4 : decode cX7_actionCount 4 = .ok (.iload_n 1, 1) := by decide +kernel
theorem dX7_actionCount_5 : decode cX7_actionCount 5 = .ok (.iconst 4, 1) := by decide +kernel
theorem dX7_actionCount_6 : decode cX7_actionCount 6 = .ok (.imul, 1) := by decide +kernel
theorem dX7_actionCount_7 : decode cX7_actionCount 7 = .ok (.iload_n 2, 1) := by decide +kernel
theorem dX7_actionCount_8 : decode cX7_actionCount 8 = .ok (.iadd, 1) := by decide +kernel
theorem dX7_actionCount_9 : decode cX7_actionCount 9 = .ok (.invokestatic 51, 3) := by decide +kernel
theorem dX7_actionCount_12 : decode cX7_actionCount 12 = .ok (.ireturn, 1) := by decide +kernel
theorem dX7_setActionCount_0 : decode cX7_setActionCount 0 = .ok (.aload_n 0, 1) := by decide +kernel
theorem dX7_setActionCount_1 : decode cX7_setActionCount 1 = .ok (.getfield 15, 3) := by decide +kernel
theorem dX7_setActionCount_4 : decode cX7_setActionCount 4 = .ok (.iload_n 1, 1) := by decide +kernel
theorem dX7_setActionCount_5 : decode cX7_setActionCount 5 = .ok (.iconst 4, 1) := by decide +kernel
theorem dX7_setActionCount_6 : decode cX7_setActionCount 6 = .ok (.imul, 1) := by decide +kernel
theorem dX7_setActionCount_7 : decode cX7_setActionCount 7 = .ok (.iload_n 2, 1) := by decide +kernel
theorem dX7_setActionCount_8 : decode cX7_setActionCount 8 = .ok (.iadd, 1) := by decide +kernel
theorem dX7_setActionCount_9 : decode cX7_setActionCount 9 = .ok (.iload_n 3, 1) := by decide +kernel
theorem dX7_setActionCount_10 : decode cX7_setActionCount 10 = .ok (.invokestatic 55, 3) := by decide +kernel
theorem dX7_setActionCount_13 : decode cX7_setActionCount 13 = .ok (.aload_n 0, 1) := by decide +kernel
theorem dX7_setActionCount_14 : decode cX7_setActionCount 14 = .ok (.iload_n 1, 1) := by decide +kernel
theorem dX7_setActionCount_15 : decode cX7_setActionCount 15 = .ok (.invokevirtual 59, 3) := by decide +kernel
theorem dX7_setActionCount_18 : decode cX7_setActionCount 18 = .ok (.return_, 1) := by decide +kernel
theorem dX7_plannedAction_0 : decode cX7_plannedAction 0 = .ok (.aload_n 0, 1) := by decide +kernel
theorem dX7_plannedAction_1 : decode cX7_plannedAction 1 = .ok (.getfield 18, 3) := by decide +kernel
theorem dX7_plannedAction_4 : decode cX7_plannedAction 4 = .ok (.iload_n 1, 1) := by decide +kernel
theorem dX7_plannedAction_5 : decode cX7_plannedAction 5 = .ok (.iconst 4, 1) := by decide +kernel
theorem dX7_plannedAction_6 : decode cX7_plannedAction 6 = .ok (.imul, 1) := by decide +kernel
theorem dX7_plannedAction_7 : decode cX7_plannedAction 7 = .ok (.iload_n 2, 1) := by decide +kernel
theorem dX7_plannedAction_8 : decode cX7_plannedAction 8 = .ok (.iadd, 1) := by decide +kernel
theorem dX7_plannedAction_9 : decode cX7_plannedAction 9 = .ok (.invokestatic 51, 3) := by decide +kernel
theorem dX7_plannedAction_12 : decode cX7_plannedAction 12 = .ok (.ireturn, 1) := by decide +kernel
theorem dX7_setPlannedAction_0 : decode cX7_setPlannedAction 0 = .ok (.aload_n 0, 1) := by decide +kernel
theorem dX7_setPlannedAction_1 : decode cX7_setPlannedAction 1 = .ok (.getfield 18, 3) := by decide +kernel
theorem dX7_setPlannedAction_4 : decode cX7_setPlannedAction 4 = .ok (.iload_n 1, 1) := by decide +kernel
theorem dX7_setPlannedAction_5 : decode cX7_setPlannedAction 5 = .ok (.iconst 4, 1) := by decide +kernel
theorem dX7_setPlannedAction_6 : decode cX7_setPlannedAction 6 = .ok (.imul, 1) := by decide +kernel
theorem dX7_setPlannedAction_7 : decode cX7_setPlannedAction 7 = .ok (.iload_n 2, 1) := by decide +kernel
theorem dX7_setPlannedAction_8 : decode cX7_setPlannedAction 8 = .ok (.iadd, 1) := by decide +kernel
theorem dX7_setPlannedAction_9 : decode cX7_setPlannedAction 9 = .ok (.iload_n 3, 1) := by decide +kernel
theorem dX7_setPlannedAction_10 : decode cX7_setPlannedAction 10 = .ok (.invokestatic 55, 3) := by decide +kernel
theorem dX7_setPlannedAction_13 : decode cX7_setPlannedAction 13 = .ok (.return_, 1) := by decide +kernel
theorem dX7_target_0 : decode cX7_target 0 = .ok (.aload_n 0, 1) := by decide +kernel
theorem dX7_target_1 : decode cX7_target 1 = .ok (.iload_n 1, 1) := by decide +kernel
theorem dX7_target_2 : decode cX7_target 2 = .ok (.invokevirtual 43, 3) := by decide +kernel
theorem dX7_target_5 : decode cX7_target 5 = .ok (.ifCond .eq 15, 3) := by decide +kernel
theorem dX7_target_8 : decode cX7_target 8 = .ok (.iload_n 2, 1) := by decide +kernel
theorem dX7_target_9 : decode cX7_target 9 = .ok (.ifCond .lt 11, 3) := by decide +kernel
theorem dX7_target_12 : decode cX7_target 12 = .ok (.iload_n 2, 1) := by decide +kernel
theorem dX7_target_13 : decode cX7_target 13 = .ok (.aload_n 0, 1) := by decide +kernel
theorem dX7_target_14 : decode cX7_target 14 = .ok (.getfield 34, 3) := by decide +kernel
theorem dX7_target_17 : decode cX7_target 17 = .ok (.if_icmp .lt 5, 3) := by decide +kernel
theorem dX7_target_20 : decode cX7_target 20 = .ok (.iconst (-1), 1) := by decide +kernel
theorem dX7_target_21 : decode cX7_target 21 = .ok (.ireturn, 1) := by decide +kernel
theorem dX7_target_22 : decode cX7_target 22 = .ok (.aload_n 0, 1) := by decide +kernel
theorem dX7_target_23 : decode cX7_target 23 = .ok (.getfield 21, 3) := by decide +kernel
theorem dX7_target_26 : decode cX7_target 26 = .ok (.iload_n 1, 1) := by decide +kernel
theorem dX7_target_27 : decode cX7_target 27 = .ok (.bipush 81, 2) := by decide +kernel
theorem dX7_target_29 : decode cX7_target 29 = .ok (.imul, 1) := by decide +kernel
theorem dX7_target_30 : decode cX7_target 30 = .ok (.iload_n 2, 1) := by decide +kernel
theorem dX7_target_31 : decode cX7_target 31 = .ok (.iadd, 1) := by decide +kernel
theorem dX7_target_32 : decode cX7_target 32 = .ok (.invokestatic 51, 3) := by decide +kernel
theorem dX7_target_35 : decode cX7_target 35 = .ok (.ireturn, 1) := by decide +kernel
theorem dX7_setTarget_0 : decode cX7_setTarget 0 = .ok (.aload_n 0, 1) := by decide +kernel
theorem dX7_setTarget_1 : decode cX7_setTarget 1 = .ok (.getfield 21, 3) := by decide +kernel
theorem dX7_setTarget_4 : decode cX7_setTarget 4 = .ok (.iload_n 1, 1) := by decide +kernel
theorem dX7_setTarget_5 : decode cX7_setTarget 5 = .ok (.bipush 81, 2) := by decide +kernel
theorem dX7_setTarget_7 : decode cX7_setTarget 7 = .ok (.imul, 1) := by decide +kernel
theorem dX7_setTarget_8 : decode cX7_setTarget 8 = .ok (.iload_n 2, 1) := by decide +kernel
theorem dX7_setTarget_9 : decode cX7_setTarget 9 = .ok (.iadd, 1) := by decide +kernel
theorem dX7_setTarget_10 : decode cX7_setTarget 10 = .ok (.iload_n 3, 1) := by decide +kernel
theorem dX7_setTarget_11 : decode cX7_setTarget 11 = .ok (.invokestatic 55, 3) := by decide +kernel
theorem dX7_setTarget_14 : decode cX7_setTarget 14 = .ok (.return_, 1) := by decide +kernel
theorem dX7_possibleMoves_0 : decode cX7_possibleMoves 0 = .ok (.iconst 0, 1) := by decide +kernel
theorem dX7_possibleMoves_1 : decode cX7_possibleMoves 1 = .ok (.istore_n 2, 1) := by decide +kernel
theorem dX7_possibleMoves_2 : decode cX7_possibleMoves 2 = .ok (.iconst 0, 1) := by decide +kernel
theorem dX7_possibleMoves_3 : decode cX7_possibleMoves 3 = .ok (.istore_n 3, 1) := by decide +kernel
theorem dX7_possibleMoves_4 : decode cX7_possibleMoves 4 = .ok (.iload_n 3, 1) := by decide +kernel
theorem dX7_possibleMoves_5 : decode cX7_possibleMoves 5 = .ok (.aload_n 0, 1) := by decide +kernel
theorem dX7_possibleMoves_6 : decode cX7_possibleMoves 6 = .ok (.getfield 34, 3) := by decide +kernel
theorem dX7_possibleMoves_9 : decode cX7_possibleMoves 9 = .ok (.if_icmp .ge 22, 3) := by decide +kernel
theorem dX7_possibleMoves_12 : decode cX7_possibleMoves 12 = .ok (.aload_n 0, 1) := by decide +kernel
theorem dX7_possibleMoves_13 : decode cX7_possibleMoves 13 = .ok (.iload_n 1, 1) := by decide +kernel
theorem dX7_possibleMoves_14 : decode cX7_possibleMoves 14 = .ok (.iload_n 3, 1) := by decide +kernel
theorem dX7_possibleMoves_15 : decode cX7_possibleMoves 15 = .ok (.invokevirtual 63, 3) := by decide +kernel
theorem dX7_possibleMoves_18 : decode cX7_possibleMoves 18 = .ok (.iconst (-1), 1) := by decide +kernel
theorem dX7_possibleMoves_19 : decode cX7_possibleMoves 19 = .ok (.if_icmp .eq 6, 3) := by decide +kernel
theorem dX7_possibleMoves_22 : decode cX7_possibleMoves 22 = .ok (.iinc 2 1, 3) := by decide +kernel
theorem dX7_possibleMoves_25 : decode cX7_possibleMoves 25 = .ok (.iinc 3 1, 3) := by decide +kernel
theorem dX7_possibleMoves_28 : decode cX7_possibleMoves 28 = .ok (.goto (-24), 3) := by decide +kernel
theorem dX7_possibleMoves_31 : decode cX7_possibleMoves 31 = .ok (.iload_n 2, 1) := by decide +kernel
theorem dX7_possibleMoves_32 : decode cX7_possibleMoves 32 = .ok (.ireturn, 1) := by decide +kernel
theorem dX7_grow_0 : decode cX7_grow 0 = .ok (.aload_n 0, 1) := by decide +kernel
theorem dX7_grow_1 : decode cX7_grow 1 = .ok (.getfield 24, 3) := by decide +kernel
theorem dX7_grow_4 : decode cX7_grow 4 = .ok (.istore_n 1, 1) := by decide +kernel
theorem dX7_grow_5 : decode cX7_grow 5 = .ok (.aload_n 0, 1) := by decide +kernel
theorem dX7_grow_6 : decode cX7_grow 6 = .ok (.iload_n 1, 1) := by decide +kernel
theorem dX7_grow_7 : decode cX7_grow 7 = .ok (.iconst 0, 1) := by decide +kernel
theorem dX7_grow_8 : decode cX7_grow 8 = .ok (.invokevirtual 67, 3) := by decide +kernel
theorem dX7_grow_11 : decode cX7_grow 11 = .ok (.iconst 0, 1) := by decide +kernel
theorem dX7_grow_12 : decode cX7_grow 12 = .ok (.istore_n 2, 1) := by decide +kernel
theorem dX7_grow_13 : decode cX7_grow 13 = .ok (.iload_n 2, 1) := by decide +kernel
theorem dX7_grow_14 : decode cX7_grow 14 = .ok (.iconst 4, 1) := by decide +kernel
theorem dX7_grow_15 : decode cX7_grow 15 = .ok (.if_icmp .ge 29, 3) := by decide +kernel
theorem dX7_grow_18 : decode cX7_grow 18 = .ok (.aload_n 0, 1) := by decide +kernel
theorem dX7_grow_19 : decode cX7_grow 19 = .ok (.getfield 15, 3) := by decide +kernel
theorem dX7_grow_22 : decode cX7_grow 22 = .ok (.iload_n 1, 1) := by decide +kernel
theorem dX7_grow_23 : decode cX7_grow 23 = .ok (.iconst 4, 1) := by decide +kernel
theorem dX7_grow_24 : decode cX7_grow 24 = .ok (.imul, 1) := by decide +kernel
theorem dX7_grow_25 : decode cX7_grow 25 = .ok (.iload_n 2, 1) := by decide +kernel
theorem dX7_grow_26 : decode cX7_grow 26 = .ok (.iadd, 1) := by decide +kernel
theorem dX7_grow_27 : decode cX7_grow 27 = .ok (.iconst 1, 1) := by decide +kernel
theorem dX7_grow_28 : decode cX7_grow 28 = .ok (.invokestatic 55, 3) := by decide +kernel
theorem dX7_grow_31 : decode cX7_grow 31 = .ok (.aload_n 0, 1) := by decide +kernel
theorem dX7_grow_32 : decode cX7_grow 32 = .ok (.iload_n 1, 1) := by decide +kernel
theorem dX7_grow_33 : decode cX7_grow 33 = .ok (.iload_n 2, 1) := by decide +kernel
theorem dX7_grow_34 : decode cX7_grow 34 = .ok (.iconst 0, 1) := by decide +kernel
theorem dX7_grow_35 : decode cX7_grow 35 = .ok (.invokevirtual 71, 3) := by decide +kernel
theorem dX7_grow_38 : decode cX7_grow 38 = .ok (.iinc 2 1, 3) := by decide +kernel
theorem dX7_grow_41 : decode cX7_grow 41 = .ok (.goto (-28), 3) := by decide +kernel
theorem dX7_grow_44 : decode cX7_grow 44 = .ok (.aload_n 0, 1) := by decide +kernel
theorem dX7_grow_45 : decode cX7_grow 45 = .ok (.iload_n 1, 1) := by decide +kernel
theorem dX7_grow_46 : decode cX7_grow 46 = .ok (.invokevirtual 59, 3) := by decide +kernel
theorem dX7_grow_49 : decode cX7_grow 49 = .ok (.aload_n 0, 1) := by decide +kernel
theorem dX7_grow_50 : decode cX7_grow 50 = .ok (.dup, 1) := by decide +kernel
theorem dX7_grow_51 : decode cX7_grow 51 = .ok (.getfield 24, 3) := by decide +kernel
theorem dX7_grow_54 : decode cX7_grow 54 = .ok (.iconst 1, 1) := by decide +kernel
theorem dX7_grow_55 : decode cX7_grow 55 = .ok (.iadd, 1) := by decide +kernel
theorem dX7_grow_56 : decode cX7_grow 56 = .ok (.putfield 24, 3) := by decide +kernel
theorem dX7_grow_59 : decode cX7_grow 59 = .ok (.iload_n 1, 1) := by decide +kernel
theorem dX7_grow_60 : decode cX7_grow 60 = .ok (.ireturn, 1) := by decide +kernel
theorem dX7_redirect_0 : decode cX7_redirect 0 = .ok (.iconst 0, 1) := by decide +kernel
theorem dX7_redirect_1 : decode cX7_redirect 1 = .ok (.istore 5, 2) := by decide +kernel
theorem dX7_redirect_3 : decode cX7_redirect 3 = .ok (.iconst 0, 1) := by decide +kernel
theorem dX7_redirect_4 : decode cX7_redirect 4 = .ok (.istore 6, 2) := by decide +kernel
theorem dX7_redirect_6 : decode cX7_redirect 6 = .ok (.iload 6, 2) := by decide +kernel
theorem dX7_redirect_8 : decode cX7_redirect 8 = .ok (.aload_n 0, 1) := by decide +kernel
theorem dX7_redirect_9 : decode cX7_redirect 9 = .ok (.getfield 34, 3) := by decide +kernel
theorem dX7_redirect_12 : decode cX7_redirect 12 = .ok (.if_icmp .ge 56, 3) := by decide +kernel
theorem dX7_redirect_15 : decode cX7_redirect 15 = .ok (.aload_n 0, 1) := by decide +kernel
theorem dX7_redirect_16 : decode cX7_redirect 16 = .ok (.iload_n 1, 1) := by decide +kernel
theorem dX7_redirect_17 : decode cX7_redirect 17 = .ok (.iload 6, 2) := by decide +kernel
theorem dX7_redirect_19 : decode cX7_redirect 19 = .ok (.invokevirtual 63, 3) := by decide +kernel
theorem dX7_redirect_22 : decode cX7_redirect 22 = .ok (.istore 7, 2) := by decide +kernel
theorem dX7_redirect_24 : decode cX7_redirect 24 = .ok (.iload 7, 2) := by decide +kernel
theorem dX7_redirect_26 : decode cX7_redirect 26 = .ok (.iconst (-1), 1) := by decide +kernel
theorem dX7_redirect_27 : decode cX7_redirect 27 = .ok (.if_icmp .eq 35, 3) := by decide +kernel
theorem dX7_redirect_30 : decode cX7_redirect 30 = .ok (.iload 6, 2) := by decide +kernel
theorem dX7_redirect_32 : decode cX7_redirect 32 = .ok (.iload_n 2, 1) := by decide +kernel
theorem dX7_redirect_33 : decode cX7_redirect 33 = .ok (.invokestatic 75, 3) := by decide +kernel
theorem dX7_redirect_36 : decode cX7_redirect 36 = .ok (.iload_n 3, 1) := by decide +kernel
theorem dX7_redirect_37 : decode cX7_redirect 37 = .ok (.if_icmp .eq 6, 3) := by decide +kernel
theorem dX7_redirect_40 : decode cX7_redirect 40 = .ok (.goto 22, 3) := by decide +kernel
theorem dX7_redirect_43 : decode cX7_redirect 43 = .ok (.iload 7, 2) := by decide +kernel
theorem dX7_redirect_45 : decode cX7_redirect 45 = .ok (.iload 4, 2) := by decide +kernel
theorem dX7_redirect_47 : decode cX7_redirect 47 = .ok (.if_icmp .eq 6, 3) := by decide +kernel
theorem dX7_redirect_50 : decode cX7_redirect 50 = .ok (.iinc 5 1, 3) := by decide +kernel
theorem dX7_redirect_53 : decode cX7_redirect 53 = .ok (.aload_n 0, 1) := by decide +kernel
theorem dX7_redirect_54 : decode cX7_redirect 54 = .ok (.iload_n 1, 1) := by decide +kernel
theorem dX7_redirect_55 : decode cX7_redirect 55 = .ok (.iload 6, 2) := by decide +kernel
theorem dX7_redirect_57 : decode cX7_redirect 57 = .ok (.iload 4, 2) := by decide +kernel
theorem dX7_redirect_59 : decode cX7_redirect 59 = .ok (.invokevirtual 78, 3) := by decide +kernel
theorem dX7_redirect_62 : decode cX7_redirect 62 = .ok (.iinc 6 1, 3) := by decide +kernel
theorem dX7_redirect_65 : decode cX7_redirect 65 = .ok (.goto (-59), 3) := by decide +kernel
theorem dX7_redirect_68 : decode cX7_redirect 68 = .ok (.iload 5, 2) := by decide +kernel
theorem dX7_redirect_70 : decode cX7_redirect 70 = .ok (.ireturn, 1) := by decide +kernel
theorem dX7_mix_0 : decode cX7_mix 0 = .ok (.lload_n 1, 1) := by decide +kernel
theorem dX7_mix_1 : decode cX7_mix 1 = .ok (.ldc2_w 81, 3) := by decide +kernel
theorem dX7_mix_4 : decode cX7_mix 4 = .ok (.lmul, 1) := by decide +kernel
theorem dX7_mix_5 : decode cX7_mix 5 = .ok (.aload_n 0, 1) := by decide +kernel
theorem dX7_mix_6 : decode cX7_mix 6 = .ok (.getfield 24, 3) := by decide +kernel
theorem dX7_mix_9 : decode cX7_mix 9 = .ok (.i2l, 1) := by decide +kernel
theorem dX7_mix_10 : decode cX7_mix 10 = .ok (.ladd, 1) := by decide +kernel
theorem dX7_mix_11 : decode cX7_mix 11 = .ok (.lstore_n 3, 1) := by decide +kernel
theorem dX7_mix_12 : decode cX7_mix 12 = .ok (.iconst 0, 1) := by decide +kernel
theorem dX7_mix_13 : decode cX7_mix 13 = .ok (.istore 5, 2) := by decide +kernel
theorem dX7_mix_15 : decode cX7_mix 15 = .ok (.iload 5, 2) := by decide +kernel
theorem dX7_mix_17 : decode cX7_mix 17 = .ok (.aload_n 0, 1) := by decide +kernel
theorem dX7_mix_18 : decode cX7_mix 18 = .ok (.getfield 24, 3) := by decide +kernel
theorem dX7_mix_21 : decode cX7_mix 21 = .ok (.if_icmp .ge 117, 3) := by decide +kernel
theorem dX7_mix_24 : decode cX7_mix 24 = .ok (.lload_n 3, 1) := by decide +kernel
theorem dX7_mix_25 : decode cX7_mix 25 = .ok (.ldc2_w 81, 3) := by decide +kernel
theorem dX7_mix_28 : decode cX7_mix 28 = .ok (.lmul, 1) := by decide +kernel
theorem dX7_mix_29 : decode cX7_mix 29 = .ok (.aload_n 0, 1) := by decide +kernel
theorem dX7_mix_30 : decode cX7_mix 30 = .ok (.iload 5, 2) := by decide +kernel
theorem dX7_mix_32 : decode cX7_mix 32 = .ok (.invokevirtual 83, 3) := by decide +kernel
theorem dX7_mix_35 : decode cX7_mix 35 = .ok (.i2l, 1) := by decide +kernel
theorem dX7_mix_36 : decode cX7_mix 36 = .ok (.ladd, 1) := by decide +kernel
theorem dX7_mix_37 : decode cX7_mix 37 = .ok (.lstore_n 3, 1) := by decide +kernel
theorem dX7_mix_38 : decode cX7_mix 38 = .ok (.iconst 0, 1) := by decide +kernel
theorem dX7_mix_39 : decode cX7_mix 39 = .ok (.istore 6, 2) := by decide +kernel
theorem dX7_mix_41 : decode cX7_mix 41 = .ok (.iload 6, 2) := by decide +kernel
theorem dX7_mix_43 : decode cX7_mix 43 = .ok (.aload_n 0, 1) := by decide +kernel
theorem dX7_mix_44 : decode cX7_mix 44 = .ok (.getfield 28, 3) := by decide +kernel
theorem dX7_mix_47 : decode cX7_mix 47 = .ok (.if_icmp .ge 41, 3) := by decide +kernel
theorem dX7_mix_50 : decode cX7_mix 50 = .ok (.lload_n 3, 1) := by decide +kernel
theorem dX7_mix_51 : decode cX7_mix 51 = .ok (.ldc2_w 81, 3) := by decide +kernel
theorem dX7_mix_54 : decode cX7_mix 54 = .ok (.lmul, 1) := by decide +kernel
theorem dX7_mix_55 : decode cX7_mix 55 = .ok (.aload_n 0, 1) := by decide +kernel
theorem dX7_mix_56 : decode cX7_mix 56 = .ok (.iload 5, 2) := by decide +kernel
theorem dX7_mix_58 : decode cX7_mix 58 = .ok (.iload 6, 2) := by decide +kernel
theorem dX7_mix_60 : decode cX7_mix 60 = .ok (.invokevirtual 87, 3) := by decide +kernel
theorem dX7_mix_63 : decode cX7_mix 63 = .ok (.i2l, 1) := by decide +kernel
theorem dX7_mix_64 : decode cX7_mix 64 = .ok (.ladd, 1) := by decide +kernel
theorem dX7_mix_65 : decode cX7_mix 65 = .ok (.lstore_n 3, 1) := by decide +kernel
theorem dX7_mix_66 : decode cX7_mix 66 = .ok (.lload_n 3, 1) := by decide +kernel
theorem dX7_mix_67 : decode cX7_mix 67 = .ok (.ldc2_w 81, 3) := by decide +kernel
theorem dX7_mix_70 : decode cX7_mix 70 = .ok (.lmul, 1) := by decide +kernel
theorem dX7_mix_71 : decode cX7_mix 71 = .ok (.aload_n 0, 1) := by decide +kernel
theorem dX7_mix_72 : decode cX7_mix 72 = .ok (.iload 5, 2) := by decide +kernel
theorem dX7_mix_74 : decode cX7_mix 74 = .ok (.iload 6, 2) := by decide +kernel
theorem dX7_mix_76 : decode cX7_mix 76 = .ok (.invokevirtual 90, 3) := by decide +kernel
theorem dX7_mix_79 : decode cX7_mix 79 = .ok (.i2l, 1) := by decide +kernel
theorem dX7_mix_80 : decode cX7_mix 80 = .ok (.ladd, 1) := by decide +kernel
theorem dX7_mix_81 : decode cX7_mix 81 = .ok (.lstore_n 3, 1) := by decide +kernel
theorem dX7_mix_82 : decode cX7_mix 82 = .ok (.iinc 6 1, 3) := by decide +kernel
theorem dX7_mix_85 : decode cX7_mix 85 = .ok (.goto (-44), 3) := by decide +kernel
theorem dX7_mix_88 : decode cX7_mix 88 = .ok (.iconst 0, 1) := by decide +kernel
theorem dX7_mix_89 : decode cX7_mix 89 = .ok (.istore 6, 2) := by decide +kernel
theorem dX7_mix_91 : decode cX7_mix 91 = .ok (.iload 6, 2) := by decide +kernel
theorem dX7_mix_93 : decode cX7_mix 93 = .ok (.aload_n 0, 1) := by decide +kernel
theorem dX7_mix_94 : decode cX7_mix 94 = .ok (.getfield 34, 3) := by decide +kernel
theorem dX7_mix_97 : decode cX7_mix 97 = .ok (.if_icmp .ge 35, 3) := by decide +kernel
theorem dX7_mix_100 : decode cX7_mix 100 = .ok (.aload_n 0, 1) := by decide +kernel
theorem dX7_mix_101 : decode cX7_mix 101 = .ok (.iload 5, 2) := by decide +kernel
theorem dX7_mix_103 : decode cX7_mix 103 = .ok (.iload 6, 2) := by decide +kernel
theorem dX7_mix_105 : decode cX7_mix 105 = .ok (.invokevirtual 63, 3) := by decide +kernel
theorem dX7_mix_108 : decode cX7_mix 108 = .ok (.istore 7, 2) := by decide +kernel
theorem dX7_mix_110 : decode cX7_mix 110 = .ok (.iload 7, 2) := by decide +kernel
theorem dX7_mix_112 : decode cX7_mix 112 = .ok (.iconst (-1), 1) := by decide +kernel
theorem dX7_mix_113 : decode cX7_mix 113 = .ok (.if_icmp .eq 13, 3) := by decide +kernel
theorem dX7_mix_116 : decode cX7_mix 116 = .ok (.lload_n 3, 1) := by decide +kernel
theorem dX7_mix_117 : decode cX7_mix 117 = .ok (.ldc2_w 81, 3) := by decide +kernel
theorem dX7_mix_120 : decode cX7_mix 120 = .ok (.lmul, 1) := by decide +kernel
theorem dX7_mix_121 : decode cX7_mix 121 = .ok (.iload 7, 2) := by decide +kernel
theorem dX7_mix_123 : decode cX7_mix 123 = .ok (.i2l, 1) := by decide +kernel
theorem dX7_mix_124 : decode cX7_mix 124 = .ok (.ladd, 1) := by decide +kernel
theorem dX7_mix_125 : decode cX7_mix 125 = .ok (.lstore_n 3, 1) := by decide +kernel
theorem dX7_mix_126 : decode cX7_mix 126 = .ok (.iinc 6 1, 3) := by decide +kernel
theorem dX7_mix_129 : decode cX7_mix 129 = .ok (.goto (-38), 3) := by decide +kernel
theorem dX7_mix_132 : decode cX7_mix 132 = .ok (.iinc 5 1, 3) := by decide +kernel
theorem dX7_mix_135 : decode cX7_mix 135 = .ok (.goto (-120), 3) := by decide +kernel
theorem dX7_mix_138 : decode cX7_mix 138 = .ok (.lload_n 3, 1) := by decide +kernel
theorem dX7_mix_139 : decode cX7_mix 139 = .ok (.lreturn, 1) := by decide +kernel
theorem dX7_leadBack_0 : decode cX7_leadBack 0 = .ok (.iconst 0, 1) := by decide +kernel
theorem dX7_leadBack_1 : decode cX7_leadBack 1 = .ok (.istore_n 2, 1) := by decide +kernel
theorem dX7_leadBack_2 : decode cX7_leadBack 2 = .ok (.iload_n 2, 1) := by decide +kernel
theorem dX7_leadBack_3 : decode cX7_leadBack 3 = .ok (.aload_n 0, 1) := by decide +kernel
theorem dX7_leadBack_4 : decode cX7_leadBack 4 = .ok (.getfield 34, 3) := by decide +kernel
theorem dX7_leadBack_7 : decode cX7_leadBack 7 = .ok (.if_icmp .ge 29, 3) := by decide +kernel
theorem dX7_leadBack_10 : decode cX7_leadBack 10 = .ok (.aload_n 0, 1) := by decide +kernel
theorem dX7_leadBack_11 : decode cX7_leadBack 11 = .ok (.iload_n 1, 1) := by decide +kernel
theorem dX7_leadBack_12 : decode cX7_leadBack 12 = .ok (.iload_n 2, 1) := by decide +kernel
theorem dX7_leadBack_13 : decode cX7_leadBack 13 = .ok (.aload_n 0, 1) := by decide +kernel
theorem dX7_leadBack_14 : decode cX7_leadBack 14 = .ok (.iload_n 1, 1) := by decide +kernel
theorem dX7_leadBack_15 : decode cX7_leadBack 15 = .ok (.iload_n 2, 1) := by decide +kernel
theorem dX7_leadBack_16 : decode cX7_leadBack 16 = .ok (.invokevirtual 93, 3) := by decide +kernel
theorem dX7_leadBack_19 : decode cX7_leadBack 19 = .ok (.ifCond .eq 7, 3) := by decide +kernel
theorem dX7_leadBack_22 : decode cX7_leadBack 22 = .ok (.iload_n 1, 1) := by decide +kernel
theorem dX7_leadBack_23 : decode cX7_leadBack 23 = .ok (.goto 4, 3) := by decide +kernel
theorem dX7_leadBack_26 : decode cX7_leadBack 26 = .ok (.iconst (-1), 1) := by decide +kernel
theorem dX7_leadBack_27 : decode cX7_leadBack 27 = .ok (.invokevirtual 78, 3) := by decide +kernel
theorem dX7_leadBack_30 : decode cX7_leadBack 30 = .ok (.iinc 2 1, 3) := by decide +kernel
theorem dX7_leadBack_33 : decode cX7_leadBack 33 = .ok (.goto (-31), 3) := by decide +kernel
theorem dX7_leadBack_36 : decode cX7_leadBack 36 = .ok (.return_, 1) := by decide +kernel
theorem dX7_isWithinActions_0 : decode cX7_isWithinActions 0 = .ok (.iconst 0, 1) := by decide +kernel
theorem dX7_isWithinActions_1 : decode cX7_isWithinActions 1 = .ok (.istore_n 3, 1) := by decide +kernel
theorem dX7_isWithinActions_2 : decode cX7_isWithinActions 2 = .ok (.iload_n 3, 1) := by decide +kernel
theorem dX7_isWithinActions_3 : decode cX7_isWithinActions 3 = .ok (.aload_n 0, 1) := by decide +kernel
theorem dX7_isWithinActions_4 : decode cX7_isWithinActions 4 = .ok (.getfield 28, 3) := by decide +kernel
theorem dX7_isWithinActions_7 : decode cX7_isWithinActions 7 = .ok (.if_icmp .ge 25, 3) := by decide +kernel
theorem dX7_isWithinActions_10 : decode cX7_isWithinActions 10 = .ok (.iload_n 2, 1) := by decide +kernel
theorem dX7_isWithinActions_11 : decode cX7_isWithinActions 11 = .ok (.iload_n 3, 1) := by decide +kernel
theorem dX7_isWithinActions_12 : decode cX7_isWithinActions 12 = .ok (.invokestatic 75, 3) := by decide +kernel
theorem dX7_isWithinActions_15 : decode cX7_isWithinActions 15 = .ok (.aload_n 0, 1) := by decide +kernel
theorem dX7_isWithinActions_16 : decode cX7_isWithinActions 16 = .ok (.iload_n 1, 1) := by decide +kernel
theorem dX7_isWithinActions_17 : decode cX7_isWithinActions 17 = .ok (.iload_n 3, 1) := by decide +kernel
theorem dX7_isWithinActions_18 : decode cX7_isWithinActions 18 = .ok (.invokevirtual 87, 3) := by decide +kernel
theorem dX7_isWithinActions_21 : decode cX7_isWithinActions 21 = .ok (.if_icmp .lt 5, 3) := by decide +kernel
theorem dX7_isWithinActions_24 : decode cX7_isWithinActions 24 = .ok (.iconst 0, 1) := by decide +kernel
theorem dX7_isWithinActions_25 : decode cX7_isWithinActions 25 = .ok (.ireturn, 1) := by decide +kernel
theorem dX7_isWithinActions_26 : decode cX7_isWithinActions 26 = .ok (.iinc 3 1, 3) := by decide +kernel
theorem dX7_isWithinActions_29 : decode cX7_isWithinActions 29 = .ok (.goto (-27), 3) := by decide +kernel
theorem dX7_isWithinActions_32 : decode cX7_isWithinActions 32 = .ok (.iconst 1, 1) := by decide +kernel
theorem dX7_isWithinActions_33 : decode cX7_isWithinActions 33 = .ok (.ireturn, 1) := by decide +kernel
theorem dX7_actionIn_0 : decode cX7_actionIn 0 = .ok (.iload_n 0, 1) := by decide +kernel
theorem dX7_actionIn_1 : decode cX7_actionIn 1 = .ok (.istore_n 2, 1) := by decide +kernel
theorem dX7_actionIn_2 : decode cX7_actionIn 2 = .ok (.iconst 0, 1) := by decide +kernel
theorem dX7_actionIn_3 : decode cX7_actionIn 3 = .ok (.istore_n 3, 1) := by decide +kernel
theorem dX7_actionIn_4 : decode cX7_actionIn 4 = .ok (.iload_n 3, 1) := by decide +kernel
theorem dX7_actionIn_5 : decode cX7_actionIn 5 = .ok (.iload_n 1, 1) := by decide +kernel
theorem dX7_actionIn_6 : decode cX7_actionIn 6 = .ok (.if_icmp .ge 13, 3) := by decide +kernel
theorem dX7_actionIn_9 : decode cX7_actionIn 9 = .ok (.iload_n 2, 1) := by decide +kernel
theorem dX7_actionIn_10 : decode cX7_actionIn 10 = .ok (.iconst 3, 1) := by decide +kernel
theorem dX7_actionIn_11 : decode cX7_actionIn 11 = .ok (.idiv, 1) := by decide +kernel
theorem dX7_actionIn_12 : decode cX7_actionIn 12 = .ok (.istore_n 2, 1) := by decide +kernel
theorem dX7_actionIn_13 : decode cX7_actionIn 13 = .ok (.iinc 3 1, 3) := by decide +kernel
theorem dX7_actionIn_16 : decode cX7_actionIn 16 = .ok (.goto (-12), 3) := by decide +kernel
theorem dX7_actionIn_19 : decode cX7_actionIn 19 = .ok (.iload_n 2, 1) := by decide +kernel
theorem dX7_actionIn_20 : decode cX7_actionIn 20 = .ok (.iconst 3, 1) := by decide +kernel
theorem dX7_actionIn_21 : decode cX7_actionIn 21 = .ok (.irem, 1) := by decide +kernel
theorem dX7_actionIn_22 : decode cX7_actionIn 22 = .ok (.ireturn, 1) := by decide +kernel
theorem dX8_init_0 : decode cX8_init 0 = .ok (.aload_n 0, 1) := by decide +kernel
theorem dX8_init_1 : decode cX8_init 1 = .ok (.invokespecial 3, 3) := by decide +kernel
theorem dX8_init_4 : decode cX8_init 4 = .ok (.aload_n 0, 1) := by decide +kernel
theorem dX8_init_5 : decode cX8_init 5 = .ok (.iconst 0, 1) := by decide +kernel
theorem dX8_init_6 : decode cX8_init 6 = .ok (.putfield 9, 3) := by decide +kernel
theorem dX8_init_9 : decode cX8_init 9 = .ok (.aload_n 0, 1) := by decide +kernel
theorem dX8_init_10 : decode cX8_init 10 = .ok (.aload_n 1, 1) := by decide +kernel
theorem dX8_init_11 : decode cX8_init 11 = .ok (.putfield 15, 3) := by decide +kernel
theorem dX8_init_14 : decode cX8_init 14 = .ok (.aload_n 0, 1) := by decide +kernel
theorem dX8_init_15 : decode cX8_init 15 = .ok (.aload_n 2, 1) := by decide +kernel
theorem dX8_init_16 : decode cX8_init 16 = .ok (.putfield 19, 3) := by decide +kernel
theorem dX8_init_19 : decode cX8_init 19 = .ok (.aload_n 0, 1) := by decide +kernel
theorem dX8_init_20 : decode cX8_init 20 = .ok (.aload_n 3, 1) := by decide +kernel
theorem dX8_init_21 : decode cX8_init 21 = .ok (.putfield 23, 3) := by decide +kernel
theorem dX8_init_24 : decode cX8_init 24 = .ok (.return_, 1) := by decide +kernel
theorem dX8_prepare_0 : decode cX8_prepare 0 = .ok (.aload_n 0, 1) := by decide +kernel
theorem dX8_prepare_1 : decode cX8_prepare 1 = .ok (.getfield 23, 3) := by decide +kernel
theorem dX8_prepare_4 : decode cX8_prepare 4 = .ok (.aload_n 1, 1) := by decide +kernel
theorem dX8_prepare_5 : decode cX8_prepare 5 = .ok (.invokevirtual 27, 3) := by decide +kernel
theorem dX8_prepare_8 : decode cX8_prepare 8 = .ok (.aload_n 0, 1) := by decide +kernel
theorem dX8_prepare_9 : decode cX8_prepare 9 = .ok (.aload_n 0, 1) := by decide +kernel
theorem dX8_prepare_10 : decode cX8_prepare 10 = .ok (.getfield 23, 3) := by decide +kernel
theorem dX8_prepare_13 : decode cX8_prepare 13 = .ok (.aload_n 1, 1) := by decide +kernel
theorem dX8_prepare_14 : decode cX8_prepare 14 = .ok (.aload_n 1, 1) := by decide +kernel
theorem dX8_prepare_15 : decode cX8_prepare 15 = .ok (.invokevirtual 33, 3) := by decide +kernel
theorem dX8_prepare_18 : decode cX8_prepare 18 = .ok (.iconst 0, 1) := by decide +kernel
theorem dX8_prepare_19 : decode cX8_prepare 19 = .ok (.invokevirtual 39, 3) := by decide +kernel
theorem dX8_prepare_22 : decode cX8_prepare 22 = .ok (.putfield 9, 3) := by decide +kernel
theorem dX8_prepare_25 : decode cX8_prepare 25 = .ok (.return_, 1) := by decide +kernel
theorem dX8_jointAt_0 : decode cX8_jointAt 0 = .ok (.aload_n 0, 1) := by decide +kernel
theorem dX8_jointAt_1 : decode cX8_jointAt 1 = .ok (.getfield 9, 3) := by decide +kernel
theorem dX8_jointAt_4 : decode cX8_jointAt 4 = .ok (.iload_n 2, 1) := by decide +kernel
theorem dX8_jointAt_5 : decode cX8_jointAt 5 = .ok (.ishr, 1) := by decide +kernel
theorem dX8_jointAt_6 : decode cX8_jointAt 6 = .ok (.iconst 1, 1) := by decide +kernel
theorem dX8_jointAt_7 : decode cX8_jointAt 7 = .ok (.iand, 1) := by decide +kernel
theorem dX8_jointAt_8 : decode cX8_jointAt 8 = .ok (.ifCond .ne 5, 3) := by decide +kernel
theorem dX8_jointAt_11 : decode cX8_jointAt 11 = .ok (.iconst 0, 1) := by decide +kernel
theorem dX8_jointAt_12 : decode cX8_jointAt 12 = .ok (.ireturn, 1) := by decide +kernel
theorem dX8_jointAt_13 : decode cX8_jointAt 13 = .ok (.aload_n 1, 1) := by decide +kernel
theorem dX8_jointAt_14 : decode cX8_jointAt 14 = .ok (.invokevirtual 43, 3) := by decide +kernel
theorem dX8_jointAt_17 : decode cX8_jointAt 17 = .ok (.lookupswitch 56 #[(6, 27), (8, 48)], 27) := by decide +kernel
theorem dX8_jointAt_44 : decode cX8_jointAt 44 = .ok (.aload_n 0, 1) := by decide +kernel
theorem dX8_jointAt_45 : decode cX8_jointAt 45 = .ok (.getfield 23, 3) := by decide +kernel
theorem dX8_jointAt_48 : decode cX8_jointAt 48 = .ok (.aload_n 1, 1) := by decide +kernel
theorem dX8_jointAt_49 : decode cX8_jointAt 49 = .ok (.aload_n 1, 1) := by decide +kernel
theorem dX8_jointAt_50 : decode cX8_jointAt 50 = .ok (.getfield 46, 3) := by decide +kernel
theorem dX8_jointAt_53 : decode cX8_jointAt 53 = .ok (.iconst 1, 1) := by decide +kernel
theorem dX8_jointAt_54 : decode cX8_jointAt 54 = .ok (.isub, 1) := by decide +kernel
theorem dX8_jointAt_55 : decode cX8_jointAt 55 = .ok (.invokevirtual 49, 3) := by decide +kernel
theorem dX8_jointAt_58 : decode cX8_jointAt 58 = .ok (.invokevirtual 53, 3) := by decide +kernel
theorem dX8_jointAt_61 : decode cX8_jointAt 61 = .ok (.istore_n 3, 1) := by decide +kernel
theorem dX8_jointAt_62 : decode cX8_jointAt 62 = .ok (.goto 40, 3) := by decide +kernel
theorem dX8_jointAt_65 : decode cX8_jointAt 65 = .ok (.aload_n 0, 1) := by decide +kernel
theorem dX8_jointAt_66 : decode cX8_jointAt 66 = .ok (.getfield 9, 3) := by decide +kernel
theorem dX8_jointAt_69 : decode cX8_jointAt 69 = .ok (.istore_n 3, 1) := by decide +kernel
theorem dX8_jointAt_70 : decode cX8_jointAt 70 = .ok (.goto 32, 3) := by decide +kernel
theorem dX8_jointAt_73 : decode cX8_jointAt 73 = .ok (.aload_n 0, 1) := by decide +kernel
theorem dX8_jointAt_74 : decode cX8_jointAt 74 = .ok (.getfield 23, 3) := by decide +kernel
theorem dX8_jointAt_77 : decode cX8_jointAt 77 = .ok (.iload_n 2, 1) := by decide +kernel
theorem dX8_jointAt_78 : decode cX8_jointAt 78 = .ok (.invokevirtual 56, 3) := by decide +kernel
theorem dX8_jointAt_81 : decode cX8_jointAt 81 = .ok (.ifCond .gt 5, 3) := by decide +kernel
theorem dX8_jointAt_84 : decode cX8_jointAt 84 = .ok (.iconst 0, 1) := by decide +kernel
theorem dX8_jointAt_85 : decode cX8_jointAt 85 = .ok (.ireturn, 1) := by decide +kernel
theorem dX8_jointAt_86 : decode cX8_jointAt 86 = .ok (.aload_n 0, 1) := by decide +kernel
theorem dX8_jointAt_87 : decode cX8_jointAt 87 = .ok (.getfield 23, 3) := by decide +kernel
theorem dX8_jointAt_90 : decode cX8_jointAt 90 = .ok (.aload_n 0, 1) := by decide +kernel
theorem dX8_jointAt_91 : decode cX8_jointAt 91 = .ok (.getfield 23, 3) := by decide +kernel
theorem dX8_jointAt_94 : decode cX8_jointAt 94 = .ok (.iload_n 2, 1) := by decide +kernel
theorem dX8_jointAt_95 : decode cX8_jointAt 95 = .ok (.invokevirtual 56, 3) := by decide +kernel
theorem dX8_jointAt_98 : decode cX8_jointAt 98 = .ok (.invokevirtual 59, 3) := by decide +kernel
theorem dX8_jointAt_101 : decode cX8_jointAt 101 = .ok (.istore_n 3, 1) := by decide +kernel
theorem dX8_jointAt_102 : decode cX8_jointAt 102 = .ok (.iconst 0, 1) := by decide +kernel
theorem dX8_jointAt_103 : decode cX8_jointAt 103 = .ok (.aload_n 0, 1) := by decide +kernel
theorem dX8_jointAt_104 : decode cX8_jointAt 104 = .ok (.getfield 19, 3) := by decide +kernel
theorem dX8_jointAt_107 : decode cX8_jointAt 107 = .ok (.aload_n 1, 1) := by decide +kernel
theorem dX8_jointAt_108 : decode cX8_jointAt 108 = .ok (.invokevirtual 33, 3) := by decide +kernel
theorem dX8_jointAt_111 : decode cX8_jointAt 111 = .ok (.iload_n 2, 1) := by decide +kernel
theorem dX8_jointAt_112 : decode cX8_jointAt 112 = .ok (.iload_n 3, 1) := by decide +kernel
theorem dX8_jointAt_113 : decode cX8_jointAt 113 = .ok (.invokevirtual 62, 3) := by decide +kernel
theorem dX8_jointAt_116 : decode cX8_jointAt 116 = .ok (.invokestatic 68, 3) := by decide +kernel
theorem dX8_jointAt_119 : decode cX8_jointAt 119 = .ok (.ireturn, 1) := by decide +kernel
theorem dX8_follow_0 : decode cX8_follow 0 = .ok (.iconst 0, 1) := by decide +kernel
theorem dX8_follow_1 : decode cX8_follow 1 = .ok (.istore_n 2, 1) := by decide +kernel
theorem dX8_follow_2 : decode cX8_follow 2 = .ok (.iconst 0, 1) := by decide +kernel
theorem dX8_follow_3 : decode cX8_follow 3 = .ok (.istore_n 3, 1) := by decide +kernel
theorem dX8_follow_4 : decode cX8_follow 4 = .ok (.iload_n 3, 1) := by decide +kernel
theorem dX8_follow_5 : decode cX8_follow 5 = .ok (.aload_n 0, 1) := by decide +kernel
theorem dX8_follow_6 : decode cX8_follow 6 = .ok (.getfield 15, 3) := by decide +kernel
theorem dX8_follow_9 : decode cX8_follow 9 = .ok (.getfield 74, 3) := by decide +kernel
theorem dX8_follow_12 : decode cX8_follow 12 = .ok (.if_icmp .ge 104, 3) := by decide +kernel
theorem dX8_follow_15 : decode cX8_follow 15 = .ok (.aload_n 0, 1) := by decide +kernel
theorem dX8_follow_16 : decode cX8_follow 16 = .ok (.aload_n 1, 1) := by decide +kernel
theorem dX8_follow_17 : decode cX8_follow 17 = .ok (.iload_n 3, 1) := by decide +kernel
theorem dX8_follow_18 : decode cX8_follow 18 = .ok (.invokevirtual 79, 3) := by decide +kernel
theorem dX8_follow_21 : decode cX8_follow 21 = .ok (.istore 4, 2) := by decide +kernel
theorem dX8_follow_23 : decode cX8_follow 23 = .ok (.iconst 0, 1) := by decide +kernel
theorem dX8_follow_24 : decode cX8_follow 24 = .ok (.istore 5, 2) := by decide +kernel
theorem dX8_follow_26 : decode cX8_follow 26 = .ok (.iload 5, 2) := by decide +kernel
theorem dX8_follow_28 : decode cX8_follow 28 = .ok (.aload_n 0, 1) := by decide +kernel
theorem dX8_follow_29 : decode cX8_follow 29 = .ok (.getfield 15, 3) := by decide +kernel
theorem dX8_follow_32 : decode cX8_follow 32 = .ok (.getfield 83, 3) := by decide +kernel
theorem dX8_follow_35 : decode cX8_follow 35 = .ok (.if_icmp .ge 75, 3) := by decide +kernel
theorem dX8_follow_38 : decode cX8_follow 38 = .ok (.iload 4, 2) := by decide +kernel
theorem dX8_follow_40 : decode cX8_follow 40 = .ok (.iconst 3, 1) := by decide +kernel
theorem dX8_follow_41 : decode cX8_follow 41 = .ok (.irem, 1) := by decide +kernel
theorem dX8_follow_42 : decode cX8_follow 42 = .ok (.istore 6, 2) := by decide +kernel
theorem dX8_follow_44 : decode cX8_follow 44 = .ok (.iload 4, 2) := by decide +kernel
theorem dX8_follow_46 : decode cX8_follow 46 = .ok (.iconst 3, 1) := by decide +kernel
theorem dX8_follow_47 : decode cX8_follow 47 = .ok (.idiv, 1) := by decide +kernel
theorem dX8_follow_48 : decode cX8_follow 48 = .ok (.istore 4, 2) := by decide +kernel
theorem dX8_follow_50 : decode cX8_follow 50 = .ok (.aload_n 1, 1) := by decide +kernel
theorem dX8_follow_51 : decode cX8_follow 51 = .ok (.invokevirtual 33, 3) := by decide +kernel
theorem dX8_follow_54 : decode cX8_follow 54 = .ok (.iload 5, 2) := by decide +kernel
theorem dX8_follow_56 : decode cX8_follow 56 = .ok (.ishr, 1) := by decide +kernel
theorem dX8_follow_57 : decode cX8_follow 57 = .ok (.iconst 1, 1) := by decide +kernel
theorem dX8_follow_58 : decode cX8_follow 58 = .ok (.iand, 1) := by decide +kernel
theorem dX8_follow_59 : decode cX8_follow 59 = .ok (.ifCond .eq 7, 3) := by decide +kernel
theorem dX8_follow_62 : decode cX8_follow 62 = .ok (.iconst 1, 1) := by decide +kernel
theorem dX8_follow_63 : decode cX8_follow 63 = .ok (.goto 4, 3) := by decide +kernel
theorem dX8_follow_66 : decode cX8_follow 66 = .ok (.iconst 0, 1) := by decide +kernel
theorem dX8_follow_67 : decode cX8_follow 67 = .ok (.istore 7, 2) := by decide +kernel
theorem dX8_follow_69 : decode cX8_follow 69 = .ok (.iload 7, 2) := by decide +kernel
theorem dX8_follow_71 : decode cX8_follow 71 = .ok (.ifCond .eq 33, 3) := by decide +kernel
theorem dX8_follow_74 : decode cX8_follow 74 = .ok (.aload_n 0, 1) := by decide +kernel
theorem dX8_follow_75 : decode cX8_follow 75 = .ok (.getfield 15, 3) := by decide +kernel
theorem dX8_follow_78 : decode cX8_follow 78 = .ok (.iload_n 3, 1) := by decide +kernel
theorem dX8_follow_79 : decode cX8_follow 79 = .ok (.iload 5, 2) := by decide +kernel
theorem dX8_follow_81 : decode cX8_follow 81 = .ok (.invokevirtual 86, 3) := by decide +kernel
theorem dX8_follow_84 : decode cX8_follow 84 = .ok (.iload 6, 2) := by decide +kernel
theorem dX8_follow_86 : decode cX8_follow 86 = .ok (.if_icmp .eq 18, 3) := by decide +kernel
theorem dX8_follow_89 : decode cX8_follow 89 = .ok (.aload_n 0, 1) := by decide +kernel
theorem dX8_follow_90 : decode cX8_follow 90 = .ok (.getfield 15, 3) := by decide +kernel
theorem dX8_follow_93 : decode cX8_follow 93 = .ok (.iload_n 3, 1) := by decide +kernel
theorem dX8_follow_94 : decode cX8_follow 94 = .ok (.iload 5, 2) := by decide +kernel
theorem dX8_follow_96 : decode cX8_follow 96 = .ok (.iload 6, 2) := by decide +kernel
theorem dX8_follow_98 : decode cX8_follow 98 = .ok (.invokevirtual 89, 3) := by decide +kernel
theorem dX8_follow_101 : decode cX8_follow 101 = .ok (.iinc 2 1, 3) := by decide +kernel
theorem dX8_follow_104 : decode cX8_follow 104 = .ok (.iinc 5 1, 3) := by decide +kernel
theorem dX8_follow_107 : decode cX8_follow 107 = .ok (.goto (-81), 3) := by decide +kernel
theorem dX8_follow_110 : decode cX8_follow 110 = .ok (.iinc 3 1, 3) := by decide +kernel
theorem dX8_follow_113 : decode cX8_follow 113 = .ok (.goto (-109), 3) := by decide +kernel
theorem dX8_follow_116 : decode cX8_follow 116 = .ok (.iload_n 2, 1) := by decide +kernel
theorem dX8_follow_117 : decode cX8_follow 117 = .ok (.ireturn, 1) := by decide +kernel
theorem dX8_run_0 : decode cX8_run 0 = .ok (.iload_n 2, 1) := by decide +kernel
theorem dX8_run_1 : decode cX8_run 1 = .ok (.istore 5, 2) := by decide +kernel
theorem dX8_run_3 : decode cX8_run 3 = .ok (.iload 4, 2) := by decide +kernel
theorem dX8_run_5 : decode cX8_run 5 = .ok (.invokestatic 93, 3) := by decide +kernel
theorem dX8_run_8 : decode cX8_run 8 = .ok (.istore 6, 2) := by decide +kernel
theorem dX8_run_10 : decode cX8_run 10 = .ok (.iconst 0, 1) := by decide +kernel
theorem dX8_run_11 : decode cX8_run 11 = .ok (.istore 7, 2) := by decide +kernel
theorem dX8_run_13 : decode cX8_run 13 = .ok (.iload 7, 2) := by decide +kernel
theorem dX8_run_15 : decode cX8_run 15 = .ok (.iload_n 3, 1) := by decide +kernel
theorem dX8_run_16 : decode cX8_run 16 = .ok (.if_icmp .ge 30, 3) := by decide +kernel
theorem dX8_run_19 : decode cX8_run 19 = .ok (.aload_n 0, 1) := by decide +kernel
theorem dX8_run_20 : decode cX8_run 20 = .ok (.getfield 19, 3) := by decide +kernel
theorem dX8_run_23 : decode cX8_run 23 = .ok (.iload_n 1, 1) := by decide +kernel
theorem dX8_run_24 : decode cX8_run 24 = .ok (.iload 5, 2) := by decide +kernel
theorem dX8_run_26 : decode cX8_run 26 = .ok (.iload 6, 2) := by decide +kernel
theorem dX8_run_28 : decode cX8_run 28 = .ok (.invokevirtual 96, 3) := by decide +kernel
theorem dX8_run_31 : decode cX8_run 31 = .ok (.istore 5, 2) := by decide +kernel
theorem dX8_run_33 : decode cX8_run 33 = .ok (.iload 6, 2) := by decide +kernel
theorem dX8_run_35 : decode cX8_run 35 = .ok (.invokestatic 93, 3) := by decide +kernel
theorem dX8_run_38 : decode cX8_run 38 = .ok (.istore 6, 2) := by decide +kernel
theorem dX8_run_40 : decode cX8_run 40 = .ok (.iinc 7 1, 3) := by decide +kernel
theorem dX8_run_43 : decode cX8_run 43 = .ok (.goto (-30), 3) := by decide +kernel
theorem dX8_run_46 : decode cX8_run 46 = .ok (.iload 5, 2) := by decide +kernel
theorem dX8_run_48 : decode cX8_run 48 = .ok (.ireturn, 1) := by decide +kernel
theorem dX8_fewest_0 : decode cX8_fewest 0 = .ok (.aload_n 0, 1) := by decide +kernel
theorem dX8_fewest_1 : decode cX8_fewest 1 = .ok (.getfield 23, 3) := by decide +kernel
theorem dX8_fewest_4 : decode cX8_fewest 4 = .ok (.aload_n 1, 1) := by decide +kernel
theorem dX8_fewest_5 : decode cX8_fewest 5 = .ok (.invokevirtual 27, 3) := by decide +kernel
theorem dX8_fewest_8 : decode cX8_fewest 8 = .ok (.iconst 0, 1) := by decide +kernel
theorem dX8_fewest_9 : decode cX8_fewest 9 = .ok (.istore_n 3, 1) := by decide +kernel
theorem dX8_fewest_10 : decode cX8_fewest 10 = .ok (.iload_n 3, 1) := by decide +kernel
theorem dX8_fewest_11 : decode cX8_fewest 11 = .ok (.aload_n 0, 1) := by decide +kernel
theorem dX8_fewest_12 : decode cX8_fewest 12 = .ok (.getfield 15, 3) := by decide +kernel
theorem dX8_fewest_15 : decode cX8_fewest 15 = .ok (.getfield 83, 3) := by decide +kernel
theorem dX8_fewest_18 : decode cX8_fewest 18 = .ok (.if_icmp .gt 60, 3) := by decide +kernel
theorem dX8_fewest_21 : decode cX8_fewest 21 = .ok (.iconst 0, 1) := by decide +kernel
theorem dX8_fewest_22 : decode cX8_fewest 22 = .ok (.istore 4, 2) := by decide +kernel
theorem dX8_fewest_24 : decode cX8_fewest 24 = .ok (.iload 4, 2) := by decide +kernel
theorem dX8_fewest_26 : decode cX8_fewest 26 = .ok (.aload_n 0, 1) := by decide +kernel
theorem dX8_fewest_27 : decode cX8_fewest 27 = .ok (.getfield 15, 3) := by decide +kernel
theorem dX8_fewest_30 : decode cX8_fewest 30 = .ok (.getfield 99, 3) := by decide +kernel
theorem dX8_fewest_33 : decode cX8_fewest 33 = .ok (.if_icmp .ge 39, 3) := by decide +kernel
theorem dX8_fewest_36 : decode cX8_fewest 36 = .ok (.iload 4, 2) := by decide +kernel
theorem dX8_fewest_38 : decode cX8_fewest 38 = .ok (.invokestatic 102, 3) := by decide +kernel
theorem dX8_fewest_41 : decode cX8_fewest 41 = .ok (.iload_n 3, 1) := by decide +kernel
theorem dX8_fewest_42 : decode cX8_fewest 42 = .ok (.if_icmp .ne 24, 3) := by decide +kernel
theorem dX8_fewest_45 : decode cX8_fewest 45 = .ok (.aload_n 0, 1) := by decide +kernel
theorem dX8_fewest_46 : decode cX8_fewest 46 = .ok (.getfield 23, 3) := by decide +kernel
theorem dX8_fewest_49 : decode cX8_fewest 49 = .ok (.aload_n 1, 1) := by decide +kernel
theorem dX8_fewest_50 : decode cX8_fewest 50 = .ok (.iload 4, 2) := by decide +kernel
theorem dX8_fewest_52 : decode cX8_fewest 52 = .ok (.iconst 0, 1) := by decide +kernel
theorem dX8_fewest_53 : decode cX8_fewest 53 = .ok (.invokevirtual 39, 3) := by decide +kernel
theorem dX8_fewest_56 : decode cX8_fewest 56 = .ok (.iload_n 2, 1) := by decide +kernel
theorem dX8_fewest_57 : decode cX8_fewest 57 = .ok (.ishr, 1) := by decide +kernel
theorem dX8_fewest_58 : decode cX8_fewest 58 = .ok (.iconst 1, 1) := by decide +kernel
theorem dX8_fewest_59 : decode cX8_fewest 59 = .ok (.iand, 1) := by decide +kernel
theorem dX8_fewest_60 : decode cX8_fewest 60 = .ok (.ifCond .eq 6, 3) := by decide +kernel
theorem dX8_fewest_63 : decode cX8_fewest 63 = .ok (.iload 4, 2) := by decide +kernel
theorem dX8_fewest_65 : decode cX8_fewest 65 = .ok (.ireturn, 1) := by decide +kernel
theorem dX8_fewest_66 : decode cX8_fewest 66 = .ok (.iinc 4 1, 3) := by decide +kernel
theorem dX8_fewest_69 : decode cX8_fewest 69 = .ok (.goto (-45), 3) := by decide +kernel
theorem dX8_fewest_72 : decode cX8_fewest 72 = .ok (.iinc 3 1, 3) := by decide +kernel
theorem dX8_fewest_75 : decode cX8_fewest 75 = .ok (.goto (-65), 3) := by decide +kernel
theorem dX8_fewest_78 : decode cX8_fewest 78 = .ok (.bipush (-9), 2) := by decide +kernel
theorem dX8_fewest_80 : decode cX8_fewest 80 = .ok (.ireturn, 1) := by decide +kernel
theorem dX8_nextSeed_0 : decode cX8_nextSeed 0 = .ok (.ldc 107, 2) := by decide +kernel
theorem dX8_nextSeed_2 : decode cX8_nextSeed 2 = .ok (.iload_n 0, 1) := by decide +kernel
theorem dX8_nextSeed_3 : decode cX8_nextSeed 3 = .ok (.imul, 1) := by decide +kernel
theorem dX8_nextSeed_4 : decode cX8_nextSeed 4 = .ok (.sipush 12345, 3) := by decide +kernel
theorem dX8_nextSeed_7 : decode cX8_nextSeed 7 = .ok (.iadd, 1) := by decide +kernel
theorem dX8_nextSeed_8 : decode cX8_nextSeed 8 = .ok (.ldc 108, 2) := by decide +kernel
theorem dX8_nextSeed_10 : decode cX8_nextSeed 10 = .ok (.iand, 1) := by decide +kernel
theorem dX8_nextSeed_11 : decode cX8_nextSeed 11 = .ok (.ireturn, 1) := by decide +kernel
theorem dX9_init_0 : decode cX9_init 0 = .ok (.aload_n 0, 1) := by decide +kernel
theorem dX9_init_1 : decode cX9_init 1 = .ok (.invokespecial 1, 3) := by decide +kernel
theorem dX9_init_4 : decode cX9_init 4 = .ok (.aload_n 0, 1) := by decide +kernel
theorem dX9_init_5 : decode cX9_init 5 = .ok (.bipush 8, 2) := by decide +kernel
theorem dX9_init_7 : decode cX9_init 7 = .ok (.anewarray 9, 3) := by decide +kernel
theorem dX9_init_10 : decode cX9_init 10 = .ok (.putfield 11, 3) := by decide +kernel
theorem dX9_init_13 : decode cX9_init 13 = .ok (.aload_n 0, 1) := by decide +kernel
theorem dX9_init_14 : decode cX9_init 14 = .ok (.iconst 0, 1) := by decide +kernel
theorem dX9_init_15 : decode cX9_init 15 = .ok (.putfield 15, 3) := by decide +kernel
theorem dX9_init_18 : decode cX9_init 18 = .ok (.iconst 1, 1) := by decide +kernel
theorem dX9_init_19 : decode cX9_init 19 = .ok (.iconst 4, 1) := by decide +kernel
theorem dX9_init_20 : decode cX9_init 20 = .ok (.iload_n 1, 1) := by decide +kernel
theorem dX9_init_21 : decode cX9_init 21 = .ok (.invokestatic 19, 3) := by decide +kernel
theorem dX9_init_24 : decode cX9_init 24 = .ok (.invokestatic 25, 3) := by decide +kernel
theorem dX9_init_27 : decode cX9_init 27 = .ok (.istore_n 2, 1) := by decide +kernel
theorem dX9_init_28 : decode cX9_init 28 = .ok (.aload_n 0, 1) := by decide +kernel
theorem dX9_init_29 : decode cX9_init 29 = .ok (.new 28, 3) := by decide +kernel
theorem dX9_init_32 : decode cX9_init 32 = .ok (.dup, 1) := by decide +kernel
theorem dX9_init_33 : decode cX9_init 33 = .ok (.iload_n 2, 1) := by decide +kernel
theorem dX9_init_34 : decode cX9_init 34 = .ok (.invokespecial 30, 3) := by decide +kernel
theorem dX9_init_37 : decode cX9_init 37 = .ok (.putfield 33, 3) := by decide +kernel
theorem dX9_init_40 : decode cX9_init 40 = .ok (.aload_n 0, 1) := by decide +kernel
theorem dX9_init_41 : decode cX9_init 41 = .ok (.new 37, 3) := by decide +kernel
theorem dX9_init_44 : decode cX9_init 44 = .ok (.dup, 1) := by decide +kernel
theorem dX9_init_45 : decode cX9_init 45 = .ok (.iload_n 2, 1) := by decide +kernel
theorem dX9_init_46 : decode cX9_init 46 = .ok (.invokespecial 39, 3) := by decide +kernel
theorem dX9_init_49 : decode cX9_init 49 = .ok (.putfield 40, 3) := by decide +kernel
theorem dX9_init_52 : decode cX9_init 52 = .ok (.aload_n 0, 1) := by decide +kernel
theorem dX9_init_53 : decode cX9_init 53 = .ok (.new 44, 3) := by decide +kernel
theorem dX9_init_56 : decode cX9_init 56 = .ok (.dup, 1) := by decide +kernel
theorem dX9_init_57 : decode cX9_init 57 = .ok (.aload_n 0, 1) := by decide +kernel
theorem dX9_init_58 : decode cX9_init 58 = .ok (.getfield 33, 3) := by decide +kernel
theorem dX9_init_61 : decode cX9_init 61 = .ok (.invokespecial 46, 3) := by decide +kernel
theorem dX9_init_64 : decode cX9_init 64 = .ok (.putfield 49, 3) := by decide +kernel
theorem dX9_init_67 : decode cX9_init 67 = .ok (.aload_n 0, 1) := by decide +kernel
theorem dX9_init_68 : decode cX9_init 68 = .ok (.new 53, 3) := by decide +kernel
theorem dX9_init_71 : decode cX9_init 71 = .ok (.dup, 1) := by decide +kernel
theorem dX9_init_72 : decode cX9_init 72 = .ok (.iload_n 2, 1) := by decide +kernel
theorem dX9_init_73 : decode cX9_init 73 = .ok (.invokespecial 55, 3) := by decide +kernel
theorem dX9_init_76 : decode cX9_init 76 = .ok (.putfield 56, 3) := by decide +kernel
theorem dX9_init_79 : decode cX9_init 79 = .ok (.aload_n 0, 1) := by decide +kernel
theorem dX9_init_80 : decode cX9_init 80 = .ok (.new 60, 3) := by decide +kernel
theorem dX9_init_83 : decode cX9_init 83 = .ok (.dup, 1) := by decide +kernel
theorem dX9_init_84 : decode cX9_init 84 = .ok (.aload_n 0, 1) := by decide +kernel
theorem dX9_init_85 : decode cX9_init 85 = .ok (.getfield 33, 3) := by decide +kernel
theorem dX9_init_88 : decode cX9_init 88 = .ok (.aload_n 0, 1) := by decide +kernel
theorem dX9_init_89 : decode cX9_init 89 = .ok (.getfield 49, 3) := by decide +kernel
theorem dX9_init_92 : decode cX9_init 92 = .ok (.invokespecial 62, 3) := by decide +kernel
theorem dX9_init_95 : decode cX9_init 95 = .ok (.putfield 65, 3) := by decide +kernel
theorem dX9_init_98 : decode cX9_init 98 = .ok (.aload_n 0, 1) := by decide +kernel
theorem dX9_init_99 : decode cX9_init 99 = .ok (.new 69, 3) := by decide +kernel
theorem dX9_init_102 : decode cX9_init 102 = .ok (.dup, 1) := by decide +kernel
theorem dX9_init_103 : decode cX9_init 103 = .ok (.aload_n 0, 1) := by decide +kernel
theorem dX9_init_104 : decode cX9_init 104 = .ok (.getfield 33, 3) := by decide +kernel
theorem dX9_init_107 : decode cX9_init 107 = .ok (.aload_n 0, 1) := by decide +kernel
theorem dX9_init_108 : decode cX9_init 108 = .ok (.getfield 49, 3) := by decide +kernel
theorem dX9_init_111 : decode cX9_init 111 = .ok (.aload_n 0, 1) := by decide +kernel
theorem dX9_init_112 : decode cX9_init 112 = .ok (.getfield 65, 3) := by decide +kernel
theorem dX9_init_115 : decode cX9_init 115 = .ok (.invokespecial 71, 3) := by decide +kernel
theorem dX9_init_118 : decode cX9_init 118 = .ok (.putfield 74, 3) := by decide +kernel
theorem dX9_init_121 : decode cX9_init 121 = .ok (.aload_n 0, 1) := by decide +kernel
theorem dX9_init_122 : decode cX9_init 122 = .ok (.new 78, 3) := by decide +kernel
theorem dX9_init_125 : decode cX9_init 125 = .ok (.dup, 1) := by decide +kernel
theorem dX9_init_126 : decode cX9_init 126 = .ok (.aload_n 0, 1) := by decide +kernel
theorem dX9_init_127 : decode cX9_init 127 = .ok (.getfield 33, 3) := by decide +kernel
theorem dX9_init_130 : decode cX9_init 130 = .ok (.aload_n 0, 1) := by decide +kernel
theorem dX9_init_131 : decode cX9_init 131 = .ok (.getfield 49, 3) := by decide +kernel
theorem dX9_init_134 : decode cX9_init 134 = .ok (.invokespecial 80, 3) := by decide +kernel
theorem dX9_init_137 : decode cX9_init 137 = .ok (.putfield 81, 3) := by decide +kernel
theorem dX9_init_140 : decode cX9_init 140 = .ok (.iconst 0, 1) := by decide +kernel
theorem dX9_init_141 : decode cX9_init 141 = .ok (.istore_n 3, 1) := by decide +kernel
theorem dX9_init_142 : decode cX9_init 142 = .ok (.iload_n 3, 1) := by decide +kernel
theorem dX9_init_143 : decode cX9_init 143 = .ok (.aload_n 0, 1) := by decide +kernel
theorem dX9_init_144 : decode cX9_init 144 = .ok (.getfield 11, 3) := by decide +kernel
theorem dX9_init_147 : decode cX9_init 147 = .ok (.arraylength, 1) := by decide +kernel
theorem dX9_init_148 : decode cX9_init 148 = .ok (.if_icmp .ge 22, 3) := by decide +kernel
theorem dX9_init_151 : decode cX9_init 151 = .ok (.aload_n 0, 1) := by decide +kernel
theorem dX9_init_152 : decode cX9_init 152 = .ok (.getfield 11, 3) := by decide +kernel
theorem dX9_init_155 : decode cX9_init 155 = .ok (.iload_n 3, 1) := by decide +kernel
theorem dX9_init_156 : decode cX9_init 156 = .ok (.new 9, 3) := by decide +kernel
theorem dX9_init_159 : decode cX9_init 159 = .ok (.dup, 1) := by decide +kernel
theorem dX9_init_160 : decode cX9_init 160 = .ok (.invokespecial 85, 3) := by decide +kernel
theorem dX9_init_163 : decode cX9_init 163 = .ok (.aastore, 1) := by decide +kernel
theorem dX9_init_164 : decode cX9_init 164 = .ok (.iinc 3 1, 3) := by decide +kernel
theorem dX9_init_167 : decode cX9_init 167 = .ok (.goto (-25), 3) := by decide +kernel
theorem dX9_init_170 : decode cX9_init 170 = .ok (.return_, 1) := by decide +kernel
theorem dX9_agents_0 : decode cX9_agents 0 = .ok (.aload_n 0, 1) := by decide +kernel
theorem dX9_agents_1 : decode cX9_agents 1 = .ok (.getfield 33, 3) := by decide +kernel
theorem dX9_agents_4 : decode cX9_agents 4 = .ok (.getfield 86, 3) := by decide +kernel
theorem dX9_agents_7 : decode cX9_agents 7 = .ok (.ireturn, 1) := by decide +kernel
theorem dX9_addState_0 : decode cX9_addState 0 = .ok (.aload_n 0, 1) := by decide +kernel
theorem dX9_addState_1 : decode cX9_addState 1 = .ok (.getfield 33, 3) := by decide +kernel
theorem dX9_addState_4 : decode cX9_addState 4 = .ok (.getfield 89, 3) := by decide +kernel
theorem dX9_addState_7 : decode cX9_addState 7 = .ok (.bipush 12, 2) := by decide +kernel
theorem dX9_addState_9 : decode cX9_addState 9 = .ok (.if_icmp .lt 6, 3) := by decide +kernel
theorem dX9_addState_12 : decode cX9_addState 12 = .ok (.bipush (-2), 2) := by decide +kernel
theorem dX9_addState_14 : decode cX9_addState 14 = .ok (.ireturn, 1) := by decide +kernel
theorem dX9_addState_15 : decode cX9_addState 15 = .ok (.aload_n 0, 1) := by decide +kernel
theorem dX9_addState_16 : decode cX9_addState 16 = .ok (.getfield 40, 3) := by decide +kernel
theorem dX9_addState_19 : decode cX9_addState 19 = .ok (.aload_n 0, 1) := by decide +kernel
theorem dX9_addState_20 : decode cX9_addState 20 = .ok (.getfield 33, 3) := by decide +kernel
theorem dX9_addState_23 : decode cX9_addState 23 = .ok (.invokevirtual 92, 3) := by decide +kernel
theorem dX9_addState_26 : decode cX9_addState 26 = .ok (.aload_n 0, 1) := by decide +kernel
theorem dX9_addState_27 : decode cX9_addState 27 = .ok (.getfield 33, 3) := by decide +kernel
theorem dX9_addState_30 : decode cX9_addState 30 = .ok (.invokevirtual 95, 3) := by decide +kernel
theorem dX9_addState_33 : decode cX9_addState 33 = .ok (.ireturn, 1) := by decide +kernel
theorem dX9_states_0 : decode cX9_states 0 = .ok (.aload_n 0, 1) := by decide +kernel
theorem dX9_states_1 : decode cX9_states 1 = .ok (.getfield 33, 3) := by decide +kernel
theorem dX9_states_4 : decode cX9_states 4 = .ok (.getfield 89, 3) := by decide +kernel
theorem dX9_states_7 : decode cX9_states 7 = .ok (.ireturn, 1) := by decide +kernel
theorem dX9_setActions_0 : decode cX9_setActions 0 = .ok (.aload_n 0, 1) := by decide +kernel
theorem dX9_setActions_1 : decode cX9_setActions 1 = .ok (.getfield 33, 3) := by decide +kernel
theorem dX9_setActions_4 : decode cX9_setActions 4 = .ok (.iload_n 1, 1) := by decide +kernel
theorem dX9_setActions_5 : decode cX9_setActions 5 = .ok (.iload_n 2, 1) := by decide +kernel
theorem dX9_setActions_6 : decode cX9_setActions 6 = .ok (.invokevirtual 99, 3) := by decide +kernel
theorem dX9_setActions_9 : decode cX9_setActions 9 = .ok (.ifCond .eq 13, 3) := by decide +kernel
theorem dX9_setActions_12 : decode cX9_setActions 12 = .ok (.iload_n 3, 1) := by decide +kernel
theorem dX9_setActions_13 : decode cX9_setActions 13 = .ok (.iconst 1, 1) := by decide +kernel
theorem dX9_setActions_14 : decode cX9_setActions 14 = .ok (.if_icmp .lt 8, 3) := by decide +kernel
theorem dX9_setActions_17 : decode cX9_setActions 17 = .ok (.iload_n 3, 1) := by decide +kernel
theorem dX9_setActions_18 : decode cX9_setActions 18 = .ok (.iconst 3, 1) := by decide +kernel
theorem dX9_setActions_19 : decode cX9_setActions 19 = .ok (.if_icmp .le 5, 3) := by decide +kernel
theorem dX9_setActions_22 : decode cX9_setActions 22 = .ok (.iconst (-1), 1) := by decide +kernel
theorem dX9_setActions_23 : decode cX9_setActions 23 = .ok (.ireturn, 1) := by decide +kernel
theorem dX9_setActions_24 : decode cX9_setActions 24 = .ok (.aload_n 0, 1) := by decide +kernel
theorem dX9_setActions_25 : decode cX9_setActions 25 = .ok (.getfield 40, 3) := by decide +kernel
theorem dX9_setActions_28 : decode cX9_setActions 28 = .ok (.aload_n 0, 1) := by decide +kernel
theorem dX9_setActions_29 : decode cX9_setActions 29 = .ok (.getfield 33, 3) := by decide +kernel
theorem dX9_setActions_32 : decode cX9_setActions 32 = .ok (.invokevirtual 92, 3) := by decide +kernel
theorem dX9_setActions_35 : decode cX9_setActions 35 = .ok (.aload_n 0, 1) := by decide +kernel
theorem dX9_setActions_36 : decode cX9_setActions 36 = .ok (.getfield 33, 3) := by decide +kernel
theorem dX9_setActions_39 : decode cX9_setActions 39 = .ok (.iload_n 1, 1) := by decide +kernel
theorem dX9_setActions_40 : decode cX9_setActions 40 = .ok (.iload_n 2, 1) := by decide +kernel
theorem dX9_setActions_41 : decode cX9_setActions 41 = .ok (.invokevirtual 103, 3) := by decide +kernel
theorem dX9_setActions_44 : decode cX9_setActions 44 = .ok (.istore 4, 2) := by decide +kernel
theorem dX9_setActions_46 : decode cX9_setActions 46 = .ok (.aload_n 0, 1) := by decide +kernel
theorem dX9_setActions_47 : decode cX9_setActions 47 = .ok (.getfield 33, 3) := by decide +kernel
theorem dX9_setActions_50 : decode cX9_setActions 50 = .ok (.iload_n 1, 1) := by decide +kernel
theorem dX9_setActions_51 : decode cX9_setActions 51 = .ok (.iload_n 2, 1) := by decide +kernel
theorem dX9_setActions_52 : decode cX9_setActions 52 = .ok (.iload_n 3, 1) := by decide +kernel
theorem dX9_setActions_53 : decode cX9_setActions 53 = .ok (.invokevirtual 106, 3) := by decide +kernel
theorem dX9_setActions_56 : decode cX9_setActions 56 = .ok (.iload 4, 2) := by decide +kernel
theorem dX9_setActions_58 : decode cX9_setActions 58 = .ok (.ireturn, 1) := by decide +kernel
theorem dX9_actions_0 : decode cX9_actions 0 = .ok (.aload_n 0, 1) := by decide +kernel
theorem dX9_actions_1 : decode cX9_actions 1 = .ok (.getfield 33, 3) := by decide +kernel
theorem dX9_actions_4 : decode cX9_actions 4 = .ok (.iload_n 1, 1) := by decide +kernel
theorem dX9_actions_5 : decode cX9_actions 5 = .ok (.iload_n 2, 1) := by decide +kernel
theorem dX9_actions_6 : decode cX9_actions 6 = .ok (.invokevirtual 99, 3) := by decide +kernel
theorem dX9_actions_9 : decode cX9_actions 9 = .ok (.ifCond .eq 15, 3) := by decide +kernel
theorem dX9_actions_12 : decode cX9_actions 12 = .ok (.aload_n 0, 1) := by decide +kernel
theorem dX9_actions_13 : decode cX9_actions 13 = .ok (.getfield 33, 3) := by decide +kernel
theorem dX9_actions_16 : decode cX9_actions 16 = .ok (.iload_n 1, 1) := by decide +kernel
theorem dX9_actions_17 : decode cX9_actions 17 = .ok (.iload_n 2, 1) := by decide +kernel
theorem dX9_actions_18 : decode cX9_actions 18 = .ok (.invokevirtual 103, 3) := by decide +kernel
theorem dX9_actions_21 : decode cX9_actions 21 = .ok (.goto 4, 3) := by decide +kernel
theorem dX9_actions_24 : decode cX9_actions 24 = .ok (.iconst (-1), 1) := by decide +kernel
theorem dX9_actions_25 : decode cX9_actions 25 = .ok (.ireturn, 1) := by decide +kernel
theorem dX9_label_0 : decode cX9_label 0 = .ok (.aload_n 0, 1) := by decide +kernel
theorem dX9_label_1 : decode cX9_label 1 = .ok (.getfield 33, 3) := by decide +kernel
theorem dX9_label_4 : decode cX9_label 4 = .ok (.iload_n 1, 1) := by decide +kernel
theorem dX9_label_5 : decode cX9_label 5 = .ok (.invokevirtual 110, 3) := by decide +kernel
theorem dX9_label_8 : decode cX9_label 8 = .ok (.ifCond .eq 15, 3) := by decide +kernel
theorem dX9_label_11 : decode cX9_label 11 = .ok (.iload_n 2, 1) := by decide +kernel
theorem dX9_label_12 : decode cX9_label 12 = .ok (.bipush 97, 2) := by decide +kernel
theorem dX9_label_14 : decode cX9_label 14 = .ok (.if_icmp .lt 9, 3) := by decide +kernel
theorem dX9_label_17 : decode cX9_label 17 = .ok (.iload_n 2, 1) := by decide +kernel
theorem dX9_label_18 : decode cX9_label 18 = .ok (.bipush 122, 2) := by decide +kernel
theorem dX9_label_20 : decode cX9_label 20 = .ok (.if_icmp .le 5, 3) := by decide +kernel
theorem dX9_label_23 : decode cX9_label 23 = .ok (.iconst (-1), 1) := by decide +kernel
theorem dX9_label_24 : decode cX9_label 24 = .ok (.ireturn, 1) := by decide +kernel
theorem dX9_label_25 : decode cX9_label 25 = .ok (.aload_n 0, 1) := by decide +kernel
theorem dX9_label_26 : decode cX9_label 26 = .ok (.getfield 40, 3) := by decide +kernel
theorem dX9_label_29 : decode cX9_label 29 = .ok (.aload_n 0, 1) := by decide +kernel
theorem dX9_label_30 : decode cX9_label 30 = .ok (.getfield 33, 3) := by decide +kernel
theorem dX9_label_33 : decode cX9_label 33 = .ok (.invokevirtual 92, 3) := by decide +kernel
theorem dX9_label_36 : decode cX9_label 36 = .ok (.iconst 1, 1) := by decide +kernel
theorem dX9_label_37 : decode cX9_label 37 = .ok (.iload_n 2, 1) := by decide +kernel
theorem dX9_label_38 : decode cX9_label 38 = .ok (.bipush 97, 2) := by decide +kernel
theorem dX9_label_40 : decode cX9_label 40 = .ok (.isub, 1) := by decide +kernel
theorem dX9_label_41 : decode cX9_label 41 = .ok (.ishl, 1) := by decide +kernel
theorem dX9_label_42 : decode cX9_label 42 = .ok (.istore 4, 2) := by decide +kernel
theorem dX9_label_44 : decode cX9_label 44 = .ok (.aload_n 0, 1) := by decide +kernel
theorem dX9_label_45 : decode cX9_label 45 = .ok (.getfield 33, 3) := by decide +kernel
theorem dX9_label_48 : decode cX9_label 48 = .ok (.iload_n 1, 1) := by decide +kernel
theorem dX9_label_49 : decode cX9_label 49 = .ok (.invokevirtual 114, 3) := by decide +kernel
theorem dX9_label_52 : decode cX9_label 52 = .ok (.istore 5, 2) := by decide +kernel
theorem dX9_label_54 : decode cX9_label 54 = .ok (.aload_n 0, 1) := by decide +kernel
theorem dX9_label_55 : decode cX9_label 55 = .ok (.getfield 33, 3) := by decide +kernel
theorem dX9_label_58 : decode cX9_label 58 = .ok (.iload_n 1, 1) := by decide +kernel
theorem dX9_label_59 : decode cX9_label 59 = .ok (.iload_n 3, 1) := by decide +kernel
theorem dX9_label_60 : decode cX9_label 60 = .ok (.ifCond .eq 11, 3) := by decide +kernel
theorem dX9_label_63 : decode cX9_label 63 = .ok (.iload 5, 2) := by decide +kernel
theorem dX9_label_65 : decode cX9_label 65 = .ok (.iload 4, 2) := by decide +kernel
theorem dX9_label_67 : decode cX9_label 67 = .ok (.ior, 1) := by decide +kernel
theorem dX9_label_68 : decode cX9_label 68 = .ok (.goto 10, 3) := by decide +kernel
theorem dX9_label_71 : decode cX9_label 71 = .ok (.iload 5, 2) := by decide +kernel
theorem dX9_label_73 : decode cX9_label 73 = .ok (.iload 4, 2) := by decide +kernel
theorem dX9_label_75 : decode cX9_label 75 = .ok (.iconst (-1), 1) := by decide +kernel
theorem dX9_label_76 : decode cX9_label 76 = .ok (.ixor, 1) := by decide +kernel
theorem dX9_label_77 : decode cX9_label 77 = .ok (.iand, 1) := by decide +kernel
theorem dX9_label_78 : decode cX9_label 78 = .ok (.invokevirtual 118, 3) := by decide +kernel
theorem dX9_label_81 : decode cX9_label 81 = .ok (.iload 5, 2) := by decide +kernel
theorem dX9_label_83 : decode cX9_label 83 = .ok (.iload 4, 2) := by decide +kernel
theorem dX9_label_85 : decode cX9_label 85 = .ok (.iand, 1) := by decide +kernel
theorem dX9_label_86 : decode cX9_label 86 = .ok (.ifCond .eq 7, 3) := by decide +kernel
theorem dX9_label_89 : decode cX9_label 89 = .ok (.iconst 1, 1) := by decide +kernel
theorem dX9_label_90 : decode cX9_label 90 = .ok (.goto 4, 3) := by decide +kernel
theorem dX9_label_93 : decode cX9_label 93 = .ok (.iconst 0, 1) := by decide +kernel
theorem dX9_label_94 : decode cX9_label 94 = .ok (.ireturn, 1) := by decide +kernel
theorem dX9_labels_0 : decode cX9_labels 0 = .ok (.aload_n 0, 1) := by decide +kernel
theorem dX9_labels_1 : decode cX9_labels 1 = .ok (.getfield 33, 3) := by decide +kernel
theorem dX9_labels_4 : decode cX9_labels 4 = .ok (.iload_n 1, 1) := by decide +kernel
theorem dX9_labels_5 : decode cX9_labels 5 = .ok (.invokevirtual 110, 3) := by decide +kernel
theorem dX9_labels_8 : decode cX9_labels 8 = .ok (.ifCond .eq 14, 3) := by decide +kernel
theorem dX9_labels_11 : decode cX9_labels 11 = .ok (.aload_n 0, 1) := by decide +kernel
theorem dX9_labels_12 : decode cX9_labels 12 = .ok (.getfield 33, 3) := by decide +kernel
theorem dX9_labels_15 : decode cX9_labels 15 = .ok (.iload_n 1, 1) := by decide +kernel
theorem dX9_labels_16 : decode cX9_labels 16 = .ok (.invokevirtual 114, 3) := by decide +kernel
theorem dX9_labels_19 : decode cX9_labels 19 = .ok (.goto 4, 3) := by decide +kernel
theorem dX9_labels_22 : decode cX9_labels 22 = .ok (.iconst (-1), 1) := by decide +kernel
theorem dX9_labels_23 : decode cX9_labels 23 = .ok (.ireturn, 1) := by decide +kernel
theorem dX9_setMove_0 : decode cX9_setMove 0 = .ok (.aload_n 0, 1) := by decide +kernel
theorem dX9_setMove_1 : decode cX9_setMove 1 = .ok (.getfield 33, 3) := by decide +kernel
theorem dX9_setMove_4 : decode cX9_setMove 4 = .ok (.iload_n 1, 1) := by decide +kernel
theorem dX9_setMove_5 : decode cX9_setMove 5 = .ok (.iload_n 2, 1) := by decide +kernel
theorem dX9_setMove_6 : decode cX9_setMove 6 = .ok (.invokevirtual 122, 3) := by decide +kernel
theorem dX9_setMove_9 : decode cX9_setMove 9 = .ok (.istore 4, 2) := by decide +kernel
theorem dX9_setMove_11 : decode cX9_setMove 11 = .ok (.iload 4, 2) := by decide +kernel
theorem dX9_setMove_13 : decode cX9_setMove 13 = .ok (.ifCond .lt 14, 3) := by decide +kernel
theorem dX9_setMove_16 : decode cX9_setMove 16 = .ok (.aload_n 0, 1) := by decide +kernel
theorem dX9_setMove_17 : decode cX9_setMove 17 = .ok (.getfield 33, 3) := by decide +kernel
theorem dX9_setMove_20 : decode cX9_setMove 20 = .ok (.iload_n 3, 1) := by decide +kernel
theorem dX9_setMove_21 : decode cX9_setMove 21 = .ok (.invokevirtual 110, 3) := by decide +kernel
theorem dX9_setMove_24 : decode cX9_setMove 24 = .ok (.ifCond .ne 5, 3) := by decide +kernel
theorem dX9_setMove_27 : decode cX9_setMove 27 = .ok (.iconst (-1), 1) := by decide +kernel
theorem dX9_setMove_28 : decode cX9_setMove 28 = .ok (.ireturn, 1) := by decide +kernel
theorem dX9_setMove_29 : decode cX9_setMove 29 = .ok (.aload_n 0, 1) := by decide +kernel
theorem dX9_setMove_30 : decode cX9_setMove 30 = .ok (.getfield 40, 3) := by decide +kernel
theorem dX9_setMove_33 : decode cX9_setMove 33 = .ok (.aload_n 0, 1) := by decide +kernel
theorem dX9_setMove_34 : decode cX9_setMove 34 = .ok (.getfield 33, 3) := by decide +kernel
theorem dX9_setMove_37 : decode cX9_setMove 37 = .ok (.invokevirtual 92, 3) := by decide +kernel
theorem dX9_setMove_40 : decode cX9_setMove 40 = .ok (.aload_n 0, 1) := by decide +kernel
theorem dX9_setMove_41 : decode cX9_setMove 41 = .ok (.getfield 33, 3) := by decide +kernel
theorem dX9_setMove_44 : decode cX9_setMove 44 = .ok (.iload_n 1, 1) := by decide +kernel
theorem dX9_setMove_45 : decode cX9_setMove 45 = .ok (.iload_n 2, 1) := by decide +kernel
theorem dX9_setMove_46 : decode cX9_setMove 46 = .ok (.iload_n 3, 1) := by decide +kernel
theorem dX9_setMove_47 : decode cX9_setMove 47 = .ok (.invokevirtual 125, 3) := by decide +kernel
theorem dX9_setMove_50 : decode cX9_setMove 50 = .ok (.iload 4, 2) := by decide +kernel
theorem dX9_setMove_52 : decode cX9_setMove 52 = .ok (.ireturn, 1) := by decide +kernel
theorem dX9_setAll_0 : decode cX9_setAll 0 = .ok (.aload_n 0, 1) := by decide +kernel
theorem dX9_setAll_1 : decode cX9_setAll 1 = .ok (.getfield 33, 3) := by decide +kernel
theorem dX9_setAll_4 : decode cX9_setAll 4 = .ok (.iload_n 1, 1) := by decide +kernel
theorem dX9_setAll_5 : decode cX9_setAll 5 = .ok (.iload_n 2, 1) := by decide +kernel
theorem dX9_setAll_6 : decode cX9_setAll 6 = .ok (.invokevirtual 99, 3) := by decide +kernel
theorem dX9_setAll_9 : decode cX9_setAll 9 = .ok (.ifCond .eq 15, 3) := by decide +kernel
theorem dX9_setAll_12 : decode cX9_setAll 12 = .ok (.aload_n 0, 1) := by decide +kernel
theorem dX9_setAll_13 : decode cX9_setAll 13 = .ok (.getfield 33, 3) := by decide +kernel
theorem dX9_setAll_16 : decode cX9_setAll 16 = .ok (.iload 4, 2) := by decide +kernel
theorem dX9_setAll_18 : decode cX9_setAll 18 = .ok (.invokevirtual 110, 3) := by decide +kernel
theorem dX9_setAll_21 : decode cX9_setAll 21 = .ok (.ifCond .ne 5, 3) := by decide +kernel
theorem dX9_setAll_24 : decode cX9_setAll 24 = .ok (.iconst (-1), 1) := by decide +kernel
theorem dX9_setAll_25 : decode cX9_setAll 25 = .ok (.ireturn, 1) := by decide +kernel
theorem dX9_setAll_26 : decode cX9_setAll 26 = .ok (.iload_n 3, 1) := by decide +kernel
theorem dX9_setAll_27 : decode cX9_setAll 27 = .ok (.ifCond .lt 16, 3) := by decide +kernel
theorem dX9_setAll_30 : decode cX9_setAll 30 = .ok (.iload_n 3, 1) := by decide +kernel
theorem dX9_setAll_31 : decode cX9_setAll 31 = .ok (.aload_n 0, 1) := by decide +kernel
theorem dX9_setAll_32 : decode cX9_setAll 32 = .ok (.getfield 33, 3) := by decide +kernel
theorem dX9_setAll_35 : decode cX9_setAll 35 = .ok (.iload_n 1, 1) := by decide +kernel
theorem dX9_setAll_36 : decode cX9_setAll 36 = .ok (.iload_n 2, 1) := by decide +kernel
theorem dX9_setAll_37 : decode cX9_setAll 37 = .ok (.invokevirtual 103, 3) := by decide +kernel
theorem dX9_setAll_40 : decode cX9_setAll 40 = .ok (.if_icmp .lt 5, 3) := by decide +kernel
theorem dX9_setAll_43 : decode cX9_setAll 43 = .ok (.iconst (-1), 1) := by decide +kernel
theorem dX9_setAll_44 : decode cX9_setAll 44 = .ok (.ireturn, 1) := by decide +kernel
theorem dX9_setAll_45 : decode cX9_setAll 45 = .ok (.aload_n 0, 1) := by decide +kernel
theorem dX9_setAll_46 : decode cX9_setAll 46 = .ok (.getfield 40, 3) := by decide +kernel
theorem dX9_setAll_49 : decode cX9_setAll 49 = .ok (.aload_n 0, 1) := by decide +kernel
theorem dX9_setAll_50 : decode cX9_setAll 50 = .ok (.getfield 33, 3) := by decide +kernel
theorem dX9_setAll_53 : decode cX9_setAll 53 = .ok (.invokevirtual 92, 3) := by decide +kernel
theorem dX9_setAll_56 : decode cX9_setAll 56 = .ok (.aload_n 0, 1) := by decide +kernel
theorem dX9_setAll_57 : decode cX9_setAll 57 = .ok (.getfield 33, 3) := by decide +kernel
theorem dX9_setAll_60 : decode cX9_setAll 60 = .ok (.iload_n 1, 1) := by decide +kernel
theorem dX9_setAll_61 : decode cX9_setAll 61 = .ok (.iload_n 2, 1) := by decide +kernel
theorem dX9_setAll_62 : decode cX9_setAll 62 = .ok (.iload_n 3, 1) := by decide +kernel
theorem dX9_setAll_63 : decode cX9_setAll 63 = .ok (.iload 4, 2) := by decide +kernel
theorem dX9_setAll_65 : decode cX9_setAll 65 = .ok (.invokevirtual 128, 3) := by decide +kernel
theorem dX9_setAll_68 : decode cX9_setAll 68 = .ok (.ireturn, 1) := by decide +kernel
theorem dX9_next_0 : decode cX9_next 0 = .ok (.aload_n 0, 1) := by decide +kernel
theorem dX9_next_1 : decode cX9_next 1 = .ok (.getfield 33, 3) := by decide +kernel
theorem dX9_next_4 : decode cX9_next 4 = .ok (.iload_n 1, 1) := by decide +kernel
theorem dX9_next_5 : decode cX9_next 5 = .ok (.iload_n 2, 1) := by decide +kernel
theorem dX9_next_6 : decode cX9_next 6 = .ok (.invokevirtual 122, 3) := by decide +kernel
theorem dX9_next_9 : decode cX9_next 9 = .ok (.istore_n 3, 1) := by decide +kernel
theorem dX9_next_10 : decode cX9_next 10 = .ok (.iload_n 3, 1) := by decide +kernel
theorem dX9_next_11 : decode cX9_next 11 = .ok (.ifCond .ge 7, 3) := by decide +kernel
theorem dX9_next_14 : decode cX9_next 14 = .ok (.iconst (-1), 1) := by decide +kernel
theorem dX9_next_15 : decode cX9_next 15 = .ok (.goto 4, 3) := by decide +kernel
theorem dX9_next_18 : decode cX9_next 18 = .ok (.iload_n 3, 1) := by decide +kernel
theorem dX9_next_19 : decode cX9_next 19 = .ok (.ireturn, 1) := by decide +kernel
theorem dX9_moves_0 : decode cX9_moves 0 = .ok (.aload_n 0, 1) := by decide +kernel
theorem dX9_moves_1 : decode cX9_moves 1 = .ok (.getfield 33, 3) := by decide +kernel
theorem dX9_moves_4 : decode cX9_moves 4 = .ok (.iload_n 1, 1) := by decide +kernel
theorem dX9_moves_5 : decode cX9_moves 5 = .ok (.invokevirtual 110, 3) := by decide +kernel
theorem dX9_moves_8 : decode cX9_moves 8 = .ok (.ifCond .eq 14, 3) := by decide +kernel
theorem dX9_moves_11 : decode cX9_moves 11 = .ok (.aload_n 0, 1) := by decide +kernel
theorem dX9_moves_12 : decode cX9_moves 12 = .ok (.getfield 33, 3) := by decide +kernel
theorem dX9_moves_15 : decode cX9_moves 15 = .ok (.iload_n 1, 1) := by decide +kernel
theorem dX9_moves_16 : decode cX9_moves 16 = .ok (.invokevirtual 132, 3) := by decide +kernel
theorem dX9_moves_19 : decode cX9_moves 19 = .ok (.goto 4, 3) := by decide +kernel
theorem dX9_moves_22 : decode cX9_moves 22 = .ok (.iconst (-1), 1) := by decide +kernel
theorem dX9_moves_23 : decode cX9_moves 23 = .ok (.ireturn, 1) := by decide +kernel
theorem dX9_force_0 : decode cX9_force 0 = .ok (.aload_n 0, 1) := by decide +kernel
theorem dX9_force_1 : decode cX9_force 1 = .ok (.iload_n 1, 1) := by decide +kernel
theorem dX9_force_2 : decode cX9_force 2 = .ok (.iload_n 2, 1) := by decide +kernel
theorem dX9_force_3 : decode cX9_force 3 = .ok (.invokevirtual 135, 3) := by decide +kernel
theorem dX9_force_6 : decode cX9_force 6 = .ok (.ifCond .eq 14, 3) := by decide +kernel
theorem dX9_force_9 : decode cX9_force 9 = .ok (.aload_n 0, 1) := by decide +kernel
theorem dX9_force_10 : decode cX9_force 10 = .ok (.getfield 33, 3) := by decide +kernel
theorem dX9_force_13 : decode cX9_force 13 = .ok (.iload_n 3, 1) := by decide +kernel
theorem dX9_force_14 : decode cX9_force 14 = .ok (.invokevirtual 138, 3) := by decide +kernel
theorem dX9_force_17 : decode cX9_force 17 = .ok (.ifCond .ne 5, 3) := by decide +kernel
theorem dX9_force_20 : decode cX9_force 20 = .ok (.iconst (-1), 1) := by decide +kernel
theorem dX9_force_21 : decode cX9_force 21 = .ok (.ireturn, 1) := by decide +kernel
theorem dX9_force_22 : decode cX9_force 22 = .ok (.aload_n 0, 1) := by decide +kernel
theorem dX9_force_23 : decode cX9_force 23 = .ok (.getfield 49, 3) := by decide +kernel
theorem dX9_force_26 : decode cX9_force 26 = .ok (.iload_n 1, 1) := by decide +kernel
theorem dX9_force_27 : decode cX9_force 27 = .ok (.iload_n 2, 1) := by decide +kernel
theorem dX9_force_28 : decode cX9_force 28 = .ok (.iload_n 3, 1) := by decide +kernel
theorem dX9_force_29 : decode cX9_force 29 = .ok (.invokevirtual 141, 3) := by decide +kernel
theorem dX9_force_32 : decode cX9_force 32 = .ok (.ireturn, 1) := by decide +kernel
theorem dX9_reply_0 : decode cX9_reply 0 = .ok (.aload_n 0, 1) := by decide +kernel
theorem dX9_reply_1 : decode cX9_reply 1 = .ok (.iload_n 1, 1) := by decide +kernel
theorem dX9_reply_2 : decode cX9_reply 2 = .ok (.iload_n 2, 1) := by decide +kernel
theorem dX9_reply_3 : decode cX9_reply 3 = .ok (.invokevirtual 135, 3) := by decide +kernel
theorem dX9_reply_6 : decode cX9_reply 6 = .ok (.ifCond .eq 15, 3) := by decide +kernel
theorem dX9_reply_9 : decode cX9_reply 9 = .ok (.aload_n 0, 1) := by decide +kernel
theorem dX9_reply_10 : decode cX9_reply 10 = .ok (.getfield 33, 3) := by decide +kernel
theorem dX9_reply_13 : decode cX9_reply 13 = .ok (.iload 4, 2) := by decide +kernel
theorem dX9_reply_15 : decode cX9_reply 15 = .ok (.invokevirtual 138, 3) := by decide +kernel
theorem dX9_reply_18 : decode cX9_reply 18 = .ok (.ifCond .ne 5, 3) := by decide +kernel
theorem dX9_reply_21 : decode cX9_reply 21 = .ok (.iconst (-1), 1) := by decide +kernel
theorem dX9_reply_22 : decode cX9_reply 22 = .ok (.ireturn, 1) := by decide +kernel
theorem dX9_reply_23 : decode cX9_reply 23 = .ok (.aload_n 0, 1) := by decide +kernel
theorem dX9_reply_24 : decode cX9_reply 24 = .ok (.getfield 49, 3) := by decide +kernel
theorem dX9_reply_27 : decode cX9_reply 27 = .ok (.iload_n 1, 1) := by decide +kernel
theorem dX9_reply_28 : decode cX9_reply 28 = .ok (.iload_n 2, 1) := by decide +kernel
theorem dX9_reply_29 : decode cX9_reply 29 = .ok (.iload_n 3, 1) := by decide +kernel
theorem dX9_reply_30 : decode cX9_reply 30 = .ok (.invokevirtual 145, 3) := by decide +kernel
theorem dX9_reply_33 : decode cX9_reply 33 = .ok (.ifCond .ne 5, 3) := by decide +kernel
theorem dX9_reply_36 : decode cX9_reply 36 = .ok (.iconst (-1), 1) := by decide +kernel
theorem dX9_reply_37 : decode cX9_reply 37 = .ok (.ireturn, 1) := by decide +kernel
theorem dX9_reply_38 : decode cX9_reply 38 = .ok (.aload_n 0, 1) := by decide +kernel
theorem dX9_reply_39 : decode cX9_reply 39 = .ok (.getfield 49, 3) := by decide +kernel
theorem dX9_reply_42 : decode cX9_reply 42 = .ok (.iload_n 1, 1) := by decide +kernel
theorem dX9_reply_43 : decode cX9_reply 43 = .ok (.iload_n 2, 1) := by decide +kernel
theorem dX9_reply_44 : decode cX9_reply 44 = .ok (.iload_n 3, 1) := by decide +kernel
theorem dX9_reply_45 : decode cX9_reply 45 = .ok (.iload 4, 2) := by decide +kernel
theorem dX9_reply_47 : decode cX9_reply 47 = .ok (.invokevirtual 149, 3) := by decide +kernel
theorem dX9_reply_50 : decode cX9_reply 50 = .ok (.ireturn, 1) := by decide +kernel
theorem dX9_forced_0 : decode cX9_forced 0 = .ok (.aload_n 0, 1) := by decide +kernel
theorem dX9_forced_1 : decode cX9_forced 1 = .ok (.iload_n 1, 1) := by decide +kernel
theorem dX9_forced_2 : decode cX9_forced 2 = .ok (.iload_n 2, 1) := by decide +kernel
theorem dX9_forced_3 : decode cX9_forced 3 = .ok (.invokevirtual 135, 3) := by decide +kernel
theorem dX9_forced_6 : decode cX9_forced 6 = .ok (.ifCond .eq 15, 3) := by decide +kernel
theorem dX9_forced_9 : decode cX9_forced 9 = .ok (.aload_n 0, 1) := by decide +kernel
theorem dX9_forced_10 : decode cX9_forced 10 = .ok (.getfield 49, 3) := by decide +kernel
theorem dX9_forced_13 : decode cX9_forced 13 = .ok (.iload_n 1, 1) := by decide +kernel
theorem dX9_forced_14 : decode cX9_forced 14 = .ok (.iload_n 2, 1) := by decide +kernel
theorem dX9_forced_15 : decode cX9_forced 15 = .ok (.invokevirtual 152, 3) := by decide +kernel
theorem dX9_forced_18 : decode cX9_forced 18 = .ok (.goto 4, 3) := by decide +kernel
theorem dX9_forced_21 : decode cX9_forced 21 = .ok (.iconst (-1), 1) := by decide +kernel
theorem dX9_forced_22 : decode cX9_forced 22 = .ok (.ireturn, 1) := by decide +kernel
theorem dX9_type_0 : decode cX9_type 0 = .ok (.iload_n 1, 1) := by decide +kernel
theorem dX9_type_1 : decode cX9_type 1 = .ok (.bipush 32, 2) := by decide +kernel
theorem dX9_type_3 : decode cX9_type 3 = .ok (.if_icmp .lt 9, 3) := by decide +kernel
theorem dX9_type_6 : decode cX9_type 6 = .ok (.iload_n 1, 1) := by decide +kernel
theorem dX9_type_7 : decode cX9_type 7 = .ok (.bipush 126, 2) := by decide +kernel
theorem dX9_type_9 : decode cX9_type 9 = .ok (.if_icmp .le 5, 3) := by decide +kernel
theorem dX9_type_12 : decode cX9_type 12 = .ok (.iconst (-1), 1) := by decide +kernel
theorem dX9_type_13 : decode cX9_type 13 = .ok (.ireturn, 1) := by decide +kernel
theorem dX9_type_14 : decode cX9_type 14 = .ok (.aload_n 0, 1) := by decide +kernel
theorem dX9_type_15 : decode cX9_type 15 = .ok (.getfield 56, 3) := by decide +kernel
theorem dX9_type_18 : decode cX9_type 18 = .ok (.iload_n 1, 1) := by decide +kernel
theorem dX9_type_19 : decode cX9_type 19 = .ok (.invokevirtual 155, 3) := by decide +kernel
theorem dX9_type_22 : decode cX9_type 22 = .ok (.ifCond .eq 13, 3) := by decide +kernel
theorem dX9_type_25 : decode cX9_type 25 = .ok (.aload_n 0, 1) := by decide +kernel
theorem dX9_type_26 : decode cX9_type 26 = .ok (.getfield 56, 3) := by decide +kernel
theorem dX9_type_29 : decode cX9_type 29 = .ok (.getfield 158, 3) := by decide +kernel
theorem dX9_type_32 : decode cX9_type 32 = .ok (.goto 5, 3) := by decide +kernel
theorem dX9_type_35 : decode cX9_type 35 = .ok (.bipush (-2), 2) := by decide +kernel
theorem dX9_type_37 : decode cX9_type 37 = .ok (.ireturn, 1) := by decide +kernel
theorem dX9_read_0 : decode cX9_read 0 = .ok (.aload_n 0, 1) := by decide +kernel
theorem dX9_read_1 : decode cX9_read 1 = .ok (.getfield 15, 3) := by decide +kernel
theorem dX9_read_4 : decode cX9_read 4 = .ok (.ifCond .lt 15, 3) := by decide +kernel
theorem dX9_read_7 : decode cX9_read 7 = .ok (.aload_n 0, 1) := by decide +kernel
theorem dX9_read_8 : decode cX9_read 8 = .ok (.getfield 15, 3) := by decide +kernel
theorem dX9_read_11 : decode cX9_read 11 = .ok (.aload_n 0, 1) := by decide +kernel
theorem dX9_read_12 : decode cX9_read 12 = .ok (.getfield 11, 3) := by decide +kernel
theorem dX9_read_15 : decode cX9_read 15 = .ok (.arraylength, 1) := by decide +kernel
theorem dX9_read_16 : decode cX9_read 16 = .ok (.if_icmp .lt 6, 3) := by decide +kernel
theorem dX9_read_19 : decode cX9_read 19 = .ok (.bipush (-2), 2) := by decide +kernel
theorem dX9_read_21 : decode cX9_read 21 = .ok (.ireturn, 1) := by decide +kernel
theorem dX9_read_22 : decode cX9_read 22 = .ok (.aload_n 0, 1) := by decide +kernel
theorem dX9_read_23 : decode cX9_read 23 = .ok (.getfield 56, 3) := by decide +kernel
theorem dX9_read_26 : decode cX9_read 26 = .ok (.aload_n 0, 1) := by decide +kernel
theorem dX9_read_27 : decode cX9_read 27 = .ok (.getfield 11, 3) := by decide +kernel
theorem dX9_read_30 : decode cX9_read 30 = .ok (.aload_n 0, 1) := by decide +kernel
theorem dX9_read_31 : decode cX9_read 31 = .ok (.getfield 15, 3) := by decide +kernel
theorem dX9_read_34 : decode cX9_read 34 = .ok (.aaload, 1) := by decide +kernel
theorem dX9_read_35 : decode cX9_read 35 = .ok (.invokevirtual 161, 3) := by decide +kernel
theorem dX9_read_38 : decode cX9_read 38 = .ok (.istore_n 1, 1) := by decide +kernel
theorem dX9_read_39 : decode cX9_read 39 = .ok (.iload_n 1, 1) := by decide +kernel
theorem dX9_read_40 : decode cX9_read 40 = .ok (.ifCond .lt 8, 3) := by decide +kernel
theorem dX9_read_43 : decode cX9_read 43 = .ok (.bipush (-100), 2) := by decide +kernel
theorem dX9_read_45 : decode cX9_read 45 = .ok (.iload_n 1, 1) := by decide +kernel
theorem dX9_read_46 : decode cX9_read 46 = .ok (.isub, 1) := by decide +kernel
theorem dX9_read_47 : decode cX9_read 47 = .ok (.ireturn, 1) := by decide +kernel
theorem dX9_read_48 : decode cX9_read 48 = .ok (.aload_n 0, 1) := by decide +kernel
theorem dX9_read_49 : decode cX9_read 49 = .ok (.getfield 56, 3) := by decide +kernel
theorem dX9_read_52 : decode cX9_read 52 = .ok (.iconst 0, 1) := by decide +kernel
theorem dX9_read_53 : decode cX9_read 53 = .ok (.putfield 158, 3) := by decide +kernel
theorem dX9_read_56 : decode cX9_read 56 = .ok (.aload_n 0, 1) := by decide +kernel
theorem dX9_read_57 : decode cX9_read 57 = .ok (.dup, 1) := by decide +kernel
theorem dX9_read_58 : decode cX9_read 58 = .ok (.getfield 15, 3) := by decide +kernel
theorem dX9_read_61 : decode cX9_read 61 = .ok (.iconst 1, 1) := by decide +kernel
theorem dX9_read_62 : decode cX9_read 62 = .ok (.iadd, 1) := by decide +kernel
theorem dX9_read_63 : decode cX9_read 63 = .ok (.putfield 15, 3) := by decide +kernel
theorem dX9_read_66 : decode cX9_read 66 = .ok (.aload_n 0, 1) := by decide +kernel
theorem dX9_read_67 : decode cX9_read 67 = .ok (.getfield 15, 3) := by decide +kernel
theorem dX9_read_70 : decode cX9_read 70 = .ok (.iconst 1, 1) := by decide +kernel
theorem dX9_read_71 : decode cX9_read 71 = .ok (.isub, 1) := by decide +kernel
theorem dX9_read_72 : decode cX9_read 72 = .ok (.ireturn, 1) := by decide +kernel
theorem dX9_forget_0 : decode cX9_forget 0 = .ok (.aload_n 0, 1) := by decide +kernel
theorem dX9_forget_1 : decode cX9_forget 1 = .ok (.getfield 15, 3) := by decide +kernel
theorem dX9_forget_4 : decode cX9_forget 4 = .ok (.istore_n 1, 1) := by decide +kernel
theorem dX9_forget_5 : decode cX9_forget 5 = .ok (.aload_n 0, 1) := by decide +kernel
theorem dX9_forget_6 : decode cX9_forget 6 = .ok (.iconst 0, 1) := by decide +kernel
theorem dX9_forget_7 : decode cX9_forget 7 = .ok (.putfield 15, 3) := by decide +kernel
theorem dX9_forget_10 : decode cX9_forget 10 = .ok (.iload_n 1, 1) := by decide +kernel
theorem dX9_forget_11 : decode cX9_forget 11 = .ok (.ireturn, 1) := by decide +kernel
theorem dX9_formulas_0 : decode cX9_formulas 0 = .ok (.aload_n 0, 1) := by decide +kernel
theorem dX9_formulas_1 : decode cX9_formulas 1 = .ok (.getfield 15, 3) := by decide +kernel
theorem dX9_formulas_4 : decode cX9_formulas 4 = .ok (.ireturn, 1) := by decide +kernel
theorem dX9_parts_0 : decode cX9_parts 0 = .ok (.aload_n 0, 1) := by decide +kernel
theorem dX9_parts_1 : decode cX9_parts 1 = .ok (.iload_n 1, 1) := by decide +kernel
theorem dX9_parts_2 : decode cX9_parts 2 = .ok (.invokevirtual 165, 3) := by decide +kernel
theorem dX9_parts_5 : decode cX9_parts 5 = .ok (.astore_n 2, 1) := by decide +kernel
theorem dX9_parts_6 : decode cX9_parts 6 = .ok (.aload_n 2, 1) := by decide +kernel
theorem dX9_parts_7 : decode cX9_parts 7 = .ok (.ifnonnull 7, 3) := by decide +kernel
theorem dX9_parts_10 : decode cX9_parts 10 = .ok (.iconst (-1), 1) := by decide +kernel
theorem dX9_parts_11 : decode cX9_parts 11 = .ok (.goto 7, 3) := by decide +kernel
theorem dX9_parts_14 : decode cX9_parts 14 = .ok (.aload_n 2, 1) := by decide +kernel
theorem dX9_parts_15 : decode cX9_parts 15 = .ok (.getfield 169, 3) := by decide +kernel
theorem dX9_parts_18 : decode cX9_parts 18 = .ok (.ireturn, 1) := by decide +kernel
theorem dX9_where_0 : decode cX9_where 0 = .ok (.aload_n 0, 1) := by decide +kernel
theorem dX9_where_1 : decode cX9_where 1 = .ok (.iload_n 1, 1) := by decide +kernel
theorem dX9_where_2 : decode cX9_where 2 = .ok (.invokevirtual 165, 3) := by decide +kernel
theorem dX9_where_5 : decode cX9_where 5 = .ok (.astore_n 3, 1) := by decide +kernel
theorem dX9_where_6 : decode cX9_where 6 = .ok (.aload_n 3, 1) := by decide +kernel
theorem dX9_where_7 : decode cX9_where 7 = .ok (.ifnull 15, 3) := by decide +kernel
theorem dX9_where_10 : decode cX9_where 10 = .ok (.iload_n 2, 1) := by decide +kernel
theorem dX9_where_11 : decode cX9_where 11 = .ok (.ifCond .lt 11, 3) := by decide +kernel
theorem dX9_where_14 : decode cX9_where 14 = .ok (.iload_n 2, 1) := by decide +kernel
theorem dX9_where_15 : decode cX9_where 15 = .ok (.aload_n 3, 1) := by decide +kernel
theorem dX9_where_16 : decode cX9_where 16 = .ok (.getfield 169, 3) := by decide +kernel
theorem dX9_where_19 : decode cX9_where 19 = .ok (.if_icmp .lt 5, 3) := by decide +kernel
theorem dX9_where_22 : decode cX9_where 22 = .ok (.iconst (-1), 1) := by decide +kernel
theorem dX9_where_23 : decode cX9_where 23 = .ok (.ireturn, 1) := by decide +kernel
theorem dX9_where_24 : decode cX9_where 24 = .ok (.aload_n 0, 1) := by decide +kernel
theorem dX9_where_25 : decode cX9_where 25 = .ok (.getfield 65, 3) := by decide +kernel
theorem dX9_where_28 : decode cX9_where 28 = .ok (.aload_n 3, 1) := by decide +kernel
theorem dX9_where_29 : decode cX9_where 29 = .ok (.invokevirtual 172, 3) := by decide +kernel
theorem dX9_where_32 : decode cX9_where 32 = .ok (.aload_n 0, 1) := by decide +kernel
theorem dX9_where_33 : decode cX9_where 33 = .ok (.getfield 65, 3) := by decide +kernel
theorem dX9_where_36 : decode cX9_where 36 = .ok (.iload_n 2, 1) := by decide +kernel
theorem dX9_where_37 : decode cX9_where 37 = .ok (.invokevirtual 176, 3) := by decide +kernel
theorem dX9_where_40 : decode cX9_where 40 = .ok (.ireturn, 1) := by decide +kernel
theorem dX9_holds_0 : decode cX9_holds 0 = .ok (.aload_n 0, 1) := by decide +kernel
theorem dX9_holds_1 : decode cX9_holds 1 = .ok (.iload_n 1, 1) := by decide +kernel
theorem dX9_holds_2 : decode cX9_holds 2 = .ok (.invokevirtual 165, 3) := by decide +kernel
theorem dX9_holds_5 : decode cX9_holds 5 = .ok (.astore_n 3, 1) := by decide +kernel
theorem dX9_holds_6 : decode cX9_holds 6 = .ok (.aload_n 3, 1) := by decide +kernel
theorem dX9_holds_7 : decode cX9_holds 7 = .ok (.ifnull 14, 3) := by decide +kernel
theorem dX9_holds_10 : decode cX9_holds 10 = .ok (.aload_n 0, 1) := by decide +kernel
theorem dX9_holds_11 : decode cX9_holds 11 = .ok (.getfield 33, 3) := by decide +kernel
theorem dX9_holds_14 : decode cX9_holds 14 = .ok (.iload_n 2, 1) := by decide +kernel
theorem dX9_holds_15 : decode cX9_holds 15 = .ok (.invokevirtual 110, 3) := by decide +kernel
theorem dX9_holds_18 : decode cX9_holds 18 = .ok (.ifCond .ne 5, 3) := by decide +kernel
theorem dX9_holds_21 : decode cX9_holds 21 = .ok (.iconst (-1), 1) := by decide +kernel
theorem dX9_holds_22 : decode cX9_holds 22 = .ok (.ireturn, 1) := by decide +kernel
theorem dX9_holds_23 : decode cX9_holds 23 = .ok (.aload_n 0, 1) := by decide +kernel
theorem dX9_holds_24 : decode cX9_holds 24 = .ok (.getfield 65, 3) := by decide +kernel
theorem dX9_holds_27 : decode cX9_holds 27 = .ok (.aload_n 3, 1) := by decide +kernel
theorem dX9_holds_28 : decode cX9_holds 28 = .ok (.invokevirtual 179, 3) := by decide +kernel
theorem dX9_holds_31 : decode cX9_holds 31 = .ok (.iload_n 2, 1) := by decide +kernel
theorem dX9_holds_32 : decode cX9_holds 32 = .ok (.ishr, 1) := by decide +kernel
theorem dX9_holds_33 : decode cX9_holds 33 = .ok (.iconst 1, 1) := by decide +kernel
theorem dX9_holds_34 : decode cX9_holds 34 = .ok (.iand, 1) := by decide +kernel
theorem dX9_holds_35 : decode cX9_holds 35 = .ok (.ireturn, 1) := by decide +kernel
theorem dX9_rank_0 : decode cX9_rank 0 = .ok (.aload_n 0, 1) := by decide +kernel
theorem dX9_rank_1 : decode cX9_rank 1 = .ok (.iload_n 1, 1) := by decide +kernel
theorem dX9_rank_2 : decode cX9_rank 2 = .ok (.invokevirtual 165, 3) := by decide +kernel
theorem dX9_rank_5 : decode cX9_rank 5 = .ok (.astore_n 3, 1) := by decide +kernel
theorem dX9_rank_6 : decode cX9_rank 6 = .ok (.aload_n 3, 1) := by decide +kernel
theorem dX9_rank_7 : decode cX9_rank 7 = .ok (.ifnull 14, 3) := by decide +kernel
theorem dX9_rank_10 : decode cX9_rank 10 = .ok (.aload_n 0, 1) := by decide +kernel
theorem dX9_rank_11 : decode cX9_rank 11 = .ok (.getfield 33, 3) := by decide +kernel
theorem dX9_rank_14 : decode cX9_rank 14 = .ok (.iload_n 2, 1) := by decide +kernel
theorem dX9_rank_15 : decode cX9_rank 15 = .ok (.invokevirtual 110, 3) := by decide +kernel
theorem dX9_rank_18 : decode cX9_rank 18 = .ok (.ifCond .ne 5, 3) := by decide +kernel
theorem dX9_rank_21 : decode cX9_rank 21 = .ok (.iconst (-1), 1) := by decide +kernel
theorem dX9_rank_22 : decode cX9_rank 22 = .ok (.ireturn, 1) := by decide +kernel
theorem dX9_rank_23 : decode cX9_rank 23 = .ok (.aload_n 3, 1) := by decide +kernel
theorem dX9_rank_24 : decode cX9_rank 24 = .ok (.invokevirtual 187, 3) := by decide +kernel
theorem dX9_rank_27 : decode cX9_rank 27 = .ok (.bipush 7, 2) := by decide +kernel
theorem dX9_rank_29 : decode cX9_rank 29 = .ok (.if_icmp .eq 15, 3) := by decide +kernel
theorem dX9_rank_32 : decode cX9_rank 32 = .ok (.aload_n 3, 1) := by decide +kernel
theorem dX9_rank_33 : decode cX9_rank 33 = .ok (.invokevirtual 187, 3) := by decide +kernel
theorem dX9_rank_36 : decode cX9_rank 36 = .ok (.bipush 9, 2) := by decide +kernel
theorem dX9_rank_38 : decode cX9_rank 38 = .ok (.if_icmp .eq 6, 3) := by decide +kernel
theorem dX9_rank_41 : decode cX9_rank 41 = .ok (.bipush (-3), 2) := by decide +kernel
theorem dX9_rank_43 : decode cX9_rank 43 = .ok (.ireturn, 1) := by decide +kernel
theorem dX9_rank_44 : decode cX9_rank 44 = .ok (.aload_n 0, 1) := by decide +kernel
theorem dX9_rank_45 : decode cX9_rank 45 = .ok (.getfield 65, 3) := by decide +kernel
theorem dX9_rank_48 : decode cX9_rank 48 = .ok (.aload_n 3, 1) := by decide +kernel
theorem dX9_rank_49 : decode cX9_rank 49 = .ok (.invokevirtual 172, 3) := by decide +kernel
theorem dX9_rank_52 : decode cX9_rank 52 = .ok (.aload_n 0, 1) := by decide +kernel
theorem dX9_rank_53 : decode cX9_rank 53 = .ok (.getfield 65, 3) := by decide +kernel
theorem dX9_rank_56 : decode cX9_rank 56 = .ok (.aload_n 3, 1) := by decide +kernel
theorem dX9_rank_57 : decode cX9_rank 57 = .ok (.aload_n 3, 1) := by decide +kernel
theorem dX9_rank_58 : decode cX9_rank 58 = .ok (.invokevirtual 190, 3) := by decide +kernel
theorem dX9_rank_61 : decode cX9_rank 61 = .ok (.iconst 0, 1) := by decide +kernel
theorem dX9_rank_62 : decode cX9_rank 62 = .ok (.invokevirtual 193, 3) := by decide +kernel
theorem dX9_rank_65 : decode cX9_rank 65 = .ok (.pop, 1) := by decide +kernel
theorem dX9_rank_66 : decode cX9_rank 66 = .ok (.aload_n 0, 1) := by decide +kernel
theorem dX9_rank_67 : decode cX9_rank 67 = .ok (.getfield 65, 3) := by decide +kernel
theorem dX9_rank_70 : decode cX9_rank 70 = .ok (.iload_n 2, 1) := by decide +kernel
theorem dX9_rank_71 : decode cX9_rank 71 = .ok (.invokevirtual 197, 3) := by decide +kernel
theorem dX9_rank_74 : decode cX9_rank 74 = .ok (.istore 4, 2) := by decide +kernel
theorem dX9_rank_76 : decode cX9_rank 76 = .ok (.iload 4, 2) := by decide +kernel
theorem dX9_rank_78 : decode cX9_rank 78 = .ok (.ifCond .ge 8, 3) := by decide +kernel
theorem dX9_rank_81 : decode cX9_rank 81 = .ok (.bipush (-9), 2) := by decide +kernel
theorem dX9_rank_83 : decode cX9_rank 83 = .ok (.goto 5, 3) := by decide +kernel
theorem dX9_rank_86 : decode cX9_rank 86 = .ok (.iload 4, 2) := by decide +kernel
theorem dX9_rank_88 : decode cX9_rank 88 = .ok (.ireturn, 1) := by decide +kernel
theorem dX9_strategy_0 : decode cX9_strategy 0 = .ok (.aload_n 0, 1) := by decide +kernel
theorem dX9_strategy_1 : decode cX9_strategy 1 = .ok (.iload_n 1, 1) := by decide +kernel
theorem dX9_strategy_2 : decode cX9_strategy 2 = .ok (.invokevirtual 165, 3) := by decide +kernel
theorem dX9_strategy_5 : decode cX9_strategy 5 = .ok (.astore_n 3, 1) := by decide +kernel
theorem dX9_strategy_6 : decode cX9_strategy 6 = .ok (.aload_n 3, 1) := by decide +kernel
theorem dX9_strategy_7 : decode cX9_strategy 7 = .ok (.ifnull 14, 3) := by decide +kernel
theorem dX9_strategy_10 : decode cX9_strategy 10 = .ok (.aload_n 0, 1) := by decide +kernel
theorem dX9_strategy_11 : decode cX9_strategy 11 = .ok (.getfield 33, 3) := by decide +kernel
theorem dX9_strategy_14 : decode cX9_strategy 14 = .ok (.iload_n 2, 1) := by decide +kernel
theorem dX9_strategy_15 : decode cX9_strategy 15 = .ok (.invokevirtual 110, 3) := by decide +kernel
theorem dX9_strategy_18 : decode cX9_strategy 18 = .ok (.ifCond .ne 5, 3) := by decide +kernel
theorem dX9_strategy_21 : decode cX9_strategy 21 = .ok (.iconst (-1), 1) := by decide +kernel
theorem dX9_strategy_22 : decode cX9_strategy 22 = .ok (.ireturn, 1) := by decide +kernel
theorem dX9_strategy_23 : decode cX9_strategy 23 = .ok (.aload_n 3, 1) := by decide +kernel
theorem dX9_strategy_24 : decode cX9_strategy 24 = .ok (.invokevirtual 200, 3) := by decide +kernel
theorem dX9_strategy_27 : decode cX9_strategy 27 = .ok (.ifCond .ne 6, 3) := by decide +kernel
theorem dX9_strategy_30 : decode cX9_strategy 30 = .ok (.bipush (-3), 2) := by decide +kernel
theorem dX9_strategy_32 : decode cX9_strategy 32 = .ok (.ireturn, 1) := by decide +kernel
theorem dX9_strategy_33 : decode cX9_strategy 33 = .ok (.aload_n 0, 1) := by decide +kernel
theorem dX9_strategy_34 : decode cX9_strategy 34 = .ok (.getfield 74, 3) := by decide +kernel
theorem dX9_strategy_37 : decode cX9_strategy 37 = .ok (.aload_n 3, 1) := by decide +kernel
theorem dX9_strategy_38 : decode cX9_strategy 38 = .ok (.invokevirtual 204, 3) := by decide +kernel
theorem dX9_strategy_41 : decode cX9_strategy 41 = .ok (.aload_n 0, 1) := by decide +kernel
theorem dX9_strategy_42 : decode cX9_strategy 42 = .ok (.getfield 74, 3) := by decide +kernel
theorem dX9_strategy_45 : decode cX9_strategy 45 = .ok (.aload_n 3, 1) := by decide +kernel
theorem dX9_strategy_46 : decode cX9_strategy 46 = .ok (.iload_n 2, 1) := by decide +kernel
theorem dX9_strategy_47 : decode cX9_strategy 47 = .ok (.invokevirtual 207, 3) := by decide +kernel
theorem dX9_strategy_50 : decode cX9_strategy 50 = .ok (.ireturn, 1) := by decide +kernel
theorem dX9_plan_0 : decode cX9_plan 0 = .ok (.aload_n 0, 1) := by decide +kernel
theorem dX9_plan_1 : decode cX9_plan 1 = .ok (.getfield 33, 3) := by decide +kernel
theorem dX9_plan_4 : decode cX9_plan 4 = .ok (.iload_n 1, 1) := by decide +kernel
theorem dX9_plan_5 : decode cX9_plan 5 = .ok (.iload_n 2, 1) := by decide +kernel
theorem dX9_plan_6 : decode cX9_plan 6 = .ok (.invokevirtual 99, 3) := by decide +kernel
theorem dX9_plan_9 : decode cX9_plan 9 = .ok (.ifCond .eq 12, 3) := by decide +kernel
theorem dX9_plan_12 : decode cX9_plan 12 = .ok (.iload_n 3, 1) := by decide +kernel
theorem dX9_plan_13 : decode cX9_plan 13 = .ok (.ifCond .lt 8, 3) := by decide +kernel
theorem dX9_plan_16 : decode cX9_plan 16 = .ok (.iload_n 3, 1) := by decide +kernel
theorem dX9_plan_17 : decode cX9_plan 17 = .ok (.iconst 3, 1) := by decide +kernel
theorem dX9_plan_18 : decode cX9_plan 18 = .ok (.if_icmp .lt 5, 3) := by decide +kernel
theorem dX9_plan_21 : decode cX9_plan 21 = .ok (.iconst (-1), 1) := by decide +kernel
theorem dX9_plan_22 : decode cX9_plan 22 = .ok (.ireturn, 1) := by decide +kernel
theorem dX9_plan_23 : decode cX9_plan 23 = .ok (.aload_n 0, 1) := by decide +kernel
theorem dX9_plan_24 : decode cX9_plan 24 = .ok (.getfield 40, 3) := by decide +kernel
theorem dX9_plan_27 : decode cX9_plan 27 = .ok (.aload_n 0, 1) := by decide +kernel
theorem dX9_plan_28 : decode cX9_plan 28 = .ok (.getfield 33, 3) := by decide +kernel
theorem dX9_plan_31 : decode cX9_plan 31 = .ok (.invokevirtual 92, 3) := by decide +kernel
theorem dX9_plan_34 : decode cX9_plan 34 = .ok (.aload_n 0, 1) := by decide +kernel
theorem dX9_plan_35 : decode cX9_plan 35 = .ok (.getfield 33, 3) := by decide +kernel
theorem dX9_plan_38 : decode cX9_plan 38 = .ok (.iload_n 1, 1) := by decide +kernel
theorem dX9_plan_39 : decode cX9_plan 39 = .ok (.iload_n 2, 1) := by decide +kernel
theorem dX9_plan_40 : decode cX9_plan 40 = .ok (.invokevirtual 211, 3) := by decide +kernel
theorem dX9_plan_43 : decode cX9_plan 43 = .ok (.istore 4, 2) := by decide +kernel
theorem dX9_plan_45 : decode cX9_plan 45 = .ok (.aload_n 0, 1) := by decide +kernel
theorem dX9_plan_46 : decode cX9_plan 46 = .ok (.getfield 33, 3) := by decide +kernel
theorem dX9_plan_49 : decode cX9_plan 49 = .ok (.iload_n 1, 1) := by decide +kernel
theorem dX9_plan_50 : decode cX9_plan 50 = .ok (.iload_n 2, 1) := by decide +kernel
theorem dX9_plan_51 : decode cX9_plan 51 = .ok (.iload_n 3, 1) := by decide +kernel
theorem dX9_plan_52 : decode cX9_plan 52 = .ok (.invokevirtual 214, 3) := by decide +kernel
theorem dX9_plan_55 : decode cX9_plan 55 = .ok (.iload 4, 2) := by decide +kernel
theorem dX9_plan_57 : decode cX9_plan 57 = .ok (.ireturn, 1) := by decide +kernel
theorem dX9_adopt_0 : decode cX9_adopt 0 = .ok (.aload_n 0, 1) := by decide +kernel
theorem dX9_adopt_1 : decode cX9_adopt 1 = .ok (.iload_n 1, 1) := by decide +kernel
theorem dX9_adopt_2 : decode cX9_adopt 2 = .ok (.invokevirtual 165, 3) := by decide +kernel
theorem dX9_adopt_5 : decode cX9_adopt 5 = .ok (.astore_n 2, 1) := by decide +kernel
theorem dX9_adopt_6 : decode cX9_adopt 6 = .ok (.aload_n 2, 1) := by decide +kernel
theorem dX9_adopt_7 : decode cX9_adopt 7 = .ok (.ifnonnull 5, 3) := by decide +kernel
theorem dX9_adopt_10 : decode cX9_adopt 10 = .ok (.iconst (-1), 1) := by decide +kernel
theorem dX9_adopt_11 : decode cX9_adopt 11 = .ok (.ireturn, 1) := by decide +kernel
theorem dX9_adopt_12 : decode cX9_adopt 12 = .ok (.aload_n 2, 1) := by decide +kernel
theorem dX9_adopt_13 : decode cX9_adopt 13 = .ok (.invokevirtual 200, 3) := by decide +kernel
theorem dX9_adopt_16 : decode cX9_adopt 16 = .ok (.ifCond .ne 6, 3) := by decide +kernel
theorem dX9_adopt_19 : decode cX9_adopt 19 = .ok (.bipush (-3), 2) := by decide +kernel
theorem dX9_adopt_21 : decode cX9_adopt 21 = .ok (.ireturn, 1) := by decide +kernel
theorem dX9_adopt_22 : decode cX9_adopt 22 = .ok (.aload_n 0, 1) := by decide +kernel
theorem dX9_adopt_23 : decode cX9_adopt 23 = .ok (.getfield 40, 3) := by decide +kernel
theorem dX9_adopt_26 : decode cX9_adopt 26 = .ok (.aload_n 0, 1) := by decide +kernel
theorem dX9_adopt_27 : decode cX9_adopt 27 = .ok (.getfield 33, 3) := by decide +kernel
theorem dX9_adopt_30 : decode cX9_adopt 30 = .ok (.invokevirtual 92, 3) := by decide +kernel
theorem dX9_adopt_33 : decode cX9_adopt 33 = .ok (.aload_n 0, 1) := by decide +kernel
theorem dX9_adopt_34 : decode cX9_adopt 34 = .ok (.getfield 74, 3) := by decide +kernel
theorem dX9_adopt_37 : decode cX9_adopt 37 = .ok (.aload_n 2, 1) := by decide +kernel
theorem dX9_adopt_38 : decode cX9_adopt 38 = .ok (.invokevirtual 204, 3) := by decide +kernel
theorem dX9_adopt_41 : decode cX9_adopt 41 = .ok (.aload_n 0, 1) := by decide +kernel
theorem dX9_adopt_42 : decode cX9_adopt 42 = .ok (.getfield 74, 3) := by decide +kernel
theorem dX9_adopt_45 : decode cX9_adopt 45 = .ok (.aload_n 2, 1) := by decide +kernel
theorem dX9_adopt_46 : decode cX9_adopt 46 = .ok (.invokevirtual 217, 3) := by decide +kernel
theorem dX9_adopt_49 : decode cX9_adopt 49 = .ok (.ireturn, 1) := by decide +kernel
theorem dX9_planned_0 : decode cX9_planned 0 = .ok (.aload_n 0, 1) := by decide +kernel
theorem dX9_planned_1 : decode cX9_planned 1 = .ok (.getfield 33, 3) := by decide +kernel
theorem dX9_planned_4 : decode cX9_planned 4 = .ok (.iload_n 1, 1) := by decide +kernel
theorem dX9_planned_5 : decode cX9_planned 5 = .ok (.iload_n 2, 1) := by decide +kernel
theorem dX9_planned_6 : decode cX9_planned 6 = .ok (.invokevirtual 99, 3) := by decide +kernel
theorem dX9_planned_9 : decode cX9_planned 9 = .ok (.ifCond .eq 15, 3) := by decide +kernel
theorem dX9_planned_12 : decode cX9_planned 12 = .ok (.aload_n 0, 1) := by decide +kernel
theorem dX9_planned_13 : decode cX9_planned 13 = .ok (.getfield 33, 3) := by decide +kernel
theorem dX9_planned_16 : decode cX9_planned 16 = .ok (.iload_n 1, 1) := by decide +kernel
theorem dX9_planned_17 : decode cX9_planned 17 = .ok (.iload_n 2, 1) := by decide +kernel
theorem dX9_planned_18 : decode cX9_planned 18 = .ok (.invokevirtual 211, 3) := by decide +kernel
theorem dX9_planned_21 : decode cX9_planned 21 = .ok (.goto 4, 3) := by decide +kernel
theorem dX9_planned_24 : decode cX9_planned 24 = .ok (.iconst (-1), 1) := by decide +kernel
theorem dX9_planned_25 : decode cX9_planned 25 = .ok (.ireturn, 1) := by decide +kernel
theorem dX9_enforced_0 : decode cX9_enforced 0 = .ok (.aload_n 0, 1) := by decide +kernel
theorem dX9_enforced_1 : decode cX9_enforced 1 = .ok (.iload_n 1, 1) := by decide +kernel
theorem dX9_enforced_2 : decode cX9_enforced 2 = .ok (.invokevirtual 165, 3) := by decide +kernel
theorem dX9_enforced_5 : decode cX9_enforced 5 = .ok (.astore_n 2, 1) := by decide +kernel
theorem dX9_enforced_6 : decode cX9_enforced 6 = .ok (.aload_n 2, 1) := by decide +kernel
theorem dX9_enforced_7 : decode cX9_enforced 7 = .ok (.ifnonnull 5, 3) := by decide +kernel
theorem dX9_enforced_10 : decode cX9_enforced 10 = .ok (.iconst (-1), 1) := by decide +kernel
theorem dX9_enforced_11 : decode cX9_enforced 11 = .ok (.ireturn, 1) := by decide +kernel
theorem dX9_enforced_12 : decode cX9_enforced 12 = .ok (.aload_n 2, 1) := by decide +kernel
theorem dX9_enforced_13 : decode cX9_enforced 13 = .ok (.invokevirtual 200, 3) := by decide +kernel
theorem dX9_enforced_16 : decode cX9_enforced 16 = .ok (.ifCond .ne 6, 3) := by decide +kernel
theorem dX9_enforced_19 : decode cX9_enforced 19 = .ok (.bipush (-3), 2) := by decide +kernel
theorem dX9_enforced_21 : decode cX9_enforced 21 = .ok (.ireturn, 1) := by decide +kernel
theorem dX9_enforced_22 : decode cX9_enforced 22 = .ok (.aload_n 0, 1) := by decide +kernel
theorem dX9_enforced_23 : decode cX9_enforced 23 = .ok (.getfield 65, 3) := by decide +kernel
theorem dX9_enforced_26 : decode cX9_enforced 26 = .ok (.aload_n 2, 1) := by decide +kernel
theorem dX9_enforced_27 : decode cX9_enforced 27 = .ok (.invokevirtual 172, 3) := by decide +kernel
theorem dX9_enforced_30 : decode cX9_enforced 30 = .ok (.aload_n 0, 1) := by decide +kernel
theorem dX9_enforced_31 : decode cX9_enforced 31 = .ok (.getfield 65, 3) := by decide +kernel
theorem dX9_enforced_34 : decode cX9_enforced 34 = .ok (.aload_n 2, 1) := by decide +kernel
theorem dX9_enforced_35 : decode cX9_enforced 35 = .ok (.aload_n 2, 1) := by decide +kernel
theorem dX9_enforced_36 : decode cX9_enforced 36 = .ok (.invokevirtual 190, 3) := by decide +kernel
theorem dX9_enforced_39 : decode cX9_enforced 39 = .ok (.iconst 1, 1) := by decide +kernel
theorem dX9_enforced_40 : decode cX9_enforced 40 = .ok (.invokevirtual 193, 3) := by decide +kernel
theorem dX9_enforced_43 : decode cX9_enforced 43 = .ok (.ireturn, 1) := by decide +kernel
theorem dX9_play_0 : decode cX9_play 0 = .ok (.aload_n 0, 1) := by decide +kernel
theorem dX9_play_1 : decode cX9_play 1 = .ok (.iload_n 1, 1) := by decide +kernel
theorem dX9_play_2 : decode cX9_play 2 = .ok (.invokevirtual 165, 3) := by decide +kernel
theorem dX9_play_5 : decode cX9_play 5 = .ok (.astore 5, 2) := by decide +kernel
theorem dX9_play_7 : decode cX9_play 7 = .ok (.aload 5, 2) := by decide +kernel
theorem dX9_play_9 : decode cX9_play 9 = .ok (.ifnull 25, 3) := by decide +kernel
theorem dX9_play_12 : decode cX9_play 12 = .ok (.aload_n 0, 1) := by decide +kernel
theorem dX9_play_13 : decode cX9_play 13 = .ok (.getfield 33, 3) := by decide +kernel
theorem dX9_play_16 : decode cX9_play 16 = .ok (.iload_n 2, 1) := by decide +kernel
theorem dX9_play_17 : decode cX9_play 17 = .ok (.invokevirtual 110, 3) := by decide +kernel
theorem dX9_play_20 : decode cX9_play 20 = .ok (.ifCond .eq 14, 3) := by decide +kernel
theorem dX9_play_23 : decode cX9_play 23 = .ok (.iload_n 3, 1) := by decide +kernel
theorem dX9_play_24 : decode cX9_play 24 = .ok (.ifCond .lt 10, 3) := by decide +kernel
theorem dX9_play_27 : decode cX9_play 27 = .ok (.iload_n 3, 1) := by decide +kernel
theorem dX9_play_28 : decode cX9_play 28 = .ok (.sipush 200, 3) := by decide +kernel
theorem dX9_play_31 : decode cX9_play 31 = .ok (.if_icmp .le 5, 3) := by decide +kernel
theorem dX9_play_34 : decode cX9_play 34 = .ok (.iconst (-1), 1) := by decide +kernel
theorem dX9_play_35 : decode cX9_play 35 = .ok (.ireturn, 1) := by decide +kernel
theorem dX9_play_36 : decode cX9_play 36 = .ok (.aload 5, 2) := by decide +kernel
theorem dX9_play_38 : decode cX9_play 38 = .ok (.invokevirtual 200, 3) := by decide +kernel
theorem dX9_play_41 : decode cX9_play 41 = .ok (.ifCond .ne 6, 3) := by decide +kernel
theorem dX9_play_44 : decode cX9_play 44 = .ok (.bipush (-3), 2) := by decide +kernel
theorem dX9_play_46 : decode cX9_play 46 = .ok (.ireturn, 1) := by decide +kernel
theorem dX9_play_47 : decode cX9_play 47 = .ok (.aload_n 0, 1) := by decide +kernel
theorem dX9_play_48 : decode cX9_play 48 = .ok (.getfield 74, 3) := by decide +kernel
theorem dX9_play_51 : decode cX9_play 51 = .ok (.aload 5, 2) := by decide +kernel
theorem dX9_play_53 : decode cX9_play 53 = .ok (.invokevirtual 190, 3) := by decide +kernel
theorem dX9_play_56 : decode cX9_play 56 = .ok (.iload_n 2, 1) := by decide +kernel
theorem dX9_play_57 : decode cX9_play 57 = .ok (.iload_n 3, 1) := by decide +kernel
theorem dX9_play_58 : decode cX9_play 58 = .ok (.iload 4, 2) := by decide +kernel
theorem dX9_play_60 : decode cX9_play 60 = .ok (.invokevirtual 220, 3) := by decide +kernel
theorem dX9_play_63 : decode cX9_play 63 = .ok (.ireturn, 1) := by decide +kernel
theorem dX9_smallest_0 : decode cX9_smallest 0 = .ok (.aload_n 0, 1) := by decide +kernel
theorem dX9_smallest_1 : decode cX9_smallest 1 = .ok (.iload_n 1, 1) := by decide +kernel
theorem dX9_smallest_2 : decode cX9_smallest 2 = .ok (.invokevirtual 165, 3) := by decide +kernel
theorem dX9_smallest_5 : decode cX9_smallest 5 = .ok (.astore_n 3, 1) := by decide +kernel
theorem dX9_smallest_6 : decode cX9_smallest 6 = .ok (.aload_n 3, 1) := by decide +kernel
theorem dX9_smallest_7 : decode cX9_smallest 7 = .ok (.ifnull 14, 3) := by decide +kernel
theorem dX9_smallest_10 : decode cX9_smallest 10 = .ok (.aload_n 0, 1) := by decide +kernel
theorem dX9_smallest_11 : decode cX9_smallest 11 = .ok (.getfield 33, 3) := by decide +kernel
theorem dX9_smallest_14 : decode cX9_smallest 14 = .ok (.iload_n 2, 1) := by decide +kernel
theorem dX9_smallest_15 : decode cX9_smallest 15 = .ok (.invokevirtual 110, 3) := by decide +kernel
theorem dX9_smallest_18 : decode cX9_smallest 18 = .ok (.ifCond .ne 5, 3) := by decide +kernel
theorem dX9_smallest_21 : decode cX9_smallest 21 = .ok (.iconst (-1), 1) := by decide +kernel
theorem dX9_smallest_22 : decode cX9_smallest 22 = .ok (.ireturn, 1) := by decide +kernel
theorem dX9_smallest_23 : decode cX9_smallest 23 = .ok (.aload_n 3, 1) := by decide +kernel
theorem dX9_smallest_24 : decode cX9_smallest 24 = .ok (.invokevirtual 200, 3) := by decide +kernel
theorem dX9_smallest_27 : decode cX9_smallest 27 = .ok (.ifCond .ne 6, 3) := by decide +kernel
theorem dX9_smallest_30 : decode cX9_smallest 30 = .ok (.bipush (-3), 2) := by decide +kernel
theorem dX9_smallest_32 : decode cX9_smallest 32 = .ok (.ireturn, 1) := by decide +kernel
theorem dX9_smallest_33 : decode cX9_smallest 33 = .ok (.aload_n 0, 1) := by decide +kernel
theorem dX9_smallest_34 : decode cX9_smallest 34 = .ok (.getfield 74, 3) := by decide +kernel
theorem dX9_smallest_37 : decode cX9_smallest 37 = .ok (.aload_n 3, 1) := by decide +kernel
theorem dX9_smallest_38 : decode cX9_smallest 38 = .ok (.iload_n 2, 1) := by decide +kernel
theorem dX9_smallest_39 : decode cX9_smallest 39 = .ok (.invokevirtual 223, 3) := by decide +kernel
theorem dX9_smallest_42 : decode cX9_smallest 42 = .ok (.ireturn, 1) := by decide +kernel
theorem dX9_classes_0 : decode cX9_classes 0 = .ok (.aload_n 0, 1) := by decide +kernel
theorem dX9_classes_1 : decode cX9_classes 1 = .ok (.getfield 81, 3) := by decide +kernel
theorem dX9_classes_4 : decode cX9_classes 4 = .ok (.invokevirtual 226, 3) := by decide +kernel
theorem dX9_classes_7 : decode cX9_classes 7 = .ok (.ireturn, 1) := by decide +kernel
theorem dX9_classOf_0 : decode cX9_classOf 0 = .ok (.aload_n 0, 1) := by decide +kernel
theorem dX9_classOf_1 : decode cX9_classOf 1 = .ok (.getfield 33, 3) := by decide +kernel
theorem dX9_classOf_4 : decode cX9_classOf 4 = .ok (.iload_n 1, 1) := by decide +kernel
theorem dX9_classOf_5 : decode cX9_classOf 5 = .ok (.invokevirtual 110, 3) := by decide +kernel
theorem dX9_classOf_8 : decode cX9_classOf 8 = .ok (.ifCond .ne 5, 3) := by decide +kernel
theorem dX9_classOf_11 : decode cX9_classOf 11 = .ok (.iconst (-1), 1) := by decide +kernel
theorem dX9_classOf_12 : decode cX9_classOf 12 = .ok (.ireturn, 1) := by decide +kernel
theorem dX9_classOf_13 : decode cX9_classOf 13 = .ok (.aload_n 0, 1) := by decide +kernel
theorem dX9_classOf_14 : decode cX9_classOf 14 = .ok (.getfield 81, 3) := by decide +kernel
theorem dX9_classOf_17 : decode cX9_classOf 17 = .ok (.invokevirtual 226, 3) := by decide +kernel
theorem dX9_classOf_20 : decode cX9_classOf 20 = .ok (.pop, 1) := by decide +kernel
theorem dX9_classOf_21 : decode cX9_classOf 21 = .ok (.aload_n 0, 1) := by decide +kernel
theorem dX9_classOf_22 : decode cX9_classOf 22 = .ok (.getfield 81, 3) := by decide +kernel
theorem dX9_classOf_25 : decode cX9_classOf 25 = .ok (.iload_n 1, 1) := by decide +kernel
theorem dX9_classOf_26 : decode cX9_classOf 26 = .ok (.invokevirtual 229, 3) := by decide +kernel
theorem dX9_classOf_29 : decode cX9_classOf 29 = .ok (.ireturn, 1) := by decide +kernel
theorem dX9_undo_0 : decode cX9_undo 0 = .ok (.aload_n 0, 1) := by decide +kernel
theorem dX9_undo_1 : decode cX9_undo 1 = .ok (.getfield 40, 3) := by decide +kernel
theorem dX9_undo_4 : decode cX9_undo 4 = .ok (.aload_n 0, 1) := by decide +kernel
theorem dX9_undo_5 : decode cX9_undo 5 = .ok (.getfield 33, 3) := by decide +kernel
theorem dX9_undo_8 : decode cX9_undo 8 = .ok (.invokevirtual 232, 3) := by decide +kernel
theorem dX9_undo_11 : decode cX9_undo 11 = .ok (.ifCond .eq 13, 3) := by decide +kernel
theorem dX9_undo_14 : decode cX9_undo 14 = .ok (.aload_n 0, 1) := by decide +kernel
theorem dX9_undo_15 : decode cX9_undo 15 = .ok (.getfield 40, 3) := by decide +kernel
theorem dX9_undo_18 : decode cX9_undo 18 = .ok (.getfield 236, 3) := by decide +kernel
theorem dX9_undo_21 : decode cX9_undo 21 = .ok (.goto 5, 3) := by decide +kernel
theorem dX9_undo_24 : decode cX9_undo 24 = .ok (.bipush (-9), 2) := by decide +kernel
theorem dX9_undo_26 : decode cX9_undo 26 = .ok (.ireturn, 1) := by decide +kernel
theorem dX9_fingerprint_0 : decode cX9_fingerprint 0 = .ok (.aload_n 0, 1) := by decide +kernel
theorem dX9_fingerprint_1 : decode cX9_fingerprint 1 = .ok (.getfield 33, 3) := by decide +kernel
theorem dX9_fingerprint_4 : decode cX9_fingerprint 4 = .ok (.ldc2_w 237, 3) := by decide +kernel
theorem dX9_fingerprint_7 : decode cX9_fingerprint 7 = .ok (.invokevirtual 239, 3) := by decide +kernel
theorem dX9_fingerprint_10 : decode cX9_fingerprint 10 = .ok (.ldc2_w 243, 3) := by decide +kernel
theorem dX9_fingerprint_13 : decode cX9_fingerprint 13 = .ok (.lmul, 1) := by decide +kernel
theorem dX9_fingerprint_14 : decode cX9_fingerprint 14 = .ok (.aload_n 0, 1) := by decide +kernel
theorem dX9_fingerprint_15 : decode cX9_fingerprint 15 = .ok (.getfield 15, 3) := by decide +kernel
theorem dX9_fingerprint_18 : decode cX9_fingerprint 18 = .ok (.i2l, 1) := by decide +kernel
theorem dX9_fingerprint_19 : decode cX9_fingerprint 19 = .ok (.ladd, 1) := by decide +kernel
theorem dX9_fingerprint_20 : decode cX9_fingerprint 20 = .ok (.lreturn, 1) := by decide +kernel
theorem dX9_isQuestion_0 : decode cX9_isQuestion 0 = .ok (.aload_n 0, 1) := by decide +kernel
theorem dX9_isQuestion_1 : decode cX9_isQuestion 1 = .ok (.getfield 33, 3) := by decide +kernel
theorem dX9_isQuestion_4 : decode cX9_isQuestion 4 = .ok (.iload_n 1, 1) := by decide +kernel
theorem dX9_isQuestion_5 : decode cX9_isQuestion 5 = .ok (.invokevirtual 245, 3) := by decide +kernel
theorem dX9_isQuestion_8 : decode cX9_isQuestion 8 = .ok (.ifCond .eq 18, 3) := by decide +kernel
theorem dX9_isQuestion_11 : decode cX9_isQuestion 11 = .ok (.aload_n 0, 1) := by decide +kernel
theorem dX9_isQuestion_12 : decode cX9_isQuestion 12 = .ok (.getfield 33, 3) := by decide +kernel
theorem dX9_isQuestion_15 : decode cX9_isQuestion 15 = .ok (.iload_n 2, 1) := by decide +kernel
theorem dX9_isQuestion_16 : decode cX9_isQuestion 16 = .ok (.invokevirtual 110, 3) := by decide +kernel
theorem dX9_isQuestion_19 : decode cX9_isQuestion 19 = .ok (.ifCond .eq 7, 3) := by decide +kernel
theorem dX9_isQuestion_22 : decode cX9_isQuestion 22 = .ok (.iconst 1, 1) := by decide +kernel
theorem dX9_isQuestion_23 : decode cX9_isQuestion 23 = .ok (.goto 4, 3) := by decide +kernel
theorem dX9_isQuestion_26 : decode cX9_isQuestion 26 = .ok (.iconst 0, 1) := by decide +kernel
theorem dX9_isQuestion_27 : decode cX9_isQuestion 27 = .ok (.ireturn, 1) := by decide +kernel
theorem dX9_formulaOf_0 : decode cX9_formulaOf 0 = .ok (.iload_n 1, 1) := by decide +kernel
theorem dX9_formulaOf_1 : decode cX9_formulaOf 1 = .ok (.ifCond .lt 20, 3) := by decide +kernel
theorem dX9_formulaOf_4 : decode cX9_formulaOf 4 = .ok (.iload_n 1, 1) := by decide +kernel
theorem dX9_formulaOf_5 : decode cX9_formulaOf 5 = .ok (.aload_n 0, 1) := by decide +kernel
theorem dX9_formulaOf_6 : decode cX9_formulaOf 6 = .ok (.getfield 15, 3) := by decide +kernel
theorem dX9_formulaOf_9 : decode cX9_formulaOf 9 = .ok (.if_icmp .ge 12, 3) := by decide +kernel
theorem dX9_formulaOf_12 : decode cX9_formulaOf 12 = .ok (.iload_n 1, 1) := by decide +kernel
theorem dX9_formulaOf_13 : decode cX9_formulaOf 13 = .ok (.aload_n 0, 1) := by decide +kernel
theorem dX9_formulaOf_14 : decode cX9_formulaOf 14 = .ok (.getfield 11, 3) := by decide +kernel
theorem dX9_formulaOf_17 : decode cX9_formulaOf 17 = .ok (.arraylength, 1) := by decide +kernel
theorem dX9_formulaOf_18 : decode cX9_formulaOf 18 = .ok (.if_icmp .lt 5, 3) := by decide +kernel
theorem dX9_formulaOf_21 : decode cX9_formulaOf 21 = .ok (.aconst_null, 1) := by decide +kernel
theorem dX9_formulaOf_22 : decode cX9_formulaOf 22 = .ok (.areturn, 1) := by decide +kernel
theorem dX9_formulaOf_23 : decode cX9_formulaOf 23 = .ok (.aload_n 0, 1) := by decide +kernel
theorem dX9_formulaOf_24 : decode cX9_formulaOf 24 = .ok (.getfield 11, 3) := by decide +kernel
theorem dX9_formulaOf_27 : decode cX9_formulaOf 27 = .ok (.iload_n 1, 1) := by decide +kernel
theorem dX9_formulaOf_28 : decode cX9_formulaOf 28 = .ok (.aaload, 1) := by decide +kernel
theorem dX9_formulaOf_29 : decode cX9_formulaOf 29 = .ok (.areturn, 1) := by decide +kernel
theorem dJ6_bitCount_0f7a4_0 : decode cJ6_bitCount_0f7a4 0 = .ok (.iload_n 0, 1) := by decide +kernel
theorem dJ6_bitCount_0f7a4_1 : decode cJ6_bitCount_0f7a4 1 = .ok (.iload_n 0, 1) := by decide +kernel
theorem dJ6_bitCount_0f7a4_2 : decode cJ6_bitCount_0f7a4 2 = .ok (.iconst 1, 1) := by decide +kernel
theorem dJ6_bitCount_0f7a4_3 : decode cJ6_bitCount_0f7a4 3 = .ok (.iushr, 1) := by decide +kernel
theorem dJ6_bitCount_0f7a4_4 : decode cJ6_bitCount_0f7a4 4 = .ok (.ldc_w 265, 3) := by decide +kernel
theorem dJ6_bitCount_0f7a4_7 : decode cJ6_bitCount_0f7a4 7 = .ok (.iand, 1) := by decide +kernel
theorem dJ6_bitCount_0f7a4_8 : decode cJ6_bitCount_0f7a4 8 = .ok (.isub, 1) := by decide +kernel
theorem dJ6_bitCount_0f7a4_9 : decode cJ6_bitCount_0f7a4 9 = .ok (.istore_n 0, 1) := by decide +kernel
theorem dJ6_bitCount_0f7a4_10 : decode cJ6_bitCount_0f7a4 10 = .ok (.iload_n 0, 1) := by decide +kernel
theorem dJ6_bitCount_0f7a4_11 : decode cJ6_bitCount_0f7a4 11 = .ok (.ldc_w 266, 3) := by decide +kernel
theorem dJ6_bitCount_0f7a4_14 : decode cJ6_bitCount_0f7a4 14 = .ok (.iand, 1) := by decide +kernel
theorem dJ6_bitCount_0f7a4_15 : decode cJ6_bitCount_0f7a4 15 = .ok (.iload_n 0, 1) := by decide +kernel
theorem dJ6_bitCount_0f7a4_16 : decode cJ6_bitCount_0f7a4 16 = .ok (.iconst 2, 1) := by decide +kernel
theorem dJ6_bitCount_0f7a4_17 : decode cJ6_bitCount_0f7a4 17 = .ok (.iushr, 1) := by decide +kernel
theorem dJ6_bitCount_0f7a4_18 : decode cJ6_bitCount_0f7a4 18 = .ok (.ldc_w 266, 3) := by decide +kernel
theorem dJ6_bitCount_0f7a4_21 : decode cJ6_bitCount_0f7a4 21 = .ok (.iand, 1) := by decide +kernel
theorem dJ6_bitCount_0f7a4_22 : decode cJ6_bitCount_0f7a4 22 = .ok (.iadd, 1) := by decide +kernel
theorem dJ6_bitCount_0f7a4_23 : decode cJ6_bitCount_0f7a4 23 = .ok (.istore_n 0, 1) := by decide +kernel
theorem dJ6_bitCount_0f7a4_24 : decode cJ6_bitCount_0f7a4 24 = .ok (.iload_n 0, 1) := by decide +kernel
theorem dJ6_bitCount_0f7a4_25 : decode cJ6_bitCount_0f7a4 25 = .ok (.iload_n 0, 1) := by decide +kernel
theorem dJ6_bitCount_0f7a4_26 : decode cJ6_bitCount_0f7a4 26 = .ok (.iconst 4, 1) := by decide +kernel
theorem dJ6_bitCount_0f7a4_27 : decode cJ6_bitCount_0f7a4 27 = .ok (.iushr, 1) := by decide +kernel
theorem dJ6_bitCount_0f7a4_28 : decode cJ6_bitCount_0f7a4 28 = .ok (.iadd, 1) := by decide +kernel
theorem dJ6_bitCount_0f7a4_29 : decode cJ6_bitCount_0f7a4 29 = .ok (.ldc_w 267, 3) := by decide +kernel
theorem dJ6_bitCount_0f7a4_32 : decode cJ6_bitCount_0f7a4 32 = .ok (.iand, 1) := by decide +kernel
theorem dJ6_bitCount_0f7a4_33 : decode cJ6_bitCount_0f7a4 33 = .ok (.istore_n 0, 1) := by decide +kernel
theorem dJ6_bitCount_0f7a4_34 : decode cJ6_bitCount_0f7a4 34 = .ok (.iload_n 0, 1) := by decide +kernel
theorem dJ6_bitCount_0f7a4_35 : decode cJ6_bitCount_0f7a4 35 = .ok (.iload_n 0, 1) := by decide +kernel
theorem dJ6_bitCount_0f7a4_36 : decode cJ6_bitCount_0f7a4 36 = .ok (.bipush 8, 2) := by decide +kernel
theorem dJ6_bitCount_0f7a4_38 : decode cJ6_bitCount_0f7a4 38 = .ok (.iushr, 1) := by decide +kernel
theorem dJ6_bitCount_0f7a4_39 : decode cJ6_bitCount_0f7a4 39 = .ok (.iadd, 1) := by decide +kernel
theorem dJ6_bitCount_0f7a4_40 : decode cJ6_bitCount_0f7a4 40 = .ok (.istore_n 0, 1) := by decide +kernel
theorem dJ6_bitCount_0f7a4_41 : decode cJ6_bitCount_0f7a4 41 = .ok (.iload_n 0, 1) := by decide +kernel
theorem dJ6_bitCount_0f7a4_42 : decode cJ6_bitCount_0f7a4 42 = .ok (.iload_n 0, 1) := by decide +kernel
theorem dJ6_bitCount_0f7a4_43 : decode cJ6_bitCount_0f7a4 43 = .ok (.bipush 16, 2) := by decide +kernel
theorem dJ6_bitCount_0f7a4_45 : decode cJ6_bitCount_0f7a4 45 = .ok (.iushr, 1) := by decide +kernel
theorem dJ6_bitCount_0f7a4_46 : decode cJ6_bitCount_0f7a4 46 = .ok (.iadd, 1) := by decide +kernel
theorem dJ6_bitCount_0f7a4_47 : decode cJ6_bitCount_0f7a4 47 = .ok (.istore_n 0, 1) := by decide +kernel
theorem dJ6_bitCount_0f7a4_48 : decode cJ6_bitCount_0f7a4 48 = .ok (.iload_n 0, 1) := by decide +kernel
theorem dJ6_bitCount_0f7a4_49 : decode cJ6_bitCount_0f7a4 49 = .ok (.bipush 63, 2) := by decide +kernel
theorem dJ6_bitCount_0f7a4_51 : decode cJ6_bitCount_0f7a4 51 = .ok (.iand, 1) := by decide +kernel
theorem dJ6_bitCount_0f7a4_52 : decode cJ6_bitCount_0f7a4 52 = .ok (.ireturn, 1) := by decide +kernel
end
section
theorem dL_cell_0 : decode cL_cell 0 = .ok (.iload_n 1, 1) := by decide +kernel
theorem dL_cell_1 : decode cL_cell 1 = .ok (.aload_n 0, 1) := by decide +kernel
theorem dL_cell_2 : decode cL_cell 2 = .ok (.arraylength, 1) := by decide +kernel
theorem dL_cell_3 : decode cL_cell 3 = .ok (.if_icmp .ge 9, 3) := by decide +kernel
theorem dL_cell_6 : decode cL_cell 6 = .ok (.aload_n 0, 1) := by decide +kernel
theorem dL_cell_7 : decode cL_cell 7 = .ok (.iload_n 1, 1) := by decide +kernel
theorem dL_cell_8 : decode cL_cell 8 = .ok (.iaload, 1) := by decide +kernel
theorem dL_cell_9 : decode cL_cell 9 = .ok (.goto 9, 3) := by decide +kernel
theorem dL_cell_12 : decode cL_cell 12 = .ok (.ldc 7, 2) := by decide +kernel
theorem dL_cell_14 : decode cL_cell 14 = .ok (.iload_n 1, 1) := by decide +kernel
theorem dL_cell_15 : decode cL_cell 15 = .ok (.iconst 3, 1) := by decide +kernel
theorem dL_cell_16 : decode cL_cell 16 = .ok (.iadd, 1) := by decide +kernel
theorem dL_cell_17 : decode cL_cell 17 = .ok (.imul, 1) := by decide +kernel
theorem dL_cell_18 : decode cL_cell 18 = .ok (.ireturn, 1) := by decide +kernel
theorem dL_up_0 : decode cL_up 0 = .ok (.iload_n 0, 1) := by decide +kernel
theorem dL_up_1 : decode cL_up 1 = .ok (.ldc 8, 2) := by decide +kernel
theorem dL_up_3 : decode cL_up 3 = .ok (.iand, 1) := by decide +kernel
theorem dL_up_4 : decode cL_up 4 = .ok (.iload_n 1, 1) := by decide +kernel
theorem dL_up_5 : decode cL_up 5 = .ok (.irem, 1) := by decide +kernel
theorem dL_up_6 : decode cL_up 6 = .ok (.ireturn, 1) := by decide +kernel
theorem dL_power_0 : decode cL_power 0 = .ok (.iload_n 0, 1) := by decide +kernel
theorem dL_power_1 : decode cL_power 1 = .ok (.ifCond .ne 7, 3) := by decide +kernel
theorem dL_power_4 : decode cL_power 4 = .ok (.iconst 1, 1) := by decide +kernel
theorem dL_power_5 : decode cL_power 5 = .ok (.goto 24, 3) := by decide +kernel
theorem dL_power_8 : decode cL_power 8 = .ok (.iload_n 0, 1) := by decide +kernel
theorem dL_power_9 : decode cL_power 9 = .ok (.iconst 1, 1) := by decide +kernel
theorem dL_power_10 : decode cL_power 10 = .ok (.if_icmp .ne 7, 3) := by decide +kernel
theorem dL_power_13 : decode cL_power 13 = .ok (.iconst 3, 1) := by decide +kernel
theorem dL_power_14 : decode cL_power 14 = .ok (.goto 15, 3) := by decide +kernel
theorem dL_power_17 : decode cL_power 17 = .ok (.iload_n 0, 1) := by decide +kernel
theorem dL_power_18 : decode cL_power 18 = .ok (.iconst 2, 1) := by decide +kernel
theorem dL_power_19 : decode cL_power 19 = .ok (.if_icmp .ne 8, 3) := by decide +kernel
theorem dL_power_22 : decode cL_power 22 = .ok (.bipush 9, 2) := by decide +kernel
theorem dL_power_24 : decode cL_power 24 = .ok (.goto 5, 3) := by decide +kernel
theorem dL_power_27 : decode cL_power 27 = .ok (.bipush 27, 2) := by decide +kernel
theorem dL_power_29 : decode cL_power 29 = .ok (.ireturn, 1) := by decide +kernel
theorem dL_fails_0 : decode cL_fails 0 = .ok (.aload_n 0, 1) := by decide +kernel
theorem dL_fails_1 : decode cL_fails 1 = .ok (.invokevirtual 9, 3) := by decide +kernel
theorem dL_fails_4 : decode cL_fails 4 = .ok (.lstore_n 3, 1) := by decide +kernel
theorem dL_fails_5 : decode cL_fails 5 = .ok (.iconst 1, 1) := by decide +kernel
theorem dL_fails_6 : decode cL_fails 6 = .ok (.iload_n 2, 1) := by decide +kernel
theorem dL_fails_7 : decode cL_fails 7 = .ok (.ishl, 1) := by decide +kernel
theorem dL_fails_8 : decode cL_fails 8 = .ok (.istore 5, 2) := by decide +kernel
theorem dL_fails_10 : decode cL_fails 10 = .ok (.aload_n 0, 1) := by decide +kernel
theorem dL_fails_11 : decode cL_fails 11 = .ok (.iload_n 2, 1) := by decide +kernel
theorem dL_fails_12 : decode cL_fails 12 = .ok (.iconst 0, 1) := by decide +kernel
theorem dL_fails_13 : decode cL_fails 13 = .ok (.iconst 1, 1) := by decide +kernel
theorem dL_fails_14 : decode cL_fails 14 = .ok (.invokevirtual 15, 3) := by decide +kernel
theorem dL_fails_17 : decode cL_fails 17 = .ok (.iconst (-1), 1) := by decide +kernel
theorem dL_fails_18 : decode cL_fails 18 = .ok (.if_icmp .ne 85, 3) := by decide +kernel
theorem dL_fails_21 : decode cL_fails 21 = .ok (.aload_n 0, 1) := by decide +kernel
theorem dL_fails_22 : decode cL_fails 22 = .ok (.iconst 0, 1) := by decide +kernel
theorem dL_fails_23 : decode cL_fails 23 = .ok (.iload_n 1, 1) := by decide +kernel
theorem dL_fails_24 : decode cL_fails 24 = .ok (.iconst 1, 1) := by decide +kernel
theorem dL_fails_25 : decode cL_fails 25 = .ok (.invokevirtual 15, 3) := by decide +kernel
theorem dL_fails_28 : decode cL_fails 28 = .ok (.iconst (-1), 1) := by decide +kernel
theorem dL_fails_29 : decode cL_fails 29 = .ok (.if_icmp .ne 74, 3) := by decide +kernel
theorem dL_fails_32 : decode cL_fails 32 = .ok (.aload_n 0, 1) := by decide +kernel
theorem dL_fails_33 : decode cL_fails 33 = .ok (.iconst 0, 1) := by decide +kernel
theorem dL_fails_34 : decode cL_fails 34 = .ok (.iconst 0, 1) := by decide +kernel
theorem dL_fails_35 : decode cL_fails 35 = .ok (.iconst 4, 1) := by decide +kernel
theorem dL_fails_36 : decode cL_fails 36 = .ok (.invokevirtual 15, 3) := by decide +kernel
theorem dL_fails_39 : decode cL_fails 39 = .ok (.iconst (-1), 1) := by decide +kernel
theorem dL_fails_40 : decode cL_fails 40 = .ok (.if_icmp .ne 63, 3) := by decide +kernel
theorem dL_fails_43 : decode cL_fails 43 = .ok (.aload_n 0, 1) := by decide +kernel
theorem dL_fails_44 : decode cL_fails 44 = .ok (.iconst 0, 1) := by decide +kernel
theorem dL_fails_45 : decode cL_fails 45 = .ok (.bipush 65, 2) := by decide +kernel
theorem dL_fails_47 : decode cL_fails 47 = .ok (.iconst 1, 1) := by decide +kernel
theorem dL_fails_48 : decode cL_fails 48 = .ok (.invokevirtual 19, 3) := by decide +kernel
theorem dL_fails_51 : decode cL_fails 51 = .ok (.iconst (-1), 1) := by decide +kernel
theorem dL_fails_52 : decode cL_fails 52 = .ok (.if_icmp .ne 51, 3) := by decide +kernel
theorem dL_fails_55 : decode cL_fails 55 = .ok (.aload_n 0, 1) := by decide +kernel
theorem dL_fails_56 : decode cL_fails 56 = .ok (.iconst (-1), 1) := by decide +kernel
theorem dL_fails_57 : decode cL_fails 57 = .ok (.invokevirtual 23, 3) := by decide +kernel
theorem dL_fails_60 : decode cL_fails 60 = .ok (.iconst (-1), 1) := by decide +kernel
theorem dL_fails_61 : decode cL_fails 61 = .ok (.if_icmp .ne 42, 3) := by decide +kernel
theorem dL_fails_64 : decode cL_fails 64 = .ok (.aload_n 0, 1) := by decide +kernel
theorem dL_fails_65 : decode cL_fails 65 = .ok (.iconst 0, 1) := by decide +kernel
theorem dL_fails_66 : decode cL_fails 66 = .ok (.iconst 0, 1) := by decide +kernel
theorem dL_fails_67 : decode cL_fails 67 = .ok (.iload_n 2, 1) := by decide +kernel
theorem dL_fails_68 : decode cL_fails 68 = .ok (.invokevirtual 27, 3) := by decide +kernel
theorem dL_fails_71 : decode cL_fails 71 = .ok (.iconst (-1), 1) := by decide +kernel
theorem dL_fails_72 : decode cL_fails 72 = .ok (.if_icmp .ne 31, 3) := by decide +kernel
theorem dL_fails_75 : decode cL_fails 75 = .ok (.aload_n 0, 1) := by decide +kernel
theorem dL_fails_76 : decode cL_fails 76 = .ok (.iconst 0, 1) := by decide +kernel
theorem dL_fails_77 : decode cL_fails 77 = .ok (.bipush 81, 2) := by decide +kernel
theorem dL_fails_79 : decode cL_fails 79 = .ok (.iconst 0, 1) := by decide +kernel
theorem dL_fails_80 : decode cL_fails 80 = .ok (.invokevirtual 27, 3) := by decide +kernel
theorem dL_fails_83 : decode cL_fails 83 = .ok (.iconst (-1), 1) := by decide +kernel
theorem dL_fails_84 : decode cL_fails 84 = .ok (.if_icmp .ne 19, 3) := by decide +kernel
theorem dL_fails_87 : decode cL_fails 87 = .ok (.aload_n 0, 1) := by decide +kernel
theorem dL_fails_88 : decode cL_fails 88 = .ok (.iconst 0, 1) := by decide +kernel
theorem dL_fails_89 : decode cL_fails 89 = .ok (.iconst 0, 1) := by decide +kernel
theorem dL_fails_90 : decode cL_fails 90 = .ok (.iconst 3, 1) := by decide +kernel
theorem dL_fails_91 : decode cL_fails 91 = .ok (.iconst 0, 1) := by decide +kernel
theorem dL_fails_92 : decode cL_fails 92 = .ok (.invokevirtual 30, 3) := by decide +kernel
theorem dL_fails_95 : decode cL_fails 95 = .ok (.iconst (-1), 1) := by decide +kernel
theorem dL_fails_96 : decode cL_fails 96 = .ok (.if_icmp .ne 7, 3) := by decide +kernel
theorem dL_fails_99 : decode cL_fails 99 = .ok (.iconst 1, 1) := by decide +kernel
theorem dL_fails_100 : decode cL_fails 100 = .ok (.goto 4, 3) := by decide +kernel
theorem dL_fails_103 : decode cL_fails 103 = .ok (.iconst 0, 1) := by decide +kernel
theorem dL_fails_104 : decode cL_fails 104 = .ok (.istore 6, 2) := by decide +kernel
theorem dL_fails_106 : decode cL_fails 106 = .ok (.iload 6, 2) := by decide +kernel
theorem dL_fails_108 : decode cL_fails 108 = .ok (.ifCond .eq 125, 3) := by decide +kernel
theorem dL_fails_111 : decode cL_fails 111 = .ok (.aload_n 0, 1) := by decide +kernel
theorem dL_fails_112 : decode cL_fails 112 = .ok (.iload_n 2, 1) := by decide +kernel
theorem dL_fails_113 : decode cL_fails 113 = .ok (.iconst 0, 1) := by decide +kernel
theorem dL_fails_114 : decode cL_fails 114 = .ok (.invokevirtual 34, 3) := by decide +kernel
theorem dL_fails_117 : decode cL_fails 117 = .ok (.iconst (-1), 1) := by decide +kernel
theorem dL_fails_118 : decode cL_fails 118 = .ok (.if_icmp .ne 115, 3) := by decide +kernel
theorem dL_fails_121 : decode cL_fails 121 = .ok (.aload_n 0, 1) := by decide +kernel
theorem dL_fails_122 : decode cL_fails 122 = .ok (.iconst 1, 1) := by decide +kernel
theorem dL_fails_123 : decode cL_fails 123 = .ok (.iload_n 1, 1) := by decide +kernel
theorem dL_fails_124 : decode cL_fails 124 = .ok (.ishl, 1) := by decide +kernel
theorem dL_fails_125 : decode cL_fails 125 = .ok (.iconst 0, 1) := by decide +kernel
theorem dL_fails_126 : decode cL_fails 126 = .ok (.iconst 0, 1) := by decide +kernel
theorem dL_fails_127 : decode cL_fails 127 = .ok (.invokevirtual 38, 3) := by decide +kernel
theorem dL_fails_130 : decode cL_fails 130 = .ok (.iconst (-1), 1) := by decide +kernel
theorem dL_fails_131 : decode cL_fails 131 = .ok (.if_icmp .ne 102, 3) := by decide +kernel
theorem dL_fails_134 : decode cL_fails 134 = .ok (.aload_n 0, 1) := by decide +kernel
theorem dL_fails_135 : decode cL_fails 135 = .ok (.iconst 0, 1) := by decide +kernel
theorem dL_fails_136 : decode cL_fails 136 = .ok (.iconst 0, 1) := by decide +kernel
theorem dL_fails_137 : decode cL_fails 137 = .ok (.iload 5, 2) := by decide +kernel
theorem dL_fails_139 : decode cL_fails 139 = .ok (.invokevirtual 38, 3) := by decide +kernel
theorem dL_fails_142 : decode cL_fails 142 = .ok (.iconst (-1), 1) := by decide +kernel
theorem dL_fails_143 : decode cL_fails 143 = .ok (.if_icmp .ne 90, 3) := by decide +kernel
theorem dL_fails_146 : decode cL_fails 146 = .ok (.aload_n 0, 1) := by decide +kernel
theorem dL_fails_147 : decode cL_fails 147 = .ok (.iconst 0, 1) := by decide +kernel
theorem dL_fails_148 : decode cL_fails 148 = .ok (.iconst 0, 1) := by decide +kernel
theorem dL_fails_149 : decode cL_fails 149 = .ok (.iconst 1, 1) := by decide +kernel
theorem dL_fails_150 : decode cL_fails 150 = .ok (.iconst 0, 1) := by decide +kernel
theorem dL_fails_151 : decode cL_fails 151 = .ok (.invokevirtual 41, 3) := by decide +kernel
theorem dL_fails_154 : decode cL_fails 154 = .ok (.iconst (-1), 1) := by decide +kernel
theorem dL_fails_155 : decode cL_fails 155 = .ok (.if_icmp .ne 78, 3) := by decide +kernel
theorem dL_fails_158 : decode cL_fails 158 = .ok (.aload_n 0, 1) := by decide +kernel
theorem dL_fails_159 : decode cL_fails 159 = .ok (.iconst (-1), 1) := by decide +kernel
theorem dL_fails_160 : decode cL_fails 160 = .ok (.iconst 0, 1) := by decide +kernel
theorem dL_fails_161 : decode cL_fails 161 = .ok (.invokevirtual 44, 3) := by decide +kernel
theorem dL_fails_164 : decode cL_fails 164 = .ok (.iconst (-1), 1) := by decide +kernel
theorem dL_fails_165 : decode cL_fails 165 = .ok (.if_icmp .ne 68, 3) := by decide +kernel
theorem dL_fails_168 : decode cL_fails 168 = .ok (.aload_n 0, 1) := by decide +kernel
theorem dL_fails_169 : decode cL_fails 169 = .ok (.bipush 31, 2) := by decide +kernel
theorem dL_fails_171 : decode cL_fails 171 = .ok (.invokevirtual 47, 3) := by decide +kernel
theorem dL_fails_174 : decode cL_fails 174 = .ok (.iconst (-1), 1) := by decide +kernel
theorem dL_fails_175 : decode cL_fails 175 = .ok (.if_icmp .ne 58, 3) := by decide +kernel
theorem dL_fails_178 : decode cL_fails 178 = .ok (.aload_n 0, 1) := by decide +kernel
theorem dL_fails_179 : decode cL_fails 179 = .ok (.bipush 8, 2) := by decide +kernel
theorem dL_fails_181 : decode cL_fails 181 = .ok (.iconst 0, 1) := by decide +kernel
theorem dL_fails_182 : decode cL_fails 182 = .ok (.invokevirtual 50, 3) := by decide +kernel
theorem dL_fails_185 : decode cL_fails 185 = .ok (.iconst (-1), 1) := by decide +kernel
theorem dL_fails_186 : decode cL_fails 186 = .ok (.if_icmp .ne 47, 3) := by decide +kernel
theorem dL_fails_189 : decode cL_fails 189 = .ok (.aload_n 0, 1) := by decide +kernel
theorem dL_fails_190 : decode cL_fails 190 = .ok (.iconst (-1), 1) := by decide +kernel
theorem dL_fails_191 : decode cL_fails 191 = .ok (.iconst 0, 1) := by decide +kernel
theorem dL_fails_192 : decode cL_fails 192 = .ok (.invokevirtual 53, 3) := by decide +kernel
theorem dL_fails_195 : decode cL_fails 195 = .ok (.iconst (-1), 1) := by decide +kernel
theorem dL_fails_196 : decode cL_fails 196 = .ok (.if_icmp .ne 37, 3) := by decide +kernel
theorem dL_fails_199 : decode cL_fails 199 = .ok (.aload_n 0, 1) := by decide +kernel
theorem dL_fails_200 : decode cL_fails 200 = .ok (.iconst 0, 1) := by decide +kernel
theorem dL_fails_201 : decode cL_fails 201 = .ok (.iconst 0, 1) := by decide +kernel
theorem dL_fails_202 : decode cL_fails 202 = .ok (.iconst 3, 1) := by decide +kernel
theorem dL_fails_203 : decode cL_fails 203 = .ok (.invokevirtual 56, 3) := by decide +kernel
theorem dL_fails_206 : decode cL_fails 206 = .ok (.iconst (-1), 1) := by decide +kernel
theorem dL_fails_207 : decode cL_fails 207 = .ok (.if_icmp .ne 26, 3) := by decide +kernel
theorem dL_fails_210 : decode cL_fails 210 = .ok (.aload_n 0, 1) := by decide +kernel
theorem dL_fails_211 : decode cL_fails 211 = .ok (.iconst 0, 1) := by decide +kernel
theorem dL_fails_212 : decode cL_fails 212 = .ok (.iload_n 1, 1) := by decide +kernel
theorem dL_fails_213 : decode cL_fails 213 = .ok (.invokevirtual 59, 3) := by decide +kernel
theorem dL_fails_216 : decode cL_fails 216 = .ok (.iconst (-1), 1) := by decide +kernel
theorem dL_fails_217 : decode cL_fails 217 = .ok (.if_icmp .ne 16, 3) := by decide +kernel
theorem dL_fails_220 : decode cL_fails 220 = .ok (.aload_n 0, 1) := by decide +kernel
theorem dL_fails_221 : decode cL_fails 221 = .ok (.iload_n 2, 1) := by decide +kernel
theorem dL_fails_222 : decode cL_fails 222 = .ok (.invokevirtual 62, 3) := by decide +kernel
theorem dL_fails_225 : decode cL_fails 225 = .ok (.iconst (-1), 1) := by decide +kernel
theorem dL_fails_226 : decode cL_fails 226 = .ok (.if_icmp .ne 7, 3) := by decide +kernel
theorem dL_fails_229 : decode cL_fails 229 = .ok (.iconst 1, 1) := by decide +kernel
theorem dL_fails_230 : decode cL_fails 230 = .ok (.goto 4, 3) := by decide +kernel
theorem dL_fails_233 : decode cL_fails 233 = .ok (.iconst 0, 1) := by decide +kernel
theorem dL_fails_234 : decode cL_fails 234 = .ok (.istore 6, 2) := by decide +kernel
theorem dL_fails_236 : decode cL_fails 236 = .ok (.iload 6, 2) := by decide +kernel
theorem dL_fails_238 : decode cL_fails 238 = .ok (.ifCond .eq 16, 3) := by decide +kernel
theorem dL_fails_241 : decode cL_fails 241 = .ok (.aload_n 0, 1) := by decide +kernel
theorem dL_fails_242 : decode cL_fails 242 = .ok (.invokevirtual 9, 3) := by decide +kernel
theorem dL_fails_245 : decode cL_fails 245 = .ok (.lload_n 3, 1) := by decide +kernel
theorem dL_fails_246 : decode cL_fails 246 = .ok (.lcmp, 1) := by decide +kernel
theorem dL_fails_247 : decode cL_fails 247 = .ok (.ifCond .ne 7, 3) := by decide +kernel
theorem dL_fails_250 : decode cL_fails 250 = .ok (.iconst 1, 1) := by decide +kernel
theorem dL_fails_251 : decode cL_fails 251 = .ok (.goto 4, 3) := by decide +kernel
theorem dL_fails_254 : decode cL_fails 254 = .ok (.iconst 0, 1) := by decide +kernel
theorem dL_fails_255 : decode cL_fails 255 = .ok (.ireturn, 1) := by decide +kernel
theorem dL_builds_0 : decode cL_builds 0 = .ok (.iconst 0, 1) := by decide +kernel
theorem dL_builds_1 : decode cL_builds 1 = .ok (.istore 4, 2) := by decide +kernel
theorem dL_builds_3 : decode cL_builds 3 = .ok (.iload 4, 2) := by decide +kernel
theorem dL_builds_5 : decode cL_builds 5 = .ok (.iload_n 3, 1) := by decide +kernel
theorem dL_builds_6 : decode cL_builds 6 = .ok (.if_icmp .ge 20, 3) := by decide +kernel
theorem dL_builds_9 : decode cL_builds 9 = .ok (.aload_n 0, 1) := by decide +kernel
theorem dL_builds_10 : decode cL_builds 10 = .ok (.invokevirtual 65, 3) := by decide +kernel
theorem dL_builds_13 : decode cL_builds 13 = .ok (.iload 4, 2) := by decide +kernel
theorem dL_builds_15 : decode cL_builds 15 = .ok (.if_icmp .eq 5, 3) := by decide +kernel
theorem dL_builds_18 : decode cL_builds 18 = .ok (.iconst 0, 1) := by decide +kernel
theorem dL_builds_19 : decode cL_builds 19 = .ok (.ireturn, 1) := by decide +kernel
theorem dL_builds_20 : decode cL_builds 20 = .ok (.iinc 4 1, 3) := by decide +kernel
theorem dL_builds_23 : decode cL_builds 23 = .ok (.goto (-20), 3) := by decide +kernel
theorem dL_builds_26 : decode cL_builds 26 = .ok (.iconst 0, 1) := by decide +kernel
theorem dL_builds_27 : decode cL_builds 27 = .ok (.istore 4, 2) := by decide +kernel
theorem dL_builds_29 : decode cL_builds 29 = .ok (.iload 4, 2) := by decide +kernel
theorem dL_builds_31 : decode cL_builds 31 = .ok (.iload_n 3, 1) := by decide +kernel
theorem dL_builds_32 : decode cL_builds 32 = .ok (.if_icmp .ge 257, 3) := by decide +kernel
theorem dL_builds_35 : decode cL_builds 35 = .ok (.aload_n 1, 1) := by decide +kernel
theorem dL_builds_36 : decode cL_builds 36 = .ok (.iconst 2, 1) := by decide +kernel
theorem dL_builds_37 : decode cL_builds 37 = .ok (.iload 4, 2) := by decide +kernel
theorem dL_builds_39 : decode cL_builds 39 = .ok (.iadd, 1) := by decide +kernel
theorem dL_builds_40 : decode cL_builds 40 = .ok (.invokestatic 69, 3) := by decide +kernel
theorem dL_builds_43 : decode cL_builds 43 = .ok (.istore 5, 2) := by decide +kernel
theorem dL_builds_45 : decode cL_builds 45 = .ok (.iconst 0, 1) := by decide +kernel
theorem dL_builds_46 : decode cL_builds 46 = .ok (.istore 6, 2) := by decide +kernel
theorem dL_builds_48 : decode cL_builds 48 = .ok (.iload 6, 2) := by decide +kernel
theorem dL_builds_50 : decode cL_builds 50 = .ok (.iload_n 2, 1) := by decide +kernel
theorem dL_builds_51 : decode cL_builds 51 = .ok (.if_icmp .ge 53, 3) := by decide +kernel
theorem dL_builds_54 : decode cL_builds 54 = .ok (.iconst 1, 1) := by decide +kernel
theorem dL_builds_55 : decode cL_builds 55 = .ok (.iload 5, 2) := by decide +kernel
theorem dL_builds_57 : decode cL_builds 57 = .ok (.iconst 2, 1) := by decide +kernel
theorem dL_builds_58 : decode cL_builds 58 = .ok (.iload 6, 2) := by decide +kernel
theorem dL_builds_60 : decode cL_builds 60 = .ok (.imul, 1) := by decide +kernel
theorem dL_builds_61 : decode cL_builds 61 = .ok (.ishr, 1) := by decide +kernel
theorem dL_builds_62 : decode cL_builds 62 = .ok (.iconst 3, 1) := by decide +kernel
theorem dL_builds_63 : decode cL_builds 63 = .ok (.invokestatic 75, 3) := by decide +kernel
theorem dL_builds_66 : decode cL_builds 66 = .ok (.iadd, 1) := by decide +kernel
theorem dL_builds_67 : decode cL_builds 67 = .ok (.istore 7, 2) := by decide +kernel
theorem dL_builds_69 : decode cL_builds 69 = .ok (.aload_n 0, 1) := by decide +kernel
theorem dL_builds_70 : decode cL_builds 70 = .ok (.iload 4, 2) := by decide +kernel
theorem dL_builds_72 : decode cL_builds 72 = .ok (.iload 6, 2) := by decide +kernel
theorem dL_builds_74 : decode cL_builds 74 = .ok (.iload 7, 2) := by decide +kernel
theorem dL_builds_76 : decode cL_builds 76 = .ok (.invokevirtual 15, 3) := by decide +kernel
theorem dL_builds_79 : decode cL_builds 79 = .ok (.iconst 1, 1) := by decide +kernel
theorem dL_builds_80 : decode cL_builds 80 = .ok (.if_icmp .ne 16, 3) := by decide +kernel
theorem dL_builds_83 : decode cL_builds 83 = .ok (.aload_n 0, 1) := by decide +kernel
theorem dL_builds_84 : decode cL_builds 84 = .ok (.iload 4, 2) := by decide +kernel
theorem dL_builds_86 : decode cL_builds 86 = .ok (.iload 6, 2) := by decide +kernel
theorem dL_builds_88 : decode cL_builds 88 = .ok (.invokevirtual 78, 3) := by decide +kernel
theorem dL_builds_91 : decode cL_builds 91 = .ok (.iload 7, 2) := by decide +kernel
theorem dL_builds_93 : decode cL_builds 93 = .ok (.if_icmp .eq 5, 3) := by decide +kernel
theorem dL_builds_96 : decode cL_builds 96 = .ok (.iconst 0, 1) := by decide +kernel
theorem dL_builds_97 : decode cL_builds 97 = .ok (.ireturn, 1) := by decide +kernel
theorem dL_builds_98 : decode cL_builds 98 = .ok (.iinc 6 1, 3) := by decide +kernel
theorem dL_builds_101 : decode cL_builds 101 = .ok (.goto (-53), 3) := by decide +kernel
theorem dL_builds_104 : decode cL_builds 104 = .ok (.aload_n 0, 1) := by decide +kernel
theorem dL_builds_105 : decode cL_builds 105 = .ok (.iload 4, 2) := by decide +kernel
theorem dL_builds_107 : decode cL_builds 107 = .ok (.bipush 97, 2) := by decide +kernel
theorem dL_builds_109 : decode cL_builds 109 = .ok (.iload 5, 2) := by decide +kernel
theorem dL_builds_111 : decode cL_builds 111 = .ok (.bipush 10, 2) := by decide +kernel
theorem dL_builds_113 : decode cL_builds 113 = .ok (.ishr, 1) := by decide +kernel
theorem dL_builds_114 : decode cL_builds 114 = .ok (.iconst 1, 1) := by decide +kernel
theorem dL_builds_115 : decode cL_builds 115 = .ok (.iand, 1) := by decide +kernel
theorem dL_builds_116 : decode cL_builds 116 = .ok (.iconst 1, 1) := by decide +kernel
theorem dL_builds_117 : decode cL_builds 117 = .ok (.if_icmp .ne 7, 3) := by decide +kernel
theorem dL_builds_120 : decode cL_builds 120 = .ok (.iconst 1, 1) := by decide +kernel
theorem dL_builds_121 : decode cL_builds 121 = .ok (.goto 4, 3) := by decide +kernel
theorem dL_builds_124 : decode cL_builds 124 = .ok (.iconst 0, 1) := by decide +kernel
theorem dL_builds_125 : decode cL_builds 125 = .ok (.invokevirtual 19, 3) := by decide +kernel
theorem dL_builds_128 : decode cL_builds 128 = .ok (.ifCond .ne 46, 3) := by decide +kernel
theorem dL_builds_131 : decode cL_builds 131 = .ok (.aload_n 0, 1) := by decide +kernel
theorem dL_builds_132 : decode cL_builds 132 = .ok (.iload 4, 2) := by decide +kernel
theorem dL_builds_134 : decode cL_builds 134 = .ok (.bipush 98, 2) := by decide +kernel
theorem dL_builds_136 : decode cL_builds 136 = .ok (.iload 5, 2) := by decide +kernel
theorem dL_builds_138 : decode cL_builds 138 = .ok (.bipush 11, 2) := by decide +kernel
theorem dL_builds_140 : decode cL_builds 140 = .ok (.ishr, 1) := by decide +kernel
theorem dL_builds_141 : decode cL_builds 141 = .ok (.iconst 1, 1) := by decide +kernel
theorem dL_builds_142 : decode cL_builds 142 = .ok (.iand, 1) := by decide +kernel
theorem dL_builds_143 : decode cL_builds 143 = .ok (.iconst 1, 1) := by decide +kernel
theorem dL_builds_144 : decode cL_builds 144 = .ok (.if_icmp .ne 7, 3) := by decide +kernel
theorem dL_builds_147 : decode cL_builds 147 = .ok (.iconst 1, 1) := by decide +kernel
theorem dL_builds_148 : decode cL_builds 148 = .ok (.goto 4, 3) := by decide +kernel
theorem dL_builds_151 : decode cL_builds 151 = .ok (.iconst 0, 1) := by decide +kernel
theorem dL_builds_152 : decode cL_builds 152 = .ok (.invokevirtual 19, 3) := by decide +kernel
theorem dL_builds_155 : decode cL_builds 155 = .ok (.ifCond .ne 19, 3) := by decide +kernel
theorem dL_builds_158 : decode cL_builds 158 = .ok (.aload_n 0, 1) := by decide +kernel
theorem dL_builds_159 : decode cL_builds 159 = .ok (.iload 4, 2) := by decide +kernel
theorem dL_builds_161 : decode cL_builds 161 = .ok (.invokevirtual 23, 3) := by decide +kernel
theorem dL_builds_164 : decode cL_builds 164 = .ok (.iload 5, 2) := by decide +kernel
theorem dL_builds_166 : decode cL_builds 166 = .ok (.bipush 10, 2) := by decide +kernel
theorem dL_builds_168 : decode cL_builds 168 = .ok (.ishr, 1) := by decide +kernel
theorem dL_builds_169 : decode cL_builds 169 = .ok (.iconst 3, 1) := by decide +kernel
theorem dL_builds_170 : decode cL_builds 170 = .ok (.iand, 1) := by decide +kernel
theorem dL_builds_171 : decode cL_builds 171 = .ok (.if_icmp .eq 5, 3) := by decide +kernel
theorem dL_builds_174 : decode cL_builds 174 = .ok (.iconst 0, 1) := by decide +kernel
theorem dL_builds_175 : decode cL_builds 175 = .ok (.ireturn, 1) := by decide +kernel
theorem dL_builds_176 : decode cL_builds 176 = .ok (.iconst 0, 1) := by decide +kernel
theorem dL_builds_177 : decode cL_builds 177 = .ok (.istore 6, 2) := by decide +kernel
theorem dL_builds_179 : decode cL_builds 179 = .ok (.iconst 0, 1) := by decide +kernel
theorem dL_builds_180 : decode cL_builds 180 = .ok (.istore 7, 2) := by decide +kernel
theorem dL_builds_182 : decode cL_builds 182 = .ok (.iload 7, 2) := by decide +kernel
theorem dL_builds_184 : decode cL_builds 184 = .ok (.bipush 27, 2) := by decide +kernel
theorem dL_builds_186 : decode cL_builds 186 = .ok (.if_icmp .ge 84, 3) := by decide +kernel
theorem dL_builds_189 : decode cL_builds 189 = .ok (.aload_n 0, 1) := by decide +kernel
theorem dL_builds_190 : decode cL_builds 190 = .ok (.iload 4, 2) := by decide +kernel
theorem dL_builds_192 : decode cL_builds 192 = .ok (.iload 7, 2) := by decide +kernel
theorem dL_builds_194 : decode cL_builds 194 = .ok (.invokevirtual 34, 3) := by decide +kernel
theorem dL_builds_197 : decode cL_builds 197 = .ok (.istore 8, 2) := by decide +kernel
theorem dL_builds_199 : decode cL_builds 199 = .ok (.iload 8, 2) := by decide +kernel
theorem dL_builds_201 : decode cL_builds 201 = .ok (.ifCond .lt 63, 3) := by decide +kernel
theorem dL_builds_204 : decode cL_builds 204 = .ok (.aload_n 1, 1) := by decide +kernel
theorem dL_builds_205 : decode cL_builds 205 = .ok (.bipush 8, 2) := by decide +kernel
theorem dL_builds_207 : decode cL_builds 207 = .ok (.iload 7, 2) := by decide +kernel
theorem dL_builds_209 : decode cL_builds 209 = .ok (.iadd, 1) := by decide +kernel
theorem dL_builds_210 : decode cL_builds 210 = .ok (.invokestatic 69, 3) := by decide +kernel
theorem dL_builds_213 : decode cL_builds 213 = .ok (.iconst 3, 1) := by decide +kernel
theorem dL_builds_214 : decode cL_builds 214 = .ok (.iload 4, 2) := by decide +kernel
theorem dL_builds_216 : decode cL_builds 216 = .ok (.imul, 1) := by decide +kernel
theorem dL_builds_217 : decode cL_builds 217 = .ok (.ishr, 1) := by decide +kernel
theorem dL_builds_218 : decode cL_builds 218 = .ok (.iload_n 3, 1) := by decide +kernel
theorem dL_builds_219 : decode cL_builds 219 = .ok (.invokestatic 75, 3) := by decide +kernel
theorem dL_builds_222 : decode cL_builds 222 = .ok (.istore 9, 2) := by decide +kernel
theorem dL_builds_224 : decode cL_builds 224 = .ok (.iinc 6 1, 3) := by decide +kernel
theorem dL_builds_227 : decode cL_builds 227 = .ok (.iload 8, 2) := by decide +kernel
theorem dL_builds_229 : decode cL_builds 229 = .ok (.iload 4, 2) := by decide +kernel
theorem dL_builds_231 : decode cL_builds 231 = .ok (.if_icmp .ne 31, 3) := by decide +kernel
theorem dL_builds_234 : decode cL_builds 234 = .ok (.aload_n 0, 1) := by decide +kernel
theorem dL_builds_235 : decode cL_builds 235 = .ok (.iload 4, 2) := by decide +kernel
theorem dL_builds_237 : decode cL_builds 237 = .ok (.iload 7, 2) := by decide +kernel
theorem dL_builds_239 : decode cL_builds 239 = .ok (.iload 9, 2) := by decide +kernel
theorem dL_builds_241 : decode cL_builds 241 = .ok (.invokevirtual 27, 3) := by decide +kernel
theorem dL_builds_244 : decode cL_builds 244 = .ok (.iload 4, 2) := by decide +kernel
theorem dL_builds_246 : decode cL_builds 246 = .ok (.if_icmp .ne 16, 3) := by decide +kernel
theorem dL_builds_249 : decode cL_builds 249 = .ok (.aload_n 0, 1) := by decide +kernel
theorem dL_builds_250 : decode cL_builds 250 = .ok (.iload 4, 2) := by decide +kernel
theorem dL_builds_252 : decode cL_builds 252 = .ok (.iload 7, 2) := by decide +kernel
theorem dL_builds_254 : decode cL_builds 254 = .ok (.invokevirtual 34, 3) := by decide +kernel
theorem dL_builds_257 : decode cL_builds 257 = .ok (.iload 9, 2) := by decide +kernel
theorem dL_builds_259 : decode cL_builds 259 = .ok (.if_icmp .eq 5, 3) := by decide +kernel
theorem dL_builds_262 : decode cL_builds 262 = .ok (.iconst 0, 1) := by decide +kernel
theorem dL_builds_263 : decode cL_builds 263 = .ok (.ireturn, 1) := by decide +kernel
theorem dL_builds_264 : decode cL_builds 264 = .ok (.iinc 7 1, 3) := by decide +kernel
theorem dL_builds_267 : decode cL_builds 267 = .ok (.goto (-85), 3) := by decide +kernel
theorem dL_builds_270 : decode cL_builds 270 = .ok (.aload_n 0, 1) := by decide +kernel
theorem dL_builds_271 : decode cL_builds 271 = .ok (.iload 4, 2) := by decide +kernel
theorem dL_builds_273 : decode cL_builds 273 = .ok (.invokevirtual 81, 3) := by decide +kernel
theorem dL_builds_276 : decode cL_builds 276 = .ok (.iload 6, 2) := by decide +kernel
theorem dL_builds_278 : decode cL_builds 278 = .ok (.if_icmp .eq 5, 3) := by decide +kernel
theorem dL_builds_281 : decode cL_builds 281 = .ok (.iconst 0, 1) := by decide +kernel
theorem dL_builds_282 : decode cL_builds 282 = .ok (.ireturn, 1) := by decide +kernel
theorem dL_builds_283 : decode cL_builds 283 = .ok (.iinc 4 1, 3) := by decide +kernel
theorem dL_builds_286 : decode cL_builds 286 = .ok (.goto (-257), 3) := by decide +kernel
theorem dL_builds_289 : decode cL_builds 289 = .ok (.aload_n 0, 1) := by decide +kernel
theorem dL_builds_290 : decode cL_builds 290 = .ok (.invokevirtual 84, 3) := by decide +kernel
theorem dL_builds_293 : decode cL_builds 293 = .ok (.iload_n 3, 1) := by decide +kernel
theorem dL_builds_294 : decode cL_builds 294 = .ok (.if_icmp .ne 7, 3) := by decide +kernel
theorem dL_builds_297 : decode cL_builds 297 = .ok (.iconst 1, 1) := by decide +kernel
theorem dL_builds_298 : decode cL_builds 298 = .ok (.goto 4, 3) := by decide +kernel
theorem dL_builds_301 : decode cL_builds 301 = .ok (.iconst 0, 1) := by decide +kernel
theorem dL_builds_302 : decode cL_builds 302 = .ok (.ireturn, 1) := by decide +kernel
theorem dL_steps_0 : decode cL_steps 0 = .ok (.iload_n 3, 1) := by decide +kernel
theorem dL_steps_1 : decode cL_steps 1 = .ok (.iload_n 2, 1) := by decide +kernel
theorem dL_steps_2 : decode cL_steps 2 = .ok (.invokestatic 75, 3) := by decide +kernel
theorem dL_steps_5 : decode cL_steps 5 = .ok (.istore 4, 2) := by decide +kernel
theorem dL_steps_7 : decode cL_steps 7 = .ok (.iload_n 3, 1) := by decide +kernel
theorem dL_steps_8 : decode cL_steps 8 = .ok (.iconst 3, 1) := by decide +kernel
theorem dL_steps_9 : decode cL_steps 9 = .ok (.ishr, 1) := by decide +kernel
theorem dL_steps_10 : decode cL_steps 10 = .ok (.iconst 1, 1) := by decide +kernel
theorem dL_steps_11 : decode cL_steps 11 = .ok (.iload_n 2, 1) := by decide +kernel
theorem dL_steps_12 : decode cL_steps 12 = .ok (.ishl, 1) := by decide +kernel
theorem dL_steps_13 : decode cL_steps 13 = .ok (.invokestatic 75, 3) := by decide +kernel
theorem dL_steps_16 : decode cL_steps 16 = .ok (.istore 5, 2) := by decide +kernel
theorem dL_steps_18 : decode cL_steps 18 = .ok (.iconst 0, 1) := by decide +kernel
theorem dL_steps_19 : decode cL_steps 19 = .ok (.istore 6, 2) := by decide +kernel
theorem dL_steps_21 : decode cL_steps 21 = .ok (.iload 6, 2) := by decide +kernel
theorem dL_steps_23 : decode cL_steps 23 = .ok (.iconst 1, 1) := by decide +kernel
theorem dL_steps_24 : decode cL_steps 24 = .ok (.iload_n 1, 1) := by decide +kernel
theorem dL_steps_25 : decode cL_steps 25 = .ok (.ishl, 1) := by decide +kernel
theorem dL_steps_26 : decode cL_steps 26 = .ok (.if_icmp .ge 243, 3) := by decide +kernel
theorem dL_steps_29 : decode cL_steps 29 = .ok (.aload_n 0, 1) := by decide +kernel
theorem dL_steps_30 : decode cL_steps 30 = .ok (.iload 6, 2) := by decide +kernel
theorem dL_steps_32 : decode cL_steps 32 = .ok (.iload 4, 2) := by decide +kernel
theorem dL_steps_34 : decode cL_steps 34 = .ok (.iload 5, 2) := by decide +kernel
theorem dL_steps_36 : decode cL_steps 36 = .ok (.invokevirtual 38, 3) := by decide +kernel
theorem dL_steps_39 : decode cL_steps 39 = .ok (.istore 7, 2) := by decide +kernel
theorem dL_steps_41 : decode cL_steps 41 = .ok (.aload_n 0, 1) := by decide +kernel
theorem dL_steps_42 : decode cL_steps 42 = .ok (.iload 6, 2) := by decide +kernel
theorem dL_steps_44 : decode cL_steps 44 = .ok (.iload 4, 2) := by decide +kernel
theorem dL_steps_46 : decode cL_steps 46 = .ok (.invokevirtual 44, 3) := by decide +kernel
theorem dL_steps_49 : decode cL_steps 49 = .ok (.istore 8, 2) := by decide +kernel
theorem dL_steps_51 : decode cL_steps 51 = .ok (.iload 7, 2) := by decide +kernel
theorem dL_steps_53 : decode cL_steps 53 = .ok (.bipush (-9), 2) := by decide +kernel
theorem dL_steps_55 : decode cL_steps 55 = .ok (.if_icmp .eq 27, 3) := by decide +kernel
theorem dL_steps_58 : decode cL_steps 58 = .ok (.iload 7, 2) := by decide +kernel
theorem dL_steps_60 : decode cL_steps 60 = .ok (.ifCond .lt 20, 3) := by decide +kernel
theorem dL_steps_63 : decode cL_steps 63 = .ok (.aload_n 0, 1) := by decide +kernel
theorem dL_steps_64 : decode cL_steps 64 = .ok (.iload 6, 2) := by decide +kernel
theorem dL_steps_66 : decode cL_steps 66 = .ok (.iload 4, 2) := by decide +kernel
theorem dL_steps_68 : decode cL_steps 68 = .ok (.iload 7, 2) := by decide +kernel
theorem dL_steps_70 : decode cL_steps 70 = .ok (.iload 5, 2) := by decide +kernel
theorem dL_steps_72 : decode cL_steps 72 = .ok (.invokevirtual 41, 3) := by decide +kernel
theorem dL_steps_75 : decode cL_steps 75 = .ok (.bipush (-9), 2) := by decide +kernel
theorem dL_steps_77 : decode cL_steps 77 = .ok (.if_icmp .eq 5, 3) := by decide +kernel
theorem dL_steps_80 : decode cL_steps 80 = .ok (.iconst 0, 1) := by decide +kernel
theorem dL_steps_81 : decode cL_steps 81 = .ok (.ireturn, 1) := by decide +kernel
theorem dL_steps_82 : decode cL_steps 82 = .ok (.iload 8, 2) := by decide +kernel
theorem dL_steps_84 : decode cL_steps 84 = .ok (.iconst 1, 1) := by decide +kernel
theorem dL_steps_85 : decode cL_steps 85 = .ok (.if_icmp .lt 27, 3) := by decide +kernel
theorem dL_steps_88 : decode cL_steps 88 = .ok (.iload 8, 2) := by decide +kernel
theorem dL_steps_90 : decode cL_steps 90 = .ok (.iconst 1, 1) := by decide +kernel
theorem dL_steps_91 : decode cL_steps 91 = .ok (.iload_n 2, 1) := by decide +kernel
theorem dL_steps_92 : decode cL_steps 92 = .ok (.ishl, 1) := by decide +kernel
theorem dL_steps_93 : decode cL_steps 93 = .ok (.if_icmp .gt 19, 3) := by decide +kernel
theorem dL_steps_96 : decode cL_steps 96 = .ok (.aload_n 0, 1) := by decide +kernel
theorem dL_steps_97 : decode cL_steps 97 = .ok (.iload 6, 2) := by decide +kernel
theorem dL_steps_99 : decode cL_steps 99 = .ok (.iload 4, 2) := by decide +kernel
theorem dL_steps_101 : decode cL_steps 101 = .ok (.iconst 1, 1) := by decide +kernel
theorem dL_steps_102 : decode cL_steps 102 = .ok (.iload_n 2, 1) := by decide +kernel
theorem dL_steps_103 : decode cL_steps 103 = .ok (.ishl, 1) := by decide +kernel
theorem dL_steps_104 : decode cL_steps 104 = .ok (.iconst 1, 1) := by decide +kernel
theorem dL_steps_105 : decode cL_steps 105 = .ok (.isub, 1) := by decide +kernel
theorem dL_steps_106 : decode cL_steps 106 = .ok (.invokevirtual 38, 3) := by decide +kernel
theorem dL_steps_109 : decode cL_steps 109 = .ok (.ifCond .eq 5, 3) := by decide +kernel
theorem dL_steps_112 : decode cL_steps 112 = .ok (.iconst 0, 1) := by decide +kernel
theorem dL_steps_113 : decode cL_steps 113 = .ok (.ireturn, 1) := by decide +kernel
theorem dL_steps_114 : decode cL_steps 114 = .ok (.iconst 0, 1) := by decide +kernel
theorem dL_steps_115 : decode cL_steps 115 = .ok (.istore 9, 2) := by decide +kernel
theorem dL_steps_117 : decode cL_steps 117 = .ok (.iload 9, 2) := by decide +kernel
theorem dL_steps_119 : decode cL_steps 119 = .ok (.iload_n 1, 1) := by decide +kernel
theorem dL_steps_120 : decode cL_steps 120 = .ok (.if_icmp .ge 55, 3) := by decide +kernel
theorem dL_steps_123 : decode cL_steps 123 = .ok (.iload 6, 2) := by decide +kernel
theorem dL_steps_125 : decode cL_steps 125 = .ok (.iconst 1, 1) := by decide +kernel
theorem dL_steps_126 : decode cL_steps 126 = .ok (.iload 9, 2) := by decide +kernel
theorem dL_steps_128 : decode cL_steps 128 = .ok (.ishl, 1) := by decide +kernel
theorem dL_steps_129 : decode cL_steps 129 = .ok (.ior, 1) := by decide +kernel
theorem dL_steps_130 : decode cL_steps 130 = .ok (.istore 10, 2) := by decide +kernel
theorem dL_steps_132 : decode cL_steps 132 = .ok (.iload 7, 2) := by decide +kernel
theorem dL_steps_134 : decode cL_steps 134 = .ok (.bipush (-9), 2) := by decide +kernel
theorem dL_steps_136 : decode cL_steps 136 = .ok (.if_icmp .eq 18, 3) := by decide +kernel
theorem dL_steps_139 : decode cL_steps 139 = .ok (.aload_n 0, 1) := by decide +kernel
theorem dL_steps_140 : decode cL_steps 140 = .ok (.iload 10, 2) := by decide +kernel
theorem dL_steps_142 : decode cL_steps 142 = .ok (.iload 4, 2) := by decide +kernel
theorem dL_steps_144 : decode cL_steps 144 = .ok (.iload 5, 2) := by decide +kernel
theorem dL_steps_146 : decode cL_steps 146 = .ok (.invokevirtual 38, 3) := by decide +kernel
theorem dL_steps_149 : decode cL_steps 149 = .ok (.bipush (-9), 2) := by decide +kernel
theorem dL_steps_151 : decode cL_steps 151 = .ok (.if_icmp .eq 16, 3) := by decide +kernel
theorem dL_steps_154 : decode cL_steps 154 = .ok (.aload_n 0, 1) := by decide +kernel
theorem dL_steps_155 : decode cL_steps 155 = .ok (.iload 10, 2) := by decide +kernel
theorem dL_steps_157 : decode cL_steps 157 = .ok (.iload 4, 2) := by decide +kernel
theorem dL_steps_159 : decode cL_steps 159 = .ok (.invokevirtual 44, 3) := by decide +kernel
theorem dL_steps_162 : decode cL_steps 162 = .ok (.iload 8, 2) := by decide +kernel
theorem dL_steps_164 : decode cL_steps 164 = .ok (.if_icmp .ge 5, 3) := by decide +kernel
theorem dL_steps_167 : decode cL_steps 167 = .ok (.iconst 0, 1) := by decide +kernel
theorem dL_steps_168 : decode cL_steps 168 = .ok (.ireturn, 1) := by decide +kernel
theorem dL_steps_169 : decode cL_steps 169 = .ok (.iinc 9 1, 3) := by decide +kernel
theorem dL_steps_172 : decode cL_steps 172 = .ok (.goto (-55), 3) := by decide +kernel
theorem dL_steps_175 : decode cL_steps 175 = .ok (.iconst 1, 1) := by decide +kernel
theorem dL_steps_176 : decode cL_steps 176 = .ok (.iload_n 1, 1) := by decide +kernel
theorem dL_steps_177 : decode cL_steps 177 = .ok (.ishl, 1) := by decide +kernel
theorem dL_steps_178 : decode cL_steps 178 = .ok (.iconst 1, 1) := by decide +kernel
theorem dL_steps_179 : decode cL_steps 179 = .ok (.isub, 1) := by decide +kernel
theorem dL_steps_180 : decode cL_steps 180 = .ok (.iload 6, 2) := by decide +kernel
theorem dL_steps_182 : decode cL_steps 182 = .ok (.iconst (-1), 1) := by decide +kernel
theorem dL_steps_183 : decode cL_steps 183 = .ok (.ixor, 1) := by decide +kernel
theorem dL_steps_184 : decode cL_steps 184 = .ok (.iand, 1) := by decide +kernel
theorem dL_steps_185 : decode cL_steps 185 = .ok (.istore 9, 2) := by decide +kernel
theorem dL_steps_187 : decode cL_steps 187 = .ok (.iload 7, 2) := by decide +kernel
theorem dL_steps_189 : decode cL_steps 189 = .ok (.bipush (-9), 2) := by decide +kernel
theorem dL_steps_191 : decode cL_steps 191 = .ok (.if_icmp .eq 28, 3) := by decide +kernel
theorem dL_steps_194 : decode cL_steps 194 = .ok (.aload_n 0, 1) := by decide +kernel
theorem dL_steps_195 : decode cL_steps 195 = .ok (.iload 9, 2) := by decide +kernel
theorem dL_steps_197 : decode cL_steps 197 = .ok (.iload 4, 2) := by decide +kernel
theorem dL_steps_199 : decode cL_steps 199 = .ok (.iconst 1, 1) := by decide +kernel
theorem dL_steps_200 : decode cL_steps 200 = .ok (.iload_n 2, 1) := by decide +kernel
theorem dL_steps_201 : decode cL_steps 201 = .ok (.ishl, 1) := by decide +kernel
theorem dL_steps_202 : decode cL_steps 202 = .ok (.iconst 1, 1) := by decide +kernel
theorem dL_steps_203 : decode cL_steps 203 = .ok (.isub, 1) := by decide +kernel
theorem dL_steps_204 : decode cL_steps 204 = .ok (.iload 5, 2) := by decide +kernel
theorem dL_steps_206 : decode cL_steps 206 = .ok (.iconst (-1), 1) := by decide +kernel
theorem dL_steps_207 : decode cL_steps 207 = .ok (.ixor, 1) := by decide +kernel
theorem dL_steps_208 : decode cL_steps 208 = .ok (.iand, 1) := by decide +kernel
theorem dL_steps_209 : decode cL_steps 209 = .ok (.invokevirtual 38, 3) := by decide +kernel
theorem dL_steps_212 : decode cL_steps 212 = .ok (.bipush (-9), 2) := by decide +kernel
theorem dL_steps_214 : decode cL_steps 214 = .ok (.if_icmp .eq 5, 3) := by decide +kernel
theorem dL_steps_217 : decode cL_steps 217 = .ok (.iconst 0, 1) := by decide +kernel
theorem dL_steps_218 : decode cL_steps 218 = .ok (.ireturn, 1) := by decide +kernel
theorem dL_steps_219 : decode cL_steps 219 = .ok (.aload_n 0, 1) := by decide +kernel
theorem dL_steps_220 : decode cL_steps 220 = .ok (.iload 6, 2) := by decide +kernel
theorem dL_steps_222 : decode cL_steps 222 = .ok (.iload 4, 2) := by decide +kernel
theorem dL_steps_224 : decode cL_steps 224 = .ok (.iconst 0, 1) := by decide +kernel
theorem dL_steps_225 : decode cL_steps 225 = .ok (.iload 5, 2) := by decide +kernel
theorem dL_steps_227 : decode cL_steps 227 = .ok (.invokevirtual 41, 3) := by decide +kernel
theorem dL_steps_230 : decode cL_steps 230 = .ok (.istore 10, 2) := by decide +kernel
theorem dL_steps_232 : decode cL_steps 232 = .ok (.iload 10, 2) := by decide +kernel
theorem dL_steps_234 : decode cL_steps 234 = .ok (.bipush (-9), 2) := by decide +kernel
theorem dL_steps_236 : decode cL_steps 236 = .ok (.if_icmp .eq 27, 3) := by decide +kernel
theorem dL_steps_239 : decode cL_steps 239 = .ok (.iload 10, 2) := by decide +kernel
theorem dL_steps_241 : decode cL_steps 241 = .ok (.ifCond .lt 20, 3) := by decide +kernel
theorem dL_steps_244 : decode cL_steps 244 = .ok (.iload 5, 2) := by decide +kernel
theorem dL_steps_246 : decode cL_steps 246 = .ok (.aload_n 0, 1) := by decide +kernel
theorem dL_steps_247 : decode cL_steps 247 = .ok (.iload 4, 2) := by decide +kernel
theorem dL_steps_249 : decode cL_steps 249 = .ok (.iload 10, 2) := by decide +kernel
theorem dL_steps_251 : decode cL_steps 251 = .ok (.invokevirtual 34, 3) := by decide +kernel
theorem dL_steps_254 : decode cL_steps 254 = .ok (.ishr, 1) := by decide +kernel
theorem dL_steps_255 : decode cL_steps 255 = .ok (.iconst 1, 1) := by decide +kernel
theorem dL_steps_256 : decode cL_steps 256 = .ok (.iand, 1) := by decide +kernel
theorem dL_steps_257 : decode cL_steps 257 = .ok (.iconst 1, 1) := by decide +kernel
theorem dL_steps_258 : decode cL_steps 258 = .ok (.if_icmp .ne 5, 3) := by decide +kernel
theorem dL_steps_261 : decode cL_steps 261 = .ok (.iconst 0, 1) := by decide +kernel
theorem dL_steps_262 : decode cL_steps 262 = .ok (.ireturn, 1) := by decide +kernel
theorem dL_steps_263 : decode cL_steps 263 = .ok (.iinc 6 1, 3) := by decide +kernel
theorem dL_steps_266 : decode cL_steps 266 = .ok (.goto (-245), 3) := by decide +kernel
theorem dL_steps_269 : decode cL_steps 269 = .ok (.iconst 1, 1) := by decide +kernel
theorem dL_steps_270 : decode cL_steps 270 = .ok (.ireturn, 1) := by decide +kernel
theorem dL_reads_0 : decode cL_reads 0 = .ok (.aload_n 0, 1) := by decide +kernel
theorem dL_reads_1 : decode cL_reads 1 = .ok (.bipush 60, 2) := by decide +kernel
theorem dL_reads_3 : decode cL_reads 3 = .ok (.invokevirtual 47, 3) := by decide +kernel
theorem dL_reads_6 : decode cL_reads 6 = .ok (.istore 4, 2) := by decide +kernel
theorem dL_reads_8 : decode cL_reads 8 = .ok (.iconst 0, 1) := by decide +kernel
theorem dL_reads_9 : decode cL_reads 9 = .ok (.istore 5, 2) := by decide +kernel
theorem dL_reads_11 : decode cL_reads 11 = .ok (.iload 5, 2) := by decide +kernel
theorem dL_reads_13 : decode cL_reads 13 = .ok (.iload_n 1, 1) := by decide +kernel
theorem dL_reads_14 : decode cL_reads 14 = .ok (.if_icmp .ge 35, 3) := by decide +kernel
theorem dL_reads_17 : decode cL_reads 17 = .ok (.iload_n 2, 1) := by decide +kernel
theorem dL_reads_18 : decode cL_reads 18 = .ok (.iload 5, 2) := by decide +kernel
theorem dL_reads_20 : decode cL_reads 20 = .ok (.ishr, 1) := by decide +kernel
theorem dL_reads_21 : decode cL_reads 21 = .ok (.iconst 1, 1) := by decide +kernel
theorem dL_reads_22 : decode cL_reads 22 = .ok (.iand, 1) := by decide +kernel
theorem dL_reads_23 : decode cL_reads 23 = .ok (.iconst 1, 1) := by decide +kernel
theorem dL_reads_24 : decode cL_reads 24 = .ok (.if_icmp .ne 15, 3) := by decide +kernel
theorem dL_reads_27 : decode cL_reads 27 = .ok (.aload_n 0, 1) := by decide +kernel
theorem dL_reads_28 : decode cL_reads 28 = .ok (.bipush 48, 2) := by decide +kernel
theorem dL_reads_30 : decode cL_reads 30 = .ok (.iload 5, 2) := by decide +kernel
theorem dL_reads_32 : decode cL_reads 32 = .ok (.iadd, 1) := by decide +kernel
theorem dL_reads_33 : decode cL_reads 33 = .ok (.invokevirtual 47, 3) := by decide +kernel
theorem dL_reads_36 : decode cL_reads 36 = .ok (.goto 5, 3) := by decide +kernel
theorem dL_reads_39 : decode cL_reads 39 = .ok (.iload 4, 2) := by decide +kernel
theorem dL_reads_41 : decode cL_reads 41 = .ok (.istore 4, 2) := by decide +kernel
theorem dL_reads_43 : decode cL_reads 43 = .ok (.iinc 5 1, 3) := by decide +kernel
theorem dL_reads_46 : decode cL_reads 46 = .ok (.goto (-35), 3) := by decide +kernel
theorem dL_reads_49 : decode cL_reads 49 = .ok (.aload_n 0, 1) := by decide +kernel
theorem dL_reads_50 : decode cL_reads 50 = .ok (.bipush 62, 2) := by decide +kernel
theorem dL_reads_52 : decode cL_reads 52 = .ok (.invokevirtual 47, 3) := by decide +kernel
theorem dL_reads_55 : decode cL_reads 55 = .ok (.istore 4, 2) := by decide +kernel
theorem dL_reads_57 : decode cL_reads 57 = .ok (.aload_n 0, 1) := by decide +kernel
theorem dL_reads_58 : decode cL_reads 58 = .ok (.iload_n 3, 1) := by decide +kernel
theorem dL_reads_59 : decode cL_reads 59 = .ok (.ifCond .ne 8, 3) := by decide +kernel
theorem dL_reads_62 : decode cL_reads 62 = .ok (.bipush 88, 2) := by decide +kernel
theorem dL_reads_64 : decode cL_reads 64 = .ok (.goto 25, 3) := by decide +kernel
theorem dL_reads_67 : decode cL_reads 67 = .ok (.iload_n 3, 1) := by decide +kernel
theorem dL_reads_68 : decode cL_reads 68 = .ok (.iconst 1, 1) := by decide +kernel
theorem dL_reads_69 : decode cL_reads 69 = .ok (.if_icmp .ne 8, 3) := by decide +kernel
theorem dL_reads_72 : decode cL_reads 72 = .ok (.bipush 70, 2) := by decide +kernel
theorem dL_reads_74 : decode cL_reads 74 = .ok (.goto 15, 3) := by decide +kernel
theorem dL_reads_77 : decode cL_reads 77 = .ok (.iload_n 3, 1) := by decide +kernel
theorem dL_reads_78 : decode cL_reads 78 = .ok (.iconst 2, 1) := by decide +kernel
theorem dL_reads_79 : decode cL_reads 79 = .ok (.if_icmp .ne 8, 3) := by decide +kernel
theorem dL_reads_82 : decode cL_reads 82 = .ok (.bipush 71, 2) := by decide +kernel
theorem dL_reads_84 : decode cL_reads 84 = .ok (.goto 5, 3) := by decide +kernel
theorem dL_reads_87 : decode cL_reads 87 = .ok (.bipush 40, 2) := by decide +kernel
theorem dL_reads_89 : decode cL_reads 89 = .ok (.invokevirtual 47, 3) := by decide +kernel
theorem dL_reads_92 : decode cL_reads 92 = .ok (.istore 4, 2) := by decide +kernel
theorem dL_reads_94 : decode cL_reads 94 = .ok (.aload_n 0, 1) := by decide +kernel
theorem dL_reads_95 : decode cL_reads 95 = .ok (.bipush 97, 2) := by decide +kernel
theorem dL_reads_97 : decode cL_reads 97 = .ok (.invokevirtual 47, 3) := by decide +kernel
theorem dL_reads_100 : decode cL_reads 100 = .ok (.istore 4, 2) := by decide +kernel
theorem dL_reads_102 : decode cL_reads 102 = .ok (.iload_n 3, 1) := by decide +kernel
theorem dL_reads_103 : decode cL_reads 103 = .ok (.iconst 3, 1) := by decide +kernel
theorem dL_reads_104 : decode cL_reads 104 = .ok (.if_icmp .ne 27, 3) := by decide +kernel
theorem dL_reads_107 : decode cL_reads 107 = .ok (.aload_n 0, 1) := by decide +kernel
theorem dL_reads_108 : decode cL_reads 108 = .ok (.bipush 85, 2) := by decide +kernel
theorem dL_reads_110 : decode cL_reads 110 = .ok (.invokevirtual 47, 3) := by decide +kernel
theorem dL_reads_113 : decode cL_reads 113 = .ok (.istore 4, 2) := by decide +kernel
theorem dL_reads_115 : decode cL_reads 115 = .ok (.aload_n 0, 1) := by decide +kernel
theorem dL_reads_116 : decode cL_reads 116 = .ok (.bipush 98, 2) := by decide +kernel
theorem dL_reads_118 : decode cL_reads 118 = .ok (.invokevirtual 47, 3) := by decide +kernel
theorem dL_reads_121 : decode cL_reads 121 = .ok (.istore 4, 2) := by decide +kernel
theorem dL_reads_123 : decode cL_reads 123 = .ok (.aload_n 0, 1) := by decide +kernel
theorem dL_reads_124 : decode cL_reads 124 = .ok (.bipush 41, 2) := by decide +kernel
theorem dL_reads_126 : decode cL_reads 126 = .ok (.invokevirtual 47, 3) := by decide +kernel
theorem dL_reads_129 : decode cL_reads 129 = .ok (.istore 4, 2) := by decide +kernel
theorem dL_reads_131 : decode cL_reads 131 = .ok (.iload 4, 2) := by decide +kernel
theorem dL_reads_133 : decode cL_reads 133 = .ok (.ifCond .le 10, 3) := by decide +kernel
theorem dL_reads_136 : decode cL_reads 136 = .ok (.aload_n 0, 1) := by decide +kernel
theorem dL_reads_137 : decode cL_reads 137 = .ok (.invokevirtual 87, 3) := by decide +kernel
theorem dL_reads_140 : decode cL_reads 140 = .ok (.goto 4, 3) := by decide +kernel
theorem dL_reads_143 : decode cL_reads 143 = .ok (.iconst (-1), 1) := by decide +kernel
theorem dL_reads_144 : decode cL_reads 144 = .ok (.ireturn, 1) := by decide +kernel
theorem dL_enforces_0 : decode cL_enforces 0 = .ok (.aload_n 0, 1) := by decide +kernel
theorem dL_enforces_1 : decode cL_enforces 1 = .ok (.iload_n 1, 1) := by decide +kernel
theorem dL_enforces_2 : decode cL_enforces 2 = .ok (.invokevirtual 90, 3) := by decide +kernel
theorem dL_enforces_5 : decode cL_enforces 5 = .ok (.iconst 1, 1) := by decide +kernel
theorem dL_enforces_6 : decode cL_enforces 6 = .ok (.isub, 1) := by decide +kernel
theorem dL_enforces_7 : decode cL_enforces 7 = .ok (.istore 7, 2) := by decide +kernel
theorem dL_enforces_9 : decode cL_enforces 9 = .ok (.aload_n 0, 1) := by decide +kernel
theorem dL_enforces_10 : decode cL_enforces 10 = .ok (.iload_n 1, 1) := by decide +kernel
theorem dL_enforces_11 : decode cL_enforces 11 = .ok (.iload 7, 2) := by decide +kernel
theorem dL_enforces_13 : decode cL_enforces 13 = .ok (.invokevirtual 50, 3) := by decide +kernel
theorem dL_enforces_16 : decode cL_enforces 16 = .ok (.istore 8, 2) := by decide +kernel
theorem dL_enforces_18 : decode cL_enforces 18 = .ok (.iload 7, 2) := by decide +kernel
theorem dL_enforces_20 : decode cL_enforces 20 = .ok (.iload_n 2, 1) := by decide +kernel
theorem dL_enforces_21 : decode cL_enforces 21 = .ok (.iconst 3, 1) := by decide +kernel
theorem dL_enforces_22 : decode cL_enforces 22 = .ok (.if_icmp .ne 7, 3) := by decide +kernel
theorem dL_enforces_25 : decode cL_enforces 25 = .ok (.iconst 2, 1) := by decide +kernel
theorem dL_enforces_26 : decode cL_enforces 26 = .ok (.goto 4, 3) := by decide +kernel
theorem dL_enforces_29 : decode cL_enforces 29 = .ok (.iconst 1, 1) := by decide +kernel
theorem dL_enforces_30 : decode cL_enforces 30 = .ok (.if_icmp .ne 16, 3) := by decide +kernel
theorem dL_enforces_33 : decode cL_enforces 33 = .ok (.aload_n 0, 1) := by decide +kernel
theorem dL_enforces_34 : decode cL_enforces 34 = .ok (.iload_n 1, 1) := by decide +kernel
theorem dL_enforces_35 : decode cL_enforces 35 = .ok (.invokevirtual 93, 3) := by decide +kernel
theorem dL_enforces_38 : decode cL_enforces 38 = .ok (.iload 8, 2) := by decide +kernel
theorem dL_enforces_40 : decode cL_enforces 40 = .ok (.iconst (-1), 1) := by decide +kernel
theorem dL_enforces_41 : decode cL_enforces 41 = .ok (.ixor, 1) := by decide +kernel
theorem dL_enforces_42 : decode cL_enforces 42 = .ok (.iand, 1) := by decide +kernel
theorem dL_enforces_43 : decode cL_enforces 43 = .ok (.ifCond .eq 5, 3) := by decide +kernel
theorem dL_enforces_46 : decode cL_enforces 46 = .ok (.iconst 0, 1) := by decide +kernel
theorem dL_enforces_47 : decode cL_enforces 47 = .ok (.ireturn, 1) := by decide +kernel
theorem dL_enforces_48 : decode cL_enforces 48 = .ok (.aload_n 0, 1) := by decide +kernel
theorem dL_enforces_49 : decode cL_enforces 49 = .ok (.iload_n 1, 1) := by decide +kernel
theorem dL_enforces_50 : decode cL_enforces 50 = .ok (.invokevirtual 96, 3) := by decide +kernel
theorem dL_enforces_53 : decode cL_enforces 53 = .ok (.istore 9, 2) := by decide +kernel
theorem dL_enforces_55 : decode cL_enforces 55 = .ok (.iload 9, 2) := by decide +kernel
theorem dL_enforces_57 : decode cL_enforces 57 = .ok (.ifCond .lt 13, 3) := by decide +kernel
theorem dL_enforces_60 : decode cL_enforces 60 = .ok (.aload_n 0, 1) := by decide +kernel
theorem dL_enforces_61 : decode cL_enforces 61 = .ok (.iload_n 1, 1) := by decide +kernel
theorem dL_enforces_62 : decode cL_enforces 62 = .ok (.invokevirtual 93, 3) := by decide +kernel
theorem dL_enforces_65 : decode cL_enforces 65 = .ok (.iload 8, 2) := by decide +kernel
theorem dL_enforces_67 : decode cL_enforces 67 = .ok (.if_icmp .eq 5, 3) := by decide +kernel
theorem dL_enforces_70 : decode cL_enforces 70 = .ok (.iconst 0, 1) := by decide +kernel
theorem dL_enforces_71 : decode cL_enforces 71 = .ok (.ireturn, 1) := by decide +kernel
theorem dL_enforces_72 : decode cL_enforces 72 = .ok (.iconst 0, 1) := by decide +kernel
theorem dL_enforces_73 : decode cL_enforces 73 = .ok (.istore 10, 2) := by decide +kernel
theorem dL_enforces_75 : decode cL_enforces 75 = .ok (.iload 10, 2) := by decide +kernel
theorem dL_enforces_77 : decode cL_enforces 77 = .ok (.iload 5, 2) := by decide +kernel
theorem dL_enforces_79 : decode cL_enforces 79 = .ok (.if_icmp .ge 184, 3) := by decide +kernel
theorem dL_enforces_82 : decode cL_enforces 82 = .ok (.aload_n 0, 1) := by decide +kernel
theorem dL_enforces_83 : decode cL_enforces 83 = .ok (.iload_n 1, 1) := by decide +kernel
theorem dL_enforces_84 : decode cL_enforces 84 = .ok (.iload 10, 2) := by decide +kernel
theorem dL_enforces_86 : decode cL_enforces 86 = .ok (.invokevirtual 99, 3) := by decide +kernel
theorem dL_enforces_89 : decode cL_enforces 89 = .ok (.istore 11, 2) := by decide +kernel
theorem dL_enforces_91 : decode cL_enforces 91 = .ok (.aload_n 0, 1) := by decide +kernel
theorem dL_enforces_92 : decode cL_enforces 92 = .ok (.iload_n 1, 1) := by decide +kernel
theorem dL_enforces_93 : decode cL_enforces 93 = .ok (.iload 10, 2) := by decide +kernel
theorem dL_enforces_95 : decode cL_enforces 95 = .ok (.invokevirtual 53, 3) := by decide +kernel
theorem dL_enforces_98 : decode cL_enforces 98 = .ok (.iconst 1, 1) := by decide +kernel
theorem dL_enforces_99 : decode cL_enforces 99 = .ok (.if_icmp .ne 7, 3) := by decide +kernel
theorem dL_enforces_102 : decode cL_enforces 102 = .ok (.iconst 1, 1) := by decide +kernel
theorem dL_enforces_103 : decode cL_enforces 103 = .ok (.goto 4, 3) := by decide +kernel
theorem dL_enforces_106 : decode cL_enforces 106 = .ok (.iconst 0, 1) := by decide +kernel
theorem dL_enforces_107 : decode cL_enforces 107 = .ok (.istore 12, 2) := by decide +kernel
theorem dL_enforces_109 : decode cL_enforces 109 = .ok (.iload 12, 2) := by decide +kernel
theorem dL_enforces_111 : decode cL_enforces 111 = .ok (.iload 8, 2) := by decide +kernel
theorem dL_enforces_113 : decode cL_enforces 113 = .ok (.iload 10, 2) := by decide +kernel
theorem dL_enforces_115 : decode cL_enforces 115 = .ok (.ishr, 1) := by decide +kernel
theorem dL_enforces_116 : decode cL_enforces 116 = .ok (.iconst 1, 1) := by decide +kernel
theorem dL_enforces_117 : decode cL_enforces 117 = .ok (.iand, 1) := by decide +kernel
theorem dL_enforces_118 : decode cL_enforces 118 = .ok (.iconst 1, 1) := by decide +kernel
theorem dL_enforces_119 : decode cL_enforces 119 = .ok (.if_icmp .ne 7, 3) := by decide +kernel
theorem dL_enforces_122 : decode cL_enforces 122 = .ok (.iconst 1, 1) := by decide +kernel
theorem dL_enforces_123 : decode cL_enforces 123 = .ok (.goto 4, 3) := by decide +kernel
theorem dL_enforces_126 : decode cL_enforces 126 = .ok (.iconst 0, 1) := by decide +kernel
theorem dL_enforces_127 : decode cL_enforces 127 = .ok (.if_icmp .ne 40, 3) := by decide +kernel
theorem dL_enforces_130 : decode cL_enforces 130 = .ok (.iload_n 2, 1) := by decide +kernel
theorem dL_enforces_131 : decode cL_enforces 131 = .ok (.iconst 1, 1) := by decide +kernel
theorem dL_enforces_132 : decode cL_enforces 132 = .ok (.if_icmp .eq 8, 3) := by decide +kernel
theorem dL_enforces_135 : decode cL_enforces 135 = .ok (.iload_n 2, 1) := by decide +kernel
theorem dL_enforces_136 : decode cL_enforces 136 = .ok (.iconst 3, 1) := by decide +kernel
theorem dL_enforces_137 : decode cL_enforces 137 = .ok (.if_icmp .ne 23, 3) := by decide +kernel
theorem dL_enforces_140 : decode cL_enforces 140 = .ok (.iload 11, 2) := by decide +kernel
theorem dL_enforces_142 : decode cL_enforces 142 = .ok (.bipush (-9), 2) := by decide +kernel
theorem dL_enforces_144 : decode cL_enforces 144 = .ok (.if_icmp .ne 7, 3) := by decide +kernel
theorem dL_enforces_147 : decode cL_enforces 147 = .ok (.iconst 1, 1) := by decide +kernel
theorem dL_enforces_148 : decode cL_enforces 148 = .ok (.goto 4, 3) := by decide +kernel
theorem dL_enforces_151 : decode cL_enforces 151 = .ok (.iconst 0, 1) := by decide +kernel
theorem dL_enforces_152 : decode cL_enforces 152 = .ok (.iload 12, 2) := by decide +kernel
theorem dL_enforces_154 : decode cL_enforces 154 = .ok (.if_icmp .ne 15, 3) := by decide +kernel
theorem dL_enforces_157 : decode cL_enforces 157 = .ok (.goto 10, 3) := by decide +kernel
theorem dL_enforces_160 : decode cL_enforces 160 = .ok (.iload 11, 2) := by decide +kernel
theorem dL_enforces_162 : decode cL_enforces 162 = .ok (.bipush (-3), 2) := by decide +kernel
theorem dL_enforces_164 : decode cL_enforces 164 = .ok (.if_icmp .eq 5, 3) := by decide +kernel
theorem dL_enforces_167 : decode cL_enforces 167 = .ok (.iconst 0, 1) := by decide +kernel
theorem dL_enforces_168 : decode cL_enforces 168 = .ok (.ireturn, 1) := by decide +kernel
theorem dL_enforces_169 : decode cL_enforces 169 = .ok (.aload_n 0, 1) := by decide +kernel
theorem dL_enforces_170 : decode cL_enforces 170 = .ok (.iload_n 1, 1) := by decide +kernel
theorem dL_enforces_171 : decode cL_enforces 171 = .ok (.iload 10, 2) := by decide +kernel
theorem dL_enforces_173 : decode cL_enforces 173 = .ok (.invokevirtual 102, 3) := by decide +kernel
theorem dL_enforces_176 : decode cL_enforces 176 = .ok (.istore 13, 2) := by decide +kernel
theorem dL_enforces_178 : decode cL_enforces 178 = .ok (.iconst 0, 1) := by decide +kernel
theorem dL_enforces_179 : decode cL_enforces 179 = .ok (.istore 14, 2) := by decide +kernel
theorem dL_enforces_181 : decode cL_enforces 181 = .ok (.iload 14, 2) := by decide +kernel
theorem dL_enforces_183 : decode cL_enforces 183 = .ok (.iload 4, 2) := by decide +kernel
theorem dL_enforces_185 : decode cL_enforces 185 = .ok (.if_icmp .ge 42, 3) := by decide +kernel
theorem dL_enforces_188 : decode cL_enforces 188 = .ok (.iload_n 3, 1) := by decide +kernel
theorem dL_enforces_189 : decode cL_enforces 189 = .ok (.iload 14, 2) := by decide +kernel
theorem dL_enforces_191 : decode cL_enforces 191 = .ok (.ishr, 1) := by decide +kernel
theorem dL_enforces_192 : decode cL_enforces 192 = .ok (.iconst 1, 1) := by decide +kernel
theorem dL_enforces_193 : decode cL_enforces 193 = .ok (.iand, 1) := by decide +kernel
theorem dL_enforces_194 : decode cL_enforces 194 = .ok (.iconst 1, 1) := by decide +kernel
theorem dL_enforces_195 : decode cL_enforces 195 = .ok (.if_icmp .ne 26, 3) := by decide +kernel
theorem dL_enforces_198 : decode cL_enforces 198 = .ok (.aload_n 0, 1) := by decide +kernel
theorem dL_enforces_199 : decode cL_enforces 199 = .ok (.iload 10, 2) := by decide +kernel
theorem dL_enforces_201 : decode cL_enforces 201 = .ok (.iload 14, 2) := by decide +kernel
theorem dL_enforces_203 : decode cL_enforces 203 = .ok (.invokevirtual 59, 3) := by decide +kernel
theorem dL_enforces_206 : decode cL_enforces 206 = .ok (.iload 13, 2) := by decide +kernel
theorem dL_enforces_208 : decode cL_enforces 208 = .ok (.iload 14, 2) := by decide +kernel
theorem dL_enforces_210 : decode cL_enforces 210 = .ok (.invokestatic 105, 3) := by decide +kernel
theorem dL_enforces_213 : decode cL_enforces 213 = .ok (.idiv, 1) := by decide +kernel
theorem dL_enforces_214 : decode cL_enforces 214 = .ok (.iconst 3, 1) := by decide +kernel
theorem dL_enforces_215 : decode cL_enforces 215 = .ok (.irem, 1) := by decide +kernel
theorem dL_enforces_216 : decode cL_enforces 216 = .ok (.if_icmp .eq 5, 3) := by decide +kernel
theorem dL_enforces_219 : decode cL_enforces 219 = .ok (.iconst 0, 1) := by decide +kernel
theorem dL_enforces_220 : decode cL_enforces 220 = .ok (.ireturn, 1) := by decide +kernel
theorem dL_enforces_221 : decode cL_enforces 221 = .ok (.iinc 14 1, 3) := by decide +kernel
theorem dL_enforces_224 : decode cL_enforces 224 = .ok (.goto (-43), 3) := by decide +kernel
theorem dL_enforces_227 : decode cL_enforces 227 = .ok (.aload_n 0, 1) := by decide +kernel
theorem dL_enforces_228 : decode cL_enforces 228 = .ok (.iload_n 1, 1) := by decide +kernel
theorem dL_enforces_229 : decode cL_enforces 229 = .ok (.iload 10, 2) := by decide +kernel
theorem dL_enforces_231 : decode cL_enforces 231 = .ok (.invokevirtual 108, 3) := by decide +kernel
theorem dL_enforces_234 : decode cL_enforces 234 = .ok (.istore 14, 2) := by decide +kernel
theorem dL_enforces_236 : decode cL_enforces 236 = .ok (.iload 12, 2) := by decide +kernel
theorem dL_enforces_238 : decode cL_enforces 238 = .ok (.ifCond .eq 11, 3) := by decide +kernel
theorem dL_enforces_241 : decode cL_enforces 241 = .ok (.iload 14, 2) := by decide +kernel
theorem dL_enforces_243 : decode cL_enforces 243 = .ok (.ifCond .ge 14, 3) := by decide +kernel
theorem dL_enforces_246 : decode cL_enforces 246 = .ok (.goto 9, 3) := by decide +kernel
theorem dL_enforces_249 : decode cL_enforces 249 = .ok (.iload 14, 2) := by decide +kernel
theorem dL_enforces_251 : decode cL_enforces 251 = .ok (.iload_n 3, 1) := by decide +kernel
theorem dL_enforces_252 : decode cL_enforces 252 = .ok (.if_icmp .ne 5, 3) := by decide +kernel
theorem dL_enforces_255 : decode cL_enforces 255 = .ok (.iconst 0, 1) := by decide +kernel
theorem dL_enforces_256 : decode cL_enforces 256 = .ok (.ireturn, 1) := by decide +kernel
theorem dL_enforces_257 : decode cL_enforces 257 = .ok (.iinc 10 1, 3) := by decide +kernel
theorem dL_enforces_260 : decode cL_enforces 260 = .ok (.goto (-185), 3) := by decide +kernel
theorem dL_enforces_263 : decode cL_enforces 263 = .ok (.iload 8, 2) := by decide +kernel
theorem dL_enforces_265 : decode cL_enforces 265 = .ok (.ifCond .eq 92, 3) := by decide +kernel
theorem dL_enforces_268 : decode cL_enforces 268 = .ok (.iload_n 2, 1) := by decide +kernel
theorem dL_enforces_269 : decode cL_enforces 269 = .ok (.iconst 1, 1) := by decide +kernel
theorem dL_enforces_270 : decode cL_enforces 270 = .ok (.if_icmp .eq 8, 3) := by decide +kernel
theorem dL_enforces_273 : decode cL_enforces 273 = .ok (.iload_n 2, 1) := by decide +kernel
theorem dL_enforces_274 : decode cL_enforces 274 = .ok (.iconst 2, 1) := by decide +kernel
theorem dL_enforces_275 : decode cL_enforces 275 = .ok (.if_icmp .ne 82, 3) := by decide +kernel
theorem dL_enforces_278 : decode cL_enforces 278 = .ok (.iconst 0, 1) := by decide +kernel
theorem dL_enforces_279 : decode cL_enforces 279 = .ok (.istore 10, 2) := by decide +kernel
theorem dL_enforces_281 : decode cL_enforces 281 = .ok (.iload 8, 2) := by decide +kernel
theorem dL_enforces_283 : decode cL_enforces 283 = .ok (.iload 10, 2) := by decide +kernel
theorem dL_enforces_285 : decode cL_enforces 285 = .ok (.ishr, 1) := by decide +kernel
theorem dL_enforces_286 : decode cL_enforces 286 = .ok (.iconst 1, 1) := by decide +kernel
theorem dL_enforces_287 : decode cL_enforces 287 = .ok (.iand, 1) := by decide +kernel
theorem dL_enforces_288 : decode cL_enforces 288 = .ok (.ifCond .ne 9, 3) := by decide +kernel
theorem dL_enforces_291 : decode cL_enforces 291 = .ok (.iinc 10 1, 3) := by decide +kernel
theorem dL_enforces_294 : decode cL_enforces 294 = .ok (.goto (-13), 3) := by decide +kernel
theorem dL_enforces_297 : decode cL_enforces 297 = .ok (.aload_n 0, 1) := by decide +kernel
theorem dL_enforces_298 : decode cL_enforces 298 = .ok (.iload_n 1, 1) := by decide +kernel
theorem dL_enforces_299 : decode cL_enforces 299 = .ok (.iload 10, 2) := by decide +kernel
theorem dL_enforces_301 : decode cL_enforces 301 = .ok (.iload 6, 2) := by decide +kernel
theorem dL_enforces_303 : decode cL_enforces 303 = .ok (.bipush 40, 2) := by decide +kernel
theorem dL_enforces_305 : decode cL_enforces 305 = .ok (.invokestatic 75, 3) := by decide +kernel
theorem dL_enforces_308 : decode cL_enforces 308 = .ok (.iload 6, 2) := by decide +kernel
theorem dL_enforces_310 : decode cL_enforces 310 = .ok (.invokevirtual 111, 3) := by decide +kernel
theorem dL_enforces_313 : decode cL_enforces 313 = .ok (.istore 11, 2) := by decide +kernel
theorem dL_enforces_315 : decode cL_enforces 315 = .ok (.iload_n 2, 1) := by decide +kernel
theorem dL_enforces_316 : decode cL_enforces 316 = .ok (.iconst 2, 1) := by decide +kernel
theorem dL_enforces_317 : decode cL_enforces 317 = .ok (.if_icmp .ne 22, 3) := by decide +kernel
theorem dL_enforces_320 : decode cL_enforces 320 = .ok (.iload 8, 2) := by decide +kernel
theorem dL_enforces_322 : decode cL_enforces 322 = .ok (.iload 11, 2) := by decide +kernel
theorem dL_enforces_324 : decode cL_enforces 324 = .ok (.ishr, 1) := by decide +kernel
theorem dL_enforces_325 : decode cL_enforces 325 = .ok (.iconst 1, 1) := by decide +kernel
theorem dL_enforces_326 : decode cL_enforces 326 = .ok (.iand, 1) := by decide +kernel
theorem dL_enforces_327 : decode cL_enforces 327 = .ok (.iconst 1, 1) := by decide +kernel
theorem dL_enforces_328 : decode cL_enforces 328 = .ok (.if_icmp .ne 7, 3) := by decide +kernel
theorem dL_enforces_331 : decode cL_enforces 331 = .ok (.iconst 1, 1) := by decide +kernel
theorem dL_enforces_332 : decode cL_enforces 332 = .ok (.goto 24, 3) := by decide +kernel
theorem dL_enforces_335 : decode cL_enforces 335 = .ok (.iconst 0, 1) := by decide +kernel
theorem dL_enforces_336 : decode cL_enforces 336 = .ok (.goto 20, 3) := by decide +kernel
theorem dL_enforces_339 : decode cL_enforces 339 = .ok (.iload 11, 2) := by decide +kernel
theorem dL_enforces_341 : decode cL_enforces 341 = .ok (.ifCond .lt 14, 3) := by decide +kernel
theorem dL_enforces_344 : decode cL_enforces 344 = .ok (.iload 11, 2) := by decide +kernel
theorem dL_enforces_346 : decode cL_enforces 346 = .ok (.iload 5, 2) := by decide +kernel
theorem dL_enforces_348 : decode cL_enforces 348 = .ok (.if_icmp .ge 7, 3) := by decide +kernel
theorem dL_enforces_351 : decode cL_enforces 351 = .ok (.iconst 1, 1) := by decide +kernel
theorem dL_enforces_352 : decode cL_enforces 352 = .ok (.goto 4, 3) := by decide +kernel
theorem dL_enforces_355 : decode cL_enforces 355 = .ok (.iconst 0, 1) := by decide +kernel
theorem dL_enforces_356 : decode cL_enforces 356 = .ok (.ireturn, 1) := by decide +kernel
theorem dL_enforces_357 : decode cL_enforces 357 = .ok (.iconst 1, 1) := by decide +kernel
theorem dL_enforces_358 : decode cL_enforces 358 = .ok (.ireturn, 1) := by decide +kernel
theorem dL_undoes_0 : decode cL_undoes 0 = .ok (.aload_n 0, 1) := by decide +kernel
theorem dL_undoes_1 : decode cL_undoes 1 = .ok (.invokevirtual 9, 3) := by decide +kernel
theorem dL_undoes_4 : decode cL_undoes 4 = .ok (.lstore 4, 2) := by decide +kernel
theorem dL_undoes_6 : decode cL_undoes 6 = .ok (.iload_n 3, 1) := by decide +kernel
theorem dL_undoes_7 : decode cL_undoes 7 = .ok (.iload_n 2, 1) := by decide +kernel
theorem dL_undoes_8 : decode cL_undoes 8 = .ok (.invokestatic 75, 3) := by decide +kernel
theorem dL_undoes_11 : decode cL_undoes 11 = .ok (.istore 6, 2) := by decide +kernel
theorem dL_undoes_13 : decode cL_undoes 13 = .ok (.iload_n 3, 1) := by decide +kernel
theorem dL_undoes_14 : decode cL_undoes 14 = .ok (.iconst 3, 1) := by decide +kernel
theorem dL_undoes_15 : decode cL_undoes 15 = .ok (.ishr, 1) := by decide +kernel
theorem dL_undoes_16 : decode cL_undoes 16 = .ok (.iload_n 1, 1) := by decide +kernel
theorem dL_undoes_17 : decode cL_undoes 17 = .ok (.invokestatic 75, 3) := by decide +kernel
theorem dL_undoes_20 : decode cL_undoes 20 = .ok (.istore 7, 2) := by decide +kernel
theorem dL_undoes_22 : decode cL_undoes 22 = .ok (.aload_n 0, 1) := by decide +kernel
theorem dL_undoes_23 : decode cL_undoes 23 = .ok (.iload 6, 2) := by decide +kernel
theorem dL_undoes_25 : decode cL_undoes 25 = .ok (.iload 7, 2) := by decide +kernel
theorem dL_undoes_27 : decode cL_undoes 27 = .ok (.iconst 2, 1) := by decide +kernel
theorem dL_undoes_28 : decode cL_undoes 28 = .ok (.invokevirtual 15, 3) := by decide +kernel
theorem dL_undoes_31 : decode cL_undoes 31 = .ok (.iconst 1, 1) := by decide +kernel
theorem dL_undoes_32 : decode cL_undoes 32 = .ok (.if_icmp .lt 46, 3) := by decide +kernel
theorem dL_undoes_35 : decode cL_undoes 35 = .ok (.aload_n 0, 1) := by decide +kernel
theorem dL_undoes_36 : decode cL_undoes 36 = .ok (.iload 6, 2) := by decide +kernel
theorem dL_undoes_38 : decode cL_undoes 38 = .ok (.iload 7, 2) := by decide +kernel
theorem dL_undoes_40 : decode cL_undoes 40 = .ok (.iconst 1, 1) := by decide +kernel
theorem dL_undoes_41 : decode cL_undoes 41 = .ok (.iload_n 3, 1) := by decide +kernel
theorem dL_undoes_42 : decode cL_undoes 42 = .ok (.iconst 5, 1) := by decide +kernel
theorem dL_undoes_43 : decode cL_undoes 43 = .ok (.ishr, 1) := by decide +kernel
theorem dL_undoes_44 : decode cL_undoes 44 = .ok (.iload_n 2, 1) := by decide +kernel
theorem dL_undoes_45 : decode cL_undoes 45 = .ok (.invokestatic 75, 3) := by decide +kernel
theorem dL_undoes_48 : decode cL_undoes 48 = .ok (.invokevirtual 30, 3) := by decide +kernel
theorem dL_undoes_51 : decode cL_undoes 51 = .ok (.ifCond .lt 27, 3) := by decide +kernel
theorem dL_undoes_54 : decode cL_undoes 54 = .ok (.aload_n 0, 1) := by decide +kernel
theorem dL_undoes_55 : decode cL_undoes 55 = .ok (.iload 6, 2) := by decide +kernel
theorem dL_undoes_57 : decode cL_undoes 57 = .ok (.bipush 99, 2) := by decide +kernel
theorem dL_undoes_59 : decode cL_undoes 59 = .ok (.iconst 1, 1) := by decide +kernel
theorem dL_undoes_60 : decode cL_undoes 60 = .ok (.invokevirtual 19, 3) := by decide +kernel
theorem dL_undoes_63 : decode cL_undoes 63 = .ok (.ifCond .ne 15, 3) := by decide +kernel
theorem dL_undoes_66 : decode cL_undoes 66 = .ok (.aload_n 0, 1) := by decide +kernel
theorem dL_undoes_67 : decode cL_undoes 67 = .ok (.iload 6, 2) := by decide +kernel
theorem dL_undoes_69 : decode cL_undoes 69 = .ok (.iload 7, 2) := by decide +kernel
theorem dL_undoes_71 : decode cL_undoes 71 = .ok (.iconst 1, 1) := by decide +kernel
theorem dL_undoes_72 : decode cL_undoes 72 = .ok (.invokevirtual 56, 3) := by decide +kernel
theorem dL_undoes_75 : decode cL_undoes 75 = .ok (.ifCond .ge 5, 3) := by decide +kernel
theorem dL_undoes_78 : decode cL_undoes 78 = .ok (.iconst 0, 1) := by decide +kernel
theorem dL_undoes_79 : decode cL_undoes 79 = .ok (.ireturn, 1) := by decide +kernel
theorem dL_undoes_80 : decode cL_undoes 80 = .ok (.iconst 0, 1) := by decide +kernel
theorem dL_undoes_81 : decode cL_undoes 81 = .ok (.istore 8, 2) := by decide +kernel
theorem dL_undoes_83 : decode cL_undoes 83 = .ok (.iload 8, 2) := by decide +kernel
theorem dL_undoes_85 : decode cL_undoes 85 = .ok (.iconst 4, 1) := by decide +kernel
theorem dL_undoes_86 : decode cL_undoes 86 = .ok (.if_icmp .ge 18, 3) := by decide +kernel
theorem dL_undoes_89 : decode cL_undoes 89 = .ok (.aload_n 0, 1) := by decide +kernel
theorem dL_undoes_90 : decode cL_undoes 90 = .ok (.invokevirtual 114, 3) := by decide +kernel
theorem dL_undoes_93 : decode cL_undoes 93 = .ok (.ifCond .ge 5, 3) := by decide +kernel
theorem dL_undoes_96 : decode cL_undoes 96 = .ok (.iconst 0, 1) := by decide +kernel
theorem dL_undoes_97 : decode cL_undoes 97 = .ok (.ireturn, 1) := by decide +kernel
theorem dL_undoes_98 : decode cL_undoes 98 = .ok (.iinc 8 1, 3) := by decide +kernel
theorem dL_undoes_101 : decode cL_undoes 101 = .ok (.goto (-18), 3) := by decide +kernel
theorem dL_undoes_104 : decode cL_undoes 104 = .ok (.aload_n 0, 1) := by decide +kernel
theorem dL_undoes_105 : decode cL_undoes 105 = .ok (.invokevirtual 9, 3) := by decide +kernel
theorem dL_undoes_108 : decode cL_undoes 108 = .ok (.lload 4, 2) := by decide +kernel
theorem dL_undoes_110 : decode cL_undoes 110 = .ok (.lcmp, 1) := by decide +kernel
theorem dL_undoes_111 : decode cL_undoes 111 = .ok (.ifCond .ne 16, 3) := by decide +kernel
theorem dL_undoes_114 : decode cL_undoes 114 = .ok (.aload_n 0, 1) := by decide +kernel
theorem dL_undoes_115 : decode cL_undoes 115 = .ok (.invokevirtual 114, 3) := by decide +kernel
theorem dL_undoes_118 : decode cL_undoes 118 = .ok (.bipush (-9), 2) := by decide +kernel
theorem dL_undoes_120 : decode cL_undoes 120 = .ok (.if_icmp .ne 7, 3) := by decide +kernel
theorem dL_undoes_123 : decode cL_undoes 123 = .ok (.iconst 1, 1) := by decide +kernel
theorem dL_undoes_124 : decode cL_undoes 124 = .ok (.goto 4, 3) := by decide +kernel
theorem dL_undoes_127 : decode cL_undoes 127 = .ok (.iconst 0, 1) := by decide +kernel
theorem dL_undoes_128 : decode cL_undoes 128 = .ok (.ireturn, 1) := by decide +kernel
theorem dL_law_0 : decode cL_law 0 = .ok (.iconst 1, 1) := by decide +kernel
theorem dL_law_1 : decode cL_law 1 = .ok (.aload_n 0, 1) := by decide +kernel
theorem dL_law_2 : decode cL_law 2 = .ok (.iconst 0, 1) := by decide +kernel
theorem dL_law_3 : decode cL_law 3 = .ok (.invokestatic 69, 3) := by decide +kernel
theorem dL_law_6 : decode cL_law 6 = .ok (.iconst 3, 1) := by decide +kernel
theorem dL_law_7 : decode cL_law 7 = .ok (.invokestatic 75, 3) := by decide +kernel
theorem dL_law_10 : decode cL_law 10 = .ok (.iadd, 1) := by decide +kernel
theorem dL_law_11 : decode cL_law 11 = .ok (.istore_n 1, 1) := by decide +kernel
theorem dL_law_12 : decode cL_law 12 = .ok (.iconst 1, 1) := by decide +kernel
theorem dL_law_13 : decode cL_law 13 = .ok (.aload_n 0, 1) := by decide +kernel
theorem dL_law_14 : decode cL_law 14 = .ok (.iconst 1, 1) := by decide +kernel
theorem dL_law_15 : decode cL_law 15 = .ok (.invokestatic 69, 3) := by decide +kernel
theorem dL_law_18 : decode cL_law 18 = .ok (.iconst 5, 1) := by decide +kernel
theorem dL_law_19 : decode cL_law 19 = .ok (.invokestatic 75, 3) := by decide +kernel
theorem dL_law_22 : decode cL_law 22 = .ok (.iadd, 1) := by decide +kernel
theorem dL_law_23 : decode cL_law 23 = .ok (.istore_n 2, 1) := by decide +kernel
theorem dL_law_24 : decode cL_law 24 = .ok (.new 10, 3) := by decide +kernel
theorem dL_law_27 : decode cL_law 27 = .ok (.dup, 1) := by decide +kernel
theorem dL_law_28 : decode cL_law 28 = .ok (.iload_n 1, 1) := by decide +kernel
theorem dL_law_29 : decode cL_law 29 = .ok (.invokespecial 117, 3) := by decide +kernel
theorem dL_law_32 : decode cL_law 32 = .ok (.astore_n 3, 1) := by decide +kernel
theorem dL_law_33 : decode cL_law 33 = .ok (.aload_n 3, 1) := by decide +kernel
theorem dL_law_34 : decode cL_law 34 = .ok (.invokevirtual 120, 3) := by decide +kernel
theorem dL_law_37 : decode cL_law 37 = .ok (.iload_n 1, 1) := by decide +kernel
theorem dL_law_38 : decode cL_law 38 = .ok (.if_icmp .ne 31, 3) := by decide +kernel
theorem dL_law_41 : decode cL_law 41 = .ok (.aload_n 3, 1) := by decide +kernel
theorem dL_law_42 : decode cL_law 42 = .ok (.invokevirtual 114, 3) := by decide +kernel
theorem dL_law_45 : decode cL_law 45 = .ok (.bipush (-9), 2) := by decide +kernel
theorem dL_law_47 : decode cL_law 47 = .ok (.if_icmp .ne 22, 3) := by decide +kernel
theorem dL_law_50 : decode cL_law 50 = .ok (.aload_n 3, 1) := by decide +kernel
theorem dL_law_51 : decode cL_law 51 = .ok (.aload_n 0, 1) := by decide +kernel
theorem dL_law_52 : decode cL_law 52 = .ok (.iload_n 1, 1) := by decide +kernel
theorem dL_law_53 : decode cL_law 53 = .ok (.iload_n 2, 1) := by decide +kernel
theorem dL_law_54 : decode cL_law 54 = .ok (.invokestatic 123, 3) := by decide +kernel
theorem dL_law_57 : decode cL_law 57 = .ok (.ifCond .eq 12, 3) := by decide +kernel
theorem dL_law_60 : decode cL_law 60 = .ok (.aload_n 3, 1) := by decide +kernel
theorem dL_law_61 : decode cL_law 61 = .ok (.iload_n 1, 1) := by decide +kernel
theorem dL_law_62 : decode cL_law 62 = .ok (.iload_n 2, 1) := by decide +kernel
theorem dL_law_63 : decode cL_law 63 = .ok (.invokestatic 127, 3) := by decide +kernel
theorem dL_law_66 : decode cL_law 66 = .ok (.ifCond .ne 5, 3) := by decide +kernel
theorem dL_law_69 : decode cL_law 69 = .ok (.iconst 0, 1) := by decide +kernel
theorem dL_law_70 : decode cL_law 70 = .ok (.ireturn, 1) := by decide +kernel
theorem dL_law_71 : decode cL_law 71 = .ok (.iconst 0, 1) := by decide +kernel
theorem dL_law_72 : decode cL_law 72 = .ok (.istore 4, 2) := by decide +kernel
theorem dL_law_74 : decode cL_law 74 = .ok (.iload 4, 2) := by decide +kernel
theorem dL_law_76 : decode cL_law 76 = .ok (.iconst 3, 1) := by decide +kernel
theorem dL_law_77 : decode cL_law 77 = .ok (.if_icmp .ge 29, 3) := by decide +kernel
theorem dL_law_80 : decode cL_law 80 = .ok (.aload_n 3, 1) := by decide +kernel
theorem dL_law_81 : decode cL_law 81 = .ok (.iload_n 1, 1) := by decide +kernel
theorem dL_law_82 : decode cL_law 82 = .ok (.iload_n 2, 1) := by decide +kernel
theorem dL_law_83 : decode cL_law 83 = .ok (.aload_n 0, 1) := by decide +kernel
theorem dL_law_84 : decode cL_law 84 = .ok (.bipush 36, 2) := by decide +kernel
theorem dL_law_86 : decode cL_law 86 = .ok (.iload 4, 2) := by decide +kernel
theorem dL_law_88 : decode cL_law 88 = .ok (.iadd, 1) := by decide +kernel
theorem dL_law_89 : decode cL_law 89 = .ok (.invokestatic 69, 3) := by decide +kernel
theorem dL_law_92 : decode cL_law 92 = .ok (.invokestatic 131, 3) := by decide +kernel
theorem dL_law_95 : decode cL_law 95 = .ok (.ifCond .ne 5, 3) := by decide +kernel
theorem dL_law_98 : decode cL_law 98 = .ok (.iconst 0, 1) := by decide +kernel
theorem dL_law_99 : decode cL_law 99 = .ok (.ireturn, 1) := by decide +kernel
theorem dL_law_100 : decode cL_law 100 = .ok (.iinc 4 1, 3) := by decide +kernel
theorem dL_law_103 : decode cL_law 103 = .ok (.goto (-29), 3) := by decide +kernel
theorem dL_law_106 : decode cL_law 106 = .ok (.iconst 0, 1) := by decide +kernel
theorem dL_law_107 : decode cL_law 107 = .ok (.istore 4, 2) := by decide +kernel
theorem dL_law_109 : decode cL_law 109 = .ok (.iload 4, 2) := by decide +kernel
theorem dL_law_111 : decode cL_law 111 = .ok (.bipush 6, 2) := by decide +kernel
theorem dL_law_113 : decode cL_law 113 = .ok (.if_icmp .ge 75, 3) := by decide +kernel
theorem dL_law_116 : decode cL_law 116 = .ok (.aload_n 0, 1) := by decide +kernel
theorem dL_law_117 : decode cL_law 117 = .ok (.bipush 40, 2) := by decide +kernel
theorem dL_law_119 : decode cL_law 119 = .ok (.iload 4, 2) := by decide +kernel
theorem dL_law_121 : decode cL_law 121 = .ok (.iadd, 1) := by decide +kernel
theorem dL_law_122 : decode cL_law 122 = .ok (.invokestatic 69, 3) := by decide +kernel
theorem dL_law_125 : decode cL_law 125 = .ok (.istore 5, 2) := by decide +kernel
theorem dL_law_127 : decode cL_law 127 = .ok (.iload 5, 2) := by decide +kernel
theorem dL_law_129 : decode cL_law 129 = .ok (.iconst 1, 1) := by decide +kernel
theorem dL_law_130 : decode cL_law 130 = .ok (.iload_n 1, 1) := by decide +kernel
theorem dL_law_131 : decode cL_law 131 = .ok (.ishl, 1) := by decide +kernel
theorem dL_law_132 : decode cL_law 132 = .ok (.invokestatic 75, 3) := by decide +kernel
theorem dL_law_135 : decode cL_law 135 = .ok (.istore 6, 2) := by decide +kernel
theorem dL_law_137 : decode cL_law 137 = .ok (.iload 5, 2) := by decide +kernel
theorem dL_law_139 : decode cL_law 139 = .ok (.iconst 3, 1) := by decide +kernel
theorem dL_law_140 : decode cL_law 140 = .ok (.ishr, 1) := by decide +kernel
theorem dL_law_141 : decode cL_law 141 = .ok (.iconst 4, 1) := by decide +kernel
theorem dL_law_142 : decode cL_law 142 = .ok (.invokestatic 75, 3) := by decide +kernel
theorem dL_law_145 : decode cL_law 145 = .ok (.istore 7, 2) := by decide +kernel
theorem dL_law_147 : decode cL_law 147 = .ok (.aload_n 3, 1) := by decide +kernel
theorem dL_law_148 : decode cL_law 148 = .ok (.iload_n 1, 1) := by decide +kernel
theorem dL_law_149 : decode cL_law 149 = .ok (.iload 6, 2) := by decide +kernel
theorem dL_law_151 : decode cL_law 151 = .ok (.iload 7, 2) := by decide +kernel
theorem dL_law_153 : decode cL_law 153 = .ok (.invokestatic 135, 3) := by decide +kernel
theorem dL_law_156 : decode cL_law 156 = .ok (.iload 4, 2) := by decide +kernel
theorem dL_law_158 : decode cL_law 158 = .ok (.if_icmp .ne 22, 3) := by decide +kernel
theorem dL_law_161 : decode cL_law 161 = .ok (.aload_n 3, 1) := by decide +kernel
theorem dL_law_162 : decode cL_law 162 = .ok (.iload 4, 2) := by decide +kernel
theorem dL_law_164 : decode cL_law 164 = .ok (.iload 7, 2) := by decide +kernel
theorem dL_law_166 : decode cL_law 166 = .ok (.iload 6, 2) := by decide +kernel
theorem dL_law_168 : decode cL_law 168 = .ok (.iload_n 1, 1) := by decide +kernel
theorem dL_law_169 : decode cL_law 169 = .ok (.iload_n 2, 1) := by decide +kernel
theorem dL_law_170 : decode cL_law 170 = .ok (.iload 5, 2) := by decide +kernel
theorem dL_law_172 : decode cL_law 172 = .ok (.iconst 5, 1) := by decide +kernel
theorem dL_law_173 : decode cL_law 173 = .ok (.ishr, 1) := by decide +kernel
theorem dL_law_174 : decode cL_law 174 = .ok (.invokestatic 139, 3) := by decide +kernel
theorem dL_law_177 : decode cL_law 177 = .ok (.ifCond .ne 5, 3) := by decide +kernel
theorem dL_law_180 : decode cL_law 180 = .ok (.iconst 0, 1) := by decide +kernel
theorem dL_law_181 : decode cL_law 181 = .ok (.ireturn, 1) := by decide +kernel
theorem dL_law_182 : decode cL_law 182 = .ok (.iinc 4 1, 3) := by decide +kernel
theorem dL_law_185 : decode cL_law 185 = .ok (.goto (-76), 3) := by decide +kernel
theorem dL_law_188 : decode cL_law 188 = .ok (.aload_n 3, 1) := by decide +kernel
theorem dL_law_189 : decode cL_law 189 = .ok (.invokevirtual 143, 3) := by decide +kernel
theorem dL_law_192 : decode cL_law 192 = .ok (.istore 4, 2) := by decide +kernel
theorem dL_law_194 : decode cL_law 194 = .ok (.iconst 0, 1) := by decide +kernel
theorem dL_law_195 : decode cL_law 195 = .ok (.istore 5, 2) := by decide +kernel
theorem dL_law_197 : decode cL_law 197 = .ok (.iload 5, 2) := by decide +kernel
theorem dL_law_199 : decode cL_law 199 = .ok (.iload_n 2, 1) := by decide +kernel
theorem dL_law_200 : decode cL_law 200 = .ok (.if_icmp .ge 42, 3) := by decide +kernel
theorem dL_law_203 : decode cL_law 203 = .ok (.aload_n 3, 1) := by decide +kernel
theorem dL_law_204 : decode cL_law 204 = .ok (.iload 5, 2) := by decide +kernel
theorem dL_law_206 : decode cL_law 206 = .ok (.invokevirtual 62, 3) := by decide +kernel
theorem dL_law_209 : decode cL_law 209 = .ok (.ifCond .lt 25, 3) := by decide +kernel
theorem dL_law_212 : decode cL_law 212 = .ok (.aload_n 3, 1) := by decide +kernel
theorem dL_law_213 : decode cL_law 213 = .ok (.iload 5, 2) := by decide +kernel
theorem dL_law_215 : decode cL_law 215 = .ok (.invokevirtual 62, 3) := by decide +kernel
theorem dL_law_218 : decode cL_law 218 = .ok (.iload 4, 2) := by decide +kernel
theorem dL_law_220 : decode cL_law 220 = .ok (.if_icmp .ge 14, 3) := by decide +kernel
theorem dL_law_223 : decode cL_law 223 = .ok (.aload_n 3, 1) := by decide +kernel
theorem dL_law_224 : decode cL_law 224 = .ok (.iload 5, 2) := by decide +kernel
theorem dL_law_226 : decode cL_law 226 = .ok (.invokevirtual 62, 3) := by decide +kernel
theorem dL_law_229 : decode cL_law 229 = .ok (.iload 5, 2) := by decide +kernel
theorem dL_law_231 : decode cL_law 231 = .ok (.if_icmp .le 5, 3) := by decide +kernel
theorem dL_law_234 : decode cL_law 234 = .ok (.iconst 0, 1) := by decide +kernel
theorem dL_law_235 : decode cL_law 235 = .ok (.ireturn, 1) := by decide +kernel
theorem dL_law_236 : decode cL_law 236 = .ok (.iinc 5 1, 3) := by decide +kernel
theorem dL_law_239 : decode cL_law 239 = .ok (.goto (-42), 3) := by decide +kernel
theorem dL_law_242 : decode cL_law 242 = .ok (.aload_n 3, 1) := by decide +kernel
theorem dL_law_243 : decode cL_law 243 = .ok (.invokevirtual 146, 3) := by decide +kernel
theorem dL_law_246 : decode cL_law 246 = .ok (.bipush 6, 2) := by decide +kernel
theorem dL_law_248 : decode cL_law 248 = .ok (.if_icmp .ne 40, 3) := by decide +kernel
theorem dL_law_251 : decode cL_law 251 = .ok (.aload_n 3, 1) := by decide +kernel
theorem dL_law_252 : decode cL_law 252 = .ok (.iload_n 1, 1) := by decide +kernel
theorem dL_law_253 : decode cL_law 253 = .ok (.iload_n 2, 1) := by decide +kernel
theorem dL_law_254 : decode cL_law 254 = .ok (.aload_n 0, 1) := by decide +kernel
theorem dL_law_255 : decode cL_law 255 = .ok (.bipush 46, 2) := by decide +kernel
theorem dL_law_257 : decode cL_law 257 = .ok (.invokestatic 69, 3) := by decide +kernel
theorem dL_law_260 : decode cL_law 260 = .ok (.invokestatic 149, 3) := by decide +kernel
theorem dL_law_263 : decode cL_law 263 = .ok (.ifCond .eq 25, 3) := by decide +kernel
theorem dL_law_266 : decode cL_law 266 = .ok (.aload_n 3, 1) := by decide +kernel
theorem dL_law_267 : decode cL_law 267 = .ok (.invokevirtual 152, 3) := by decide +kernel
theorem dL_law_270 : decode cL_law 270 = .ok (.bipush 6, 2) := by decide +kernel
theorem dL_law_272 : decode cL_law 272 = .ok (.if_icmp .ne 16, 3) := by decide +kernel
theorem dL_law_275 : decode cL_law 275 = .ok (.aload_n 3, 1) := by decide +kernel
theorem dL_law_276 : decode cL_law 276 = .ok (.iload_n 1, 1) := by decide +kernel
theorem dL_law_277 : decode cL_law 277 = .ok (.iload_n 2, 1) := by decide +kernel
theorem dL_law_278 : decode cL_law 278 = .ok (.invokestatic 127, 3) := by decide +kernel
theorem dL_law_281 : decode cL_law 281 = .ok (.ifCond .eq 7, 3) := by decide +kernel
theorem dL_law_284 : decode cL_law 284 = .ok (.iconst 1, 1) := by decide +kernel
theorem dL_law_285 : decode cL_law 285 = .ok (.goto 4, 3) := by decide +kernel
theorem dL_law_288 : decode cL_law 288 = .ok (.iconst 0, 1) := by decide +kernel
theorem dL_law_289 : decode cL_law 289 = .ok (.ireturn, 1) := by decide +kernel
end
section
def tG : List Cond := lw_tbl.filter goodWord
theorem tG_in {w : Cond} (h : w ∈ lw_tbl) (hg : goodWord w = true) : w ∈ tG := List.mem_filter.mpr ⟨h, hg⟩
theorem tG_sub {w : Cond} (h : w ∈ tG) : w ∈ lw_tbl := (List.mem_filter.mp h).1
theorem tG_good {w : Cond} (h : w ∈ tG) : goodWord w = true := (List.mem_filter.mp h).2
theorem tb_in {w : Cond} (h : w ∈ tables_1) : w ∈ lw_tbl := List.mem_append_right _ h
theorem t1_in {w : Cond} (h : w ∈ tables_1_1) (hg : goodWord w = true) : w ∈ tG := tG_in (tb_in (List.mem_append_left _ h)) hg
theorem t2_in {w : Cond} (h : w ∈ tables_1_2) (hg : goodWord w = true) : w ∈ tG := tG_in (tb_in (List.mem_append_right _ (List.mem_append_left _ h))) hg
theorem t3_in {w : Cond} (h : w ∈ tables_1_3) (hg : goodWord w = true) : w ∈ tG := tG_in (tb_in (List.mem_append_right _ (List.mem_append_right _ (List.mem_append_left _ h)))) hg
theorem t4_in {w : Cond} (h : w ∈ tables_1_4) (hg : goodWord w = true) : w ∈ tG := tG_in (tb_in (List.mem_append_right _ (List.mem_append_right _ (List.mem_append_right _ (h))))) hg
theorem pr1_in {q : MethodName × Nat} (h : q ∈ lw_privs_1) : q ∈ lw_privs := List.mem_append_left _ h
theorem pr2_in {q : MethodName × Nat} (h : q ∈ lw_privs_2) : q ∈ lw_privs := List.mem_append_right _ (List.mem_append_left _ h)
theorem pr3_in {q : MethodName × Nat} (h : q ∈ lw_privs_3) : q ∈ lw_privs := List.mem_append_right _ (List.mem_append_right _ (h))
theorem pv_in {y : MethodName} {n : Nat} (h : (y, n) ∈ lw_privs) : Cond.selects y.cls y y ∈ tG := tG_in (List.mem_append_left _ (List.mem_map.mpr ⟨(y, n), h, rfl⟩)) rfl
def wT (y : MethodName) (c : ByteArray) (n : Nat) (r : Option FieldType) : List Cond := Cond.code y c n r :: tG
theorem gdG {ws : List Cond} (h : ∀ w ∈ ws, w ∈ tG) : GoodIn tG ws := fun w hw => ⟨h w hw, good_of_word (tG_good (h w hw))⟩
theorem gdW {y : MethodName} {c : ByteArray} {n : Nat} {r : Option FieldType} (h : Cond.code y c n r ∈ tG) : ∀ w ∈ wT y c n r, w ∈ tG := by
  intro w hw
  rcases List.mem_cons.mp hw with rfl | hw
  · exact h
  · exact hw
def biV (C : String) (y : MethodName) (c : ByteArray) (n : Nat) (r : Option FieldType) : Prop := Cond.instanceMethod y ∈ tG ∧ Cond.selects C y y ∈ tG ∧ Cond.initialized C ∈ tG ∧ Cond.code y c n r ∈ tG
def biS (y : MethodName) (c : ByteArray) (n : Nat) (r : Option FieldType) : Prop := Cond.static y ∈ tG ∧ Cond.initialized y.cls ∈ tG ∧ Cond.code y c n r ∈ tG
theorem gdV {own C : String} {idx n : Nat} {y : MethodName} {c : ByteArray} {r : Option FieldType} (h1 : Cond.methodLink own idx y ∈ tG) (h : biV C y c n r) : GoodIn tG (wsV own idx C y (wT y c n r)) := gdG (by
  intro w hw
  rcases List.mem_append.mp hw with hw | hw
  · simp only [List.mem_cons, List.not_mem_nil, or_false] at hw
    rcases hw with rfl | rfl | rfl | rfl
    · exact h1
    · exact h.1
    · exact h.2.1
    · exact h.2.2.1
  · exact gdW h.2.2.2 w hw)
theorem gdS {own : String} {idx n : Nat} {y : MethodName} {c : ByteArray} {r : Option FieldType} (h1 : Cond.methodLink own idx y ∈ tG) (h : biS y c n r) : GoodIn tG (va_wsS own idx y (wT y c n r)) := gdG (by
  intro w hw
  rcases List.mem_append.mp hw with hw | hw
  · simp only [List.mem_cons, List.not_mem_nil, or_false] at hw
    rcases hw with rfl | rfl | rfl
    · exact h1
    · exact h.1
    · exact h.2.1
  · exact gdW h.2.2 w hw)
theorem fl_X0_0 : u_lay RX0 TX0 0 ∈ tG := t2_in (List.mem_of_getElem? (i := 0) rfl) rfl
theorem fl_X0_1 : u_lay RX0 TX0 1 ∈ tG := t2_in (List.mem_of_getElem? (i := 2) rfl) rfl
theorem fl_X0_2 : u_lay RX0 TX0 2 ∈ tG := t2_in (List.mem_of_getElem? (i := 4) rfl) rfl
theorem fl_X0_3 : u_lay RX0 TX0 3 ∈ tG := t2_in (List.mem_of_getElem? (i := 6) rfl) rfl
theorem fl_X0_4 : u_lay RX0 TX0 4 ∈ tG := t2_in (List.mem_of_getElem? (i := 8) rfl) rfl
theorem nn_X0 : ∀ w ∈ wsX00, w ∈ tG := by
  intro w hw
  obtain ⟨k, hk, rfl⟩ := List.mem_map.mp hw
  have hk := List.mem_range.mp hk
  match k, hk with
  | 0, _ => exact fl_X0_0
  | 1, _ => exact fl_X0_1
  | 2, _ => exact fl_X0_2
  | 3, _ => exact fl_X0_3
  | 4, _ => exact fl_X0_4
  | k + 5, hk => exact absurd hk (by omega)
theorem fl_X1_0 : u_lay RX1 TX1 0 ∈ tG := t1_in (List.mem_of_getElem? (i := 90) rfl) rfl
theorem fl_X1_1 : u_lay RX1 TX1 1 ∈ tG := t1_in (List.mem_of_getElem? (i := 92) rfl) rfl
theorem fl_X1_2 : u_lay RX1 TX1 2 ∈ tG := t1_in (List.mem_of_getElem? (i := 94) rfl) rfl
theorem nn_X1 : ∀ w ∈ wsX10, w ∈ tG := by
  intro w hw
  obtain ⟨k, hk, rfl⟩ := List.mem_map.mp hw
  have hk := List.mem_range.mp hk
  match k, hk with
  | 0, _ => exact fl_X1_0
  | 1, _ => exact fl_X1_1
  | 2, _ => exact fl_X1_2
  | k + 3, hk => exact absurd hk (by omega)
theorem fl_X2_0 : u_lay RX2 TX2 0 ∈ tG := t1_in (List.mem_of_getElem? (i := 213) rfl) rfl
theorem fl_X2_1 : u_lay RX2 TX2 1 ∈ tG := t1_in (List.mem_of_getElem? (i := 215) rfl) rfl
theorem fl_X2_2 : u_lay RX2 TX2 2 ∈ tG := t1_in (List.mem_of_getElem? (i := 217) rfl) rfl
theorem fl_X2_3 : u_lay RX2 TX2 3 ∈ tG := t1_in (List.mem_of_getElem? (i := 219) rfl) rfl
theorem fl_X2_4 : u_lay RX2 TX2 4 ∈ tG := t1_in (List.mem_of_getElem? (i := 221) rfl) rfl
theorem fl_X2_5 : u_lay RX2 TX2 5 ∈ tG := t1_in (List.mem_of_getElem? (i := 223) rfl) rfl
theorem nn_X2 : ∀ w ∈ wsX20, w ∈ tG := by
  intro w hw
  obtain ⟨k, hk, rfl⟩ := List.mem_map.mp hw
  have hk := List.mem_range.mp hk
  match k, hk with
  | 0, _ => exact fl_X2_0
  | 1, _ => exact fl_X2_1
  | 2, _ => exact fl_X2_2
  | 3, _ => exact fl_X2_3
  | 4, _ => exact fl_X2_4
  | 5, _ => exact fl_X2_5
  | k + 6, hk => exact absurd hk (by omega)
theorem fl_X3_0 : u_lay RX3 TX3 0 ∈ tG := t1_in (List.mem_of_getElem? (i := 173) rfl) rfl
theorem fl_X3_1 : u_lay RX3 TX3 1 ∈ tG := t1_in (List.mem_of_getElem? (i := 175) rfl) rfl
theorem fl_X3_2 : u_lay RX3 TX3 2 ∈ tG := t1_in (List.mem_of_getElem? (i := 177) rfl) rfl
theorem fl_X3_3 : u_lay RX3 TX3 3 ∈ tG := t1_in (List.mem_of_getElem? (i := 179) rfl) rfl
theorem nn_X3 : ∀ w ∈ wsX30, w ∈ tG := by
  intro w hw
  obtain ⟨k, hk, rfl⟩ := List.mem_map.mp hw
  have hk := List.mem_range.mp hk
  match k, hk with
  | 0, _ => exact fl_X3_0
  | 1, _ => exact fl_X3_1
  | 2, _ => exact fl_X3_2
  | 3, _ => exact fl_X3_3
  | k + 4, hk => exact absurd hk (by omega)
theorem fl_X4_0 : u_lay RX4 TX4 0 ∈ tG := t1_in (List.mem_of_getElem? (i := 138) rfl) rfl
theorem fl_X4_1 : u_lay RX4 TX4 1 ∈ tG := t1_in (List.mem_of_getElem? (i := 140) rfl) rfl
theorem fl_X4_2 : u_lay RX4 TX4 2 ∈ tG := t1_in (List.mem_of_getElem? (i := 142) rfl) rfl
theorem fl_X4_3 : u_lay RX4 TX4 3 ∈ tG := t1_in (List.mem_of_getElem? (i := 144) rfl) rfl
theorem fl_X4_4 : u_lay RX4 TX4 4 ∈ tG := t1_in (List.mem_of_getElem? (i := 146) rfl) rfl
theorem fl_X4_5 : u_lay RX4 TX4 5 ∈ tG := t1_in (List.mem_of_getElem? (i := 148) rfl) rfl
theorem fl_X4_6 : u_lay RX4 TX4 6 ∈ tG := t1_in (List.mem_of_getElem? (i := 150) rfl) rfl
theorem fl_X4_7 : u_lay RX4 TX4 7 ∈ tG := t1_in (List.mem_of_getElem? (i := 152) rfl) rfl
theorem fl_X4_8 : u_lay RX4 TX4 8 ∈ tG := t1_in (List.mem_of_getElem? (i := 154) rfl) rfl
theorem fl_X4_9 : u_lay RX4 TX4 9 ∈ tG := t1_in (List.mem_of_getElem? (i := 156) rfl) rfl
theorem fl_X4_10 : u_lay RX4 TX4 10 ∈ tG := t1_in (List.mem_of_getElem? (i := 158) rfl) rfl
theorem fl_X4_11 : u_lay RX4 TX4 11 ∈ tG := t1_in (List.mem_of_getElem? (i := 160) rfl) rfl
theorem nn_X4 : ∀ w ∈ wsX40, w ∈ tG := by
  intro w hw
  obtain ⟨k, hk, rfl⟩ := List.mem_map.mp hw
  have hk := List.mem_range.mp hk
  match k, hk with
  | 0, _ => exact fl_X4_0
  | 1, _ => exact fl_X4_1
  | 2, _ => exact fl_X4_2
  | 3, _ => exact fl_X4_3
  | 4, _ => exact fl_X4_4
  | 5, _ => exact fl_X4_5
  | 6, _ => exact fl_X4_6
  | 7, _ => exact fl_X4_7
  | 8, _ => exact fl_X4_8
  | 9, _ => exact fl_X4_9
  | 10, _ => exact fl_X4_10
  | 11, _ => exact fl_X4_11
  | k + 12, hk => exact absurd hk (by omega)
theorem fl_X6_0 : u_lay RX6 TX6 0 ∈ tG := t1_in (List.mem_of_getElem? (i := 110) rfl) rfl
theorem fl_X6_1 : u_lay RX6 TX6 1 ∈ tG := t1_in (List.mem_of_getElem? (i := 112) rfl) rfl
theorem fl_X6_2 : u_lay RX6 TX6 2 ∈ tG := t1_in (List.mem_of_getElem? (i := 114) rfl) rfl
theorem fl_X6_3 : u_lay RX6 TX6 3 ∈ tG := t1_in (List.mem_of_getElem? (i := 116) rfl) rfl
theorem nn_X6 : ∀ w ∈ wsX60, w ∈ tG := by
  intro w hw
  obtain ⟨k, hk, rfl⟩ := List.mem_map.mp hw
  have hk := List.mem_range.mp hk
  match k, hk with
  | 0, _ => exact fl_X6_0
  | 1, _ => exact fl_X6_1
  | 2, _ => exact fl_X6_2
  | 3, _ => exact fl_X6_3
  | k + 4, hk => exact absurd hk (by omega)
theorem fl_X7_0 : u_lay RX7 TX7 0 ∈ tG := t1_in (List.mem_of_getElem? (i := 59) rfl) rfl
theorem fl_X7_1 : u_lay RX7 TX7 1 ∈ tG := t1_in (List.mem_of_getElem? (i := 61) rfl) rfl
theorem fl_X7_2 : u_lay RX7 TX7 2 ∈ tG := t1_in (List.mem_of_getElem? (i := 63) rfl) rfl
theorem fl_X7_3 : u_lay RX7 TX7 3 ∈ tG := t1_in (List.mem_of_getElem? (i := 65) rfl) rfl
theorem fl_X7_4 : u_lay RX7 TX7 4 ∈ tG := t1_in (List.mem_of_getElem? (i := 67) rfl) rfl
theorem fl_X7_5 : u_lay RX7 TX7 5 ∈ tG := t1_in (List.mem_of_getElem? (i := 69) rfl) rfl
theorem fl_X7_6 : u_lay RX7 TX7 6 ∈ tG := t1_in (List.mem_of_getElem? (i := 71) rfl) rfl
theorem fl_X7_7 : u_lay RX7 TX7 7 ∈ tG := t1_in (List.mem_of_getElem? (i := 73) rfl) rfl
theorem nn_X7 : ∀ w ∈ wsX70, w ∈ tG := by
  intro w hw
  obtain ⟨k, hk, rfl⟩ := List.mem_map.mp hw
  have hk := List.mem_range.mp hk
  match k, hk with
  | 0, _ => exact fl_X7_0
  | 1, _ => exact fl_X7_1
  | 2, _ => exact fl_X7_2
  | 3, _ => exact fl_X7_3
  | 4, _ => exact fl_X7_4
  | 5, _ => exact fl_X7_5
  | 6, _ => exact fl_X7_6
  | 7, _ => exact fl_X7_7
  | k + 8, hk => exact absurd hk (by omega)
theorem fl_X8_0 : u_lay RX8 TX8 0 ∈ tG := t1_in (List.mem_of_getElem? (i := 192) rfl) rfl
theorem fl_X8_1 : u_lay RX8 TX8 1 ∈ tG := t1_in (List.mem_of_getElem? (i := 194) rfl) rfl
theorem fl_X8_2 : u_lay RX8 TX8 2 ∈ tG := t1_in (List.mem_of_getElem? (i := 196) rfl) rfl
theorem fl_X8_3 : u_lay RX8 TX8 3 ∈ tG := t1_in (List.mem_of_getElem? (i := 198) rfl) rfl
theorem nn_X8 : ∀ w ∈ wsX80, w ∈ tG := by
  intro w hw
  obtain ⟨k, hk, rfl⟩ := List.mem_map.mp hw
  have hk := List.mem_range.mp hk
  match k, hk with
  | 0, _ => exact fl_X8_0
  | 1, _ => exact fl_X8_1
  | 2, _ => exact fl_X8_2
  | 3, _ => exact fl_X8_3
  | k + 4, hk => exact absurd hk (by omega)
theorem fl_X9_0 : u_lay RX9 TX9 0 ∈ tG := t2_in (List.mem_of_getElem? (i := 20) rfl) rfl
theorem fl_X9_1 : u_lay RX9 TX9 1 ∈ tG := t2_in (List.mem_of_getElem? (i := 22) rfl) rfl
theorem fl_X9_2 : u_lay RX9 TX9 2 ∈ tG := t2_in (List.mem_of_getElem? (i := 24) rfl) rfl
theorem fl_X9_3 : u_lay RX9 TX9 3 ∈ tG := t2_in (List.mem_of_getElem? (i := 26) rfl) rfl
theorem fl_X9_4 : u_lay RX9 TX9 4 ∈ tG := t2_in (List.mem_of_getElem? (i := 28) rfl) rfl
theorem fl_X9_5 : u_lay RX9 TX9 5 ∈ tG := t2_in (List.mem_of_getElem? (i := 30) rfl) rfl
theorem fl_X9_6 : u_lay RX9 TX9 6 ∈ tG := t2_in (List.mem_of_getElem? (i := 32) rfl) rfl
theorem fl_X9_7 : u_lay RX9 TX9 7 ∈ tG := t2_in (List.mem_of_getElem? (i := 34) rfl) rfl
theorem fl_X9_8 : u_lay RX9 TX9 8 ∈ tG := t2_in (List.mem_of_getElem? (i := 36) rfl) rfl
theorem nn_X9 : ∀ w ∈ wsX90, w ∈ tG := by
  intro w hw
  obtain ⟨k, hk, rfl⟩ := List.mem_map.mp hw
  have hk := List.mem_range.mp hk
  match k, hk with
  | 0, _ => exact fl_X9_0
  | 1, _ => exact fl_X9_1
  | 2, _ => exact fl_X9_2
  | 3, _ => exact fl_X9_3
  | 4, _ => exact fl_X9_4
  | 5, _ => exact fl_X9_5
  | 6, _ => exact fl_X9_6
  | 7, _ => exact fl_X9_7
  | 8, _ => exact fl_X9_8
  | k + 9, hk => exact absurd hk (by omega)
theorem kf_X0_9 : Cond.fieldLink RX0 9 "CoalitionChecker$Formula" "kinds" "[I" ∈ tG := t1_in (List.mem_of_getElem? (i := 231) rfl) rfl
theorem kf_X0_15 : Cond.fieldLink RX0 15 "CoalitionChecker$Formula" "firsts" "[I" ∈ tG := t1_in (List.mem_of_getElem? (i := 232) rfl) rfl
theorem kf_X0_18 : Cond.fieldLink RX0 18 "CoalitionChecker$Formula" "seconds" "[I" ∈ tG := t1_in (List.mem_of_getElem? (i := 233) rfl) rfl
theorem kf_X0_21 : Cond.fieldLink RX0 21 "CoalitionChecker$Formula" "details" "[I" ∈ tG := t1_in (List.mem_of_getElem? (i := 234) rfl) rfl
theorem kf_X0_24 : Cond.fieldLink RX0 24 "CoalitionChecker$Formula" "count" "I" ∈ tG := t1_in (List.mem_of_getElem? (i := 235) rfl) rfl
theorem kf_X1_11 : Cond.fieldLink RX1 11 "CoalitionChecker$History" "ring" "[LCoalitionChecker$Structure;" ∈ tG := t1_in (List.mem_of_getElem? (i := 86) rfl) rfl
theorem kf_X1_17 : Cond.fieldLink RX1 17 "CoalitionChecker$History" "oldest" "I" ∈ tG := t1_in (List.mem_of_getElem? (i := 87) rfl) rfl
theorem kf_X1_21 : Cond.fieldLink RX1 21 "CoalitionChecker$History" "count" "I" ∈ tG := t1_in (List.mem_of_getElem? (i := 88) rfl) rfl
theorem kf_X2_9 : Cond.fieldLink RX2 9 "CoalitionChecker$Likeness" "classNumbers" "[I" ∈ tG := t1_in (List.mem_of_getElem? (i := 209) rfl) rfl
theorem kf_X2_15 : Cond.fieldLink RX2 15 "CoalitionChecker$Likeness" "finer" "[I" ∈ tG := t1_in (List.mem_of_getElem? (i := 210) rfl) rfl
theorem kf_X2_18 : Cond.fieldLink RX2 18 "CoalitionChecker$Likeness" "oneSpread" "[I" ∈ tG := t1_in (List.mem_of_getElem? (i := 211) rfl) rfl
theorem kf_X2_21 : Cond.fieldLink RX2 21 "CoalitionChecker$Likeness" "otherSpread" "[I" ∈ tG := t1_in (List.mem_of_getElem? (i := 212) rfl) rfl
theorem kf_X2_24 : Cond.fieldLink RX2 24 "CoalitionChecker$Likeness" "structure" "LCoalitionChecker$Structure;" ∈ tG := t1_in (List.mem_of_getElem? (i := 207) rfl) rfl
theorem kf_X2_28 : Cond.fieldLink RX2 28 "CoalitionChecker$Likeness" "steps" "LCoalitionChecker$Steps;" ∈ tG := t1_in (List.mem_of_getElem? (i := 208) rfl) rfl
theorem kf_X2_42 : Cond.fieldLink RX2 42 "CoalitionChecker$Structure" "stateCount" "I" ∈ tG := t1_in (List.mem_of_getElem? (i := 55) rfl) rfl
theorem kf_X2_76 : Cond.fieldLink RX2 76 "CoalitionChecker$Structure" "coalitionLimit" "I" ∈ tG := t1_in (List.mem_of_getElem? (i := 41) rfl) rfl
theorem kf_X2_89 : Cond.fieldLink RX2 89 "CoalitionChecker$Structure" "moveLimit" "I" ∈ tG := t1_in (List.mem_of_getElem? (i := 45) rfl) rfl
theorem kf_X3_9 : Cond.fieldLink RX3 9 "CoalitionChecker$Meaning" "sets" "[I" ∈ tG := t1_in (List.mem_of_getElem? (i := 171) rfl) rfl
theorem kf_X3_15 : Cond.fieldLink RX3 15 "CoalitionChecker$Meaning" "ranks" "[I" ∈ tG := t1_in (List.mem_of_getElem? (i := 172) rfl) rfl
theorem kf_X3_18 : Cond.fieldLink RX3 18 "CoalitionChecker$Meaning" "structure" "LCoalitionChecker$Structure;" ∈ tG := t1_in (List.mem_of_getElem? (i := 169) rfl) rfl
theorem kf_X3_22 : Cond.fieldLink RX3 22 "CoalitionChecker$Meaning" "steps" "LCoalitionChecker$Steps;" ∈ tG := t1_in (List.mem_of_getElem? (i := 170) rfl) rfl
theorem kf_X3_26 : Cond.fieldLink RX3 26 "CoalitionChecker$Formula" "count" "I" ∈ tG := t1_in (List.mem_of_getElem? (i := 236) rfl) rfl
theorem kf_X3_81 : Cond.fieldLink RX3 81 "CoalitionChecker$Structure" "stateCount" "I" ∈ tG := t1_in (List.mem_of_getElem? (i := 57) rfl) rfl
theorem kf_X4_9 : Cond.fieldLink RX4 9 "CoalitionChecker$Reader" "text" "[I" ∈ tG := t1_in (List.mem_of_getElem? (i := 126) rfl) rfl
theorem kf_X4_15 : Cond.fieldLink RX4 15 "CoalitionChecker$Reader" "open" "[I" ∈ tG := t1_in (List.mem_of_getElem? (i := 127) rfl) rfl
theorem kf_X4_18 : Cond.fieldLink RX4 18 "CoalitionChecker$Reader" "openCoalitions" "[I" ∈ tG := t1_in (List.mem_of_getElem? (i := 128) rfl) rfl
theorem kf_X4_21 : Cond.fieldLink RX4 21 "CoalitionChecker$Reader" "operands" "[I" ∈ tG := t1_in (List.mem_of_getElem? (i := 129) rfl) rfl
theorem kf_X4_24 : Cond.fieldLink RX4 24 "CoalitionChecker$Reader" "length" "I" ∈ tG := t1_in (List.mem_of_getElem? (i := 130) rfl) rfl
theorem kf_X4_28 : Cond.fieldLink RX4 28 "CoalitionChecker$Reader" "agentCount" "I" ∈ tG := t1_in (List.mem_of_getElem? (i := 125) rfl) rfl
theorem kf_X4_37 : Cond.fieldLink RX4 37 "CoalitionChecker$Reader" "formula" "LCoalitionChecker$Formula;" ∈ tG := t1_in (List.mem_of_getElem? (i := 137) rfl) rfl
theorem kf_X4_41 : Cond.fieldLink RX4 41 "CoalitionChecker$Formula" "count" "I" ∈ tG := t1_in (List.mem_of_getElem? (i := 237) rfl) rfl
theorem kf_X4_46 : Cond.fieldLink RX4 46 "CoalitionChecker$Reader" "openCount" "I" ∈ tG := t1_in (List.mem_of_getElem? (i := 132) rfl) rfl
theorem kf_X4_49 : Cond.fieldLink RX4 49 "CoalitionChecker$Reader" "operandCount" "I" ∈ tG := t1_in (List.mem_of_getElem? (i := 133) rfl) rfl
theorem kf_X4_52 : Cond.fieldLink RX4 52 "CoalitionChecker$Reader" "mode" "I" ∈ tG := t1_in (List.mem_of_getElem? (i := 134) rfl) rfl
theorem kf_X4_89 : Cond.fieldLink RX4 89 "CoalitionChecker$Reader" "coalition" "I" ∈ tG := t1_in (List.mem_of_getElem? (i := 135) rfl) rfl
theorem kf_X4_92 : Cond.fieldLink RX4 92 "CoalitionChecker$Reader" "box" "I" ∈ tG := t1_in (List.mem_of_getElem? (i := 136) rfl) rfl
theorem kf_X6_9 : Cond.fieldLink RX6 9 "CoalitionChecker$Steps" "jointParts" "[I" ∈ tG := t1_in (List.mem_of_getElem? (i := 107) rfl) rfl
theorem kf_X6_15 : Cond.fieldLink RX6 15 "CoalitionChecker$Steps" "ownNames" "[I" ∈ tG := t1_in (List.mem_of_getElem? (i := 108) rfl) rfl
theorem kf_X6_18 : Cond.fieldLink RX6 18 "CoalitionChecker$Steps" "outcomes" "[I" ∈ tG := t1_in (List.mem_of_getElem? (i := 109) rfl) rfl
theorem kf_X6_21 : Cond.fieldLink RX6 21 "CoalitionChecker$Steps" "structure" "LCoalitionChecker$Structure;" ∈ tG := t1_in (List.mem_of_getElem? (i := 106) rfl) rfl
theorem kf_X6_35 : Cond.fieldLink RX6 35 "CoalitionChecker$Structure" "moveLimit" "I" ∈ tG := t1_in (List.mem_of_getElem? (i := 44) rfl) rfl
theorem kf_X6_41 : Cond.fieldLink RX6 41 "CoalitionChecker$Structure" "targets" "[I" ∈ tG := t1_in (List.mem_of_getElem? (i := 52) rfl) rfl
theorem kf_X6_66 : Cond.fieldLink RX6 66 "CoalitionChecker$Structure" "stateCount" "I" ∈ tG := t1_in (List.mem_of_getElem? (i := 58) rfl) rfl
theorem kf_X6_76 : Cond.fieldLink RX6 76 "CoalitionChecker$Structure" "agentCount" "I" ∈ tG := t1_in (List.mem_of_getElem? (i := 39) rfl) rfl
theorem kf_X6_79 : Cond.fieldLink RX6 79 "CoalitionChecker$Structure" "plannedActions" "[I" ∈ tG := t1_in (List.mem_of_getElem? (i := 50) rfl) rfl
theorem kf_X6_82 : Cond.fieldLink RX6 82 "CoalitionChecker$Structure" "actionCounts" "[I" ∈ tG := t1_in (List.mem_of_getElem? (i := 48) rfl) rfl
theorem kf_X7_9 : Cond.fieldLink RX7 9 "CoalitionChecker$Structure" "labelSets" "[I" ∈ tG := t1_in (List.mem_of_getElem? (i := 46) rfl) rfl
theorem kf_X7_15 : Cond.fieldLink RX7 15 "CoalitionChecker$Structure" "actionCounts" "[I" ∈ tG := t1_in (List.mem_of_getElem? (i := 47) rfl) rfl
theorem kf_X7_18 : Cond.fieldLink RX7 18 "CoalitionChecker$Structure" "plannedActions" "[I" ∈ tG := t1_in (List.mem_of_getElem? (i := 49) rfl) rfl
theorem kf_X7_21 : Cond.fieldLink RX7 21 "CoalitionChecker$Structure" "targets" "[I" ∈ tG := t1_in (List.mem_of_getElem? (i := 51) rfl) rfl
theorem kf_X7_24 : Cond.fieldLink RX7 24 "CoalitionChecker$Structure" "stateCount" "I" ∈ tG := t1_in (List.mem_of_getElem? (i := 53) rfl) rfl
theorem kf_X7_28 : Cond.fieldLink RX7 28 "CoalitionChecker$Structure" "agentCount" "I" ∈ tG := t1_in (List.mem_of_getElem? (i := 36) rfl) rfl
theorem kf_X7_31 : Cond.fieldLink RX7 31 "CoalitionChecker$Structure" "coalitionLimit" "I" ∈ tG := t1_in (List.mem_of_getElem? (i := 40) rfl) rfl
theorem kf_X7_34 : Cond.fieldLink RX7 34 "CoalitionChecker$Structure" "moveLimit" "I" ∈ tG := t1_in (List.mem_of_getElem? (i := 43) rfl) rfl
theorem kf_X8_9 : Cond.fieldLink RX8 9 "CoalitionChecker$Tactics" "held" "I" ∈ tG := t1_in (List.mem_of_getElem? (i := 191) rfl) rfl
theorem kf_X8_15 : Cond.fieldLink RX8 15 "CoalitionChecker$Tactics" "structure" "LCoalitionChecker$Structure;" ∈ tG := t1_in (List.mem_of_getElem? (i := 188) rfl) rfl
theorem kf_X8_19 : Cond.fieldLink RX8 19 "CoalitionChecker$Tactics" "steps" "LCoalitionChecker$Steps;" ∈ tG := t1_in (List.mem_of_getElem? (i := 189) rfl) rfl
theorem kf_X8_23 : Cond.fieldLink RX8 23 "CoalitionChecker$Tactics" "meaning" "LCoalitionChecker$Meaning;" ∈ tG := t1_in (List.mem_of_getElem? (i := 190) rfl) rfl
theorem kf_X8_46 : Cond.fieldLink RX8 46 "CoalitionChecker$Formula" "count" "I" ∈ tG := t1_in (List.mem_of_getElem? (i := 238) rfl) rfl
theorem kf_X8_74 : Cond.fieldLink RX8 74 "CoalitionChecker$Structure" "stateCount" "I" ∈ tG := t1_in (List.mem_of_getElem? (i := 56) rfl) rfl
theorem kf_X8_83 : Cond.fieldLink RX8 83 "CoalitionChecker$Structure" "agentCount" "I" ∈ tG := t1_in (List.mem_of_getElem? (i := 38) rfl) rfl
theorem kf_X8_99 : Cond.fieldLink RX8 99 "CoalitionChecker$Structure" "coalitionLimit" "I" ∈ tG := t1_in (List.mem_of_getElem? (i := 42) rfl) rfl
theorem kf_X9_11 : Cond.fieldLink RX9 11 "CoalitionChecker" "kept" "[LCoalitionChecker$Formula;" ∈ tG := t2_in (List.mem_of_getElem? (i := 18) rfl) rfl
theorem kf_X9_15 : Cond.fieldLink RX9 15 "CoalitionChecker" "keptCount" "I" ∈ tG := t2_in (List.mem_of_getElem? (i := 19) rfl) rfl
theorem kf_X9_33 : Cond.fieldLink RX9 33 "CoalitionChecker" "structure" "LCoalitionChecker$Structure;" ∈ tG := t2_in (List.mem_of_getElem? (i := 11) rfl) rfl
theorem kf_X9_40 : Cond.fieldLink RX9 40 "CoalitionChecker" "history" "LCoalitionChecker$History;" ∈ tG := t2_in (List.mem_of_getElem? (i := 12) rfl) rfl
theorem kf_X9_49 : Cond.fieldLink RX9 49 "CoalitionChecker" "steps" "LCoalitionChecker$Steps;" ∈ tG := t2_in (List.mem_of_getElem? (i := 13) rfl) rfl
theorem kf_X9_56 : Cond.fieldLink RX9 56 "CoalitionChecker" "reader" "LCoalitionChecker$Reader;" ∈ tG := t2_in (List.mem_of_getElem? (i := 14) rfl) rfl
theorem kf_X9_65 : Cond.fieldLink RX9 65 "CoalitionChecker" "meaning" "LCoalitionChecker$Meaning;" ∈ tG := t2_in (List.mem_of_getElem? (i := 15) rfl) rfl
theorem kf_X9_74 : Cond.fieldLink RX9 74 "CoalitionChecker" "tactics" "LCoalitionChecker$Tactics;" ∈ tG := t2_in (List.mem_of_getElem? (i := 16) rfl) rfl
theorem kf_X9_81 : Cond.fieldLink RX9 81 "CoalitionChecker" "likeness" "LCoalitionChecker$Likeness;" ∈ tG := t2_in (List.mem_of_getElem? (i := 17) rfl) rfl
theorem kf_X9_86 : Cond.fieldLink RX9 86 "CoalitionChecker$Structure" "agentCount" "I" ∈ tG := t1_in (List.mem_of_getElem? (i := 37) rfl) rfl
theorem kf_X9_89 : Cond.fieldLink RX9 89 "CoalitionChecker$Structure" "stateCount" "I" ∈ tG := t1_in (List.mem_of_getElem? (i := 54) rfl) rfl
theorem kf_X9_158 : Cond.fieldLink RX9 158 "CoalitionChecker$Reader" "length" "I" ∈ tG := t1_in (List.mem_of_getElem? (i := 131) rfl) rfl
theorem kf_X9_169 : Cond.fieldLink RX9 169 "CoalitionChecker$Formula" "count" "I" ∈ tG := t1_in (List.mem_of_getElem? (i := 239) rfl) rfl
theorem kf_X9_236 : Cond.fieldLink RX9 236 "CoalitionChecker$History" "count" "I" ∈ tG := t1_in (List.mem_of_getElem? (i := 89) rfl) rfl
theorem ki_X0 : Cond.initialized RX0 ∈ tG := t1_in (List.mem_of_getElem? (i := 10) rfl) rfl
theorem ki_X1 : Cond.initialized RX1 ∈ tG := t1_in (List.mem_of_getElem? (i := 4) rfl) rfl
theorem ki_X2 : Cond.initialized RX2 ∈ tG := t1_in (List.mem_of_getElem? (i := 9) rfl) rfl
theorem ki_X3 : Cond.initialized RX3 ∈ tG := t1_in (List.mem_of_getElem? (i := 7) rfl) rfl
theorem ki_X4 : Cond.initialized RX4 ∈ tG := t1_in (List.mem_of_getElem? (i := 6) rfl) rfl
theorem ki_X5 : Cond.initialized RX5 ∈ tG := t1_in (List.mem_of_getElem? (i := 11) rfl) rfl
theorem ki_X6 : Cond.initialized RX6 ∈ tG := t1_in (List.mem_of_getElem? (i := 5) rfl) rfl
theorem ki_X7 : Cond.initialized RX7 ∈ tG := t1_in (List.mem_of_getElem? (i := 3) rfl) rfl
theorem ki_X8 : Cond.initialized RX8 ∈ tG := t1_in (List.mem_of_getElem? (i := 8) rfl) rfl
theorem ki_X9 : Cond.initialized RX9 ∈ tG := t1_in (List.mem_of_getElem? (i := 1) rfl) rfl
theorem ki_L : Cond.initialized RL ∈ tG := t1_in (List.mem_of_getElem? (i := 0) rfl) rfl
theorem ki_Math : Cond.initialized "java/lang/Math" ∈ tG := t1_in (List.mem_of_getElem? (i := 2) rfl) rfl
theorem ki_System : Cond.initialized "java/lang/System" ∈ tG := t1_in (List.mem_of_getElem? (i := 12) rfl) rfl
theorem ki_Integer : Cond.initialized "java/lang/Integer" ∈ tG := t1_in (List.mem_of_getElem? (i := 13) rfl) rfl
theorem kc_J6_265 : Cond.constant RJ6 265 (1431655765) ∈ tG := t4_in (List.mem_of_getElem? (i := 119) rfl) rfl
theorem kc_J6_266 : Cond.constant RJ6 266 (858993459) ∈ tG := t4_in (List.mem_of_getElem? (i := 120) rfl) rfl
theorem kc_J6_267 : Cond.constant RJ6 267 (252645135) ∈ tG := t4_in (List.mem_of_getElem? (i := 121) rfl) rfl
theorem kc_L_7 : Cond.constant RL 7 (763049417) ∈ tG := t2_in (List.mem_of_getElem? (i := 139) rfl) rfl
theorem kc_L_8 : Cond.constant RL 8 (2147483647) ∈ tG := t2_in (List.mem_of_getElem? (i := 143) rfl) rfl
theorem kc_X7_81 : Cond.constantLong RX7 81 (31) ∈ tG := t2_in (List.mem_of_getElem? (i := 156) rfl) rfl
theorem kc_X8_107 : Cond.constant RX8 107 (1103515245) ∈ tG := t4_in (List.mem_of_getElem? (i := 133) rfl) rfl
theorem kc_X8_108 : Cond.constant RX8 108 (2147483647) ∈ tG := t4_in (List.mem_of_getElem? (i := 134) rfl) rfl
theorem kc_X9_237 : Cond.constantLong RX9 237 (41) ∈ tG := t2_in (List.mem_of_getElem? (i := 151) rfl) rfl
theorem kc_X9_243 : Cond.constantLong RX9 243 (31) ∈ tG := t2_in (List.mem_of_getElem? (i := 171) rfl) rfl
theorem biX0_add : biV RX0 yX0_add cX0_add 5 (some .int) := ⟨t3_in (List.mem_of_getElem? (i := 214) rfl) rfl, t3_in (List.mem_of_getElem? (i := 215) rfl) rfl, ki_X0, t3_in (List.mem_of_getElem? (i := 216) rfl) rfl⟩
theorem biX0_kind : biV RX0 yX0_kind cX0_kind 2 (some .int) := ⟨t3_in (List.mem_of_getElem? (i := 74) rfl) rfl, t3_in (List.mem_of_getElem? (i := 75) rfl) rfl, ki_X0, t3_in (List.mem_of_getElem? (i := 76) rfl) rfl⟩
theorem biX0_detail : biV RX0 yX0_detail cX0_detail 2 (some .int) := ⟨t3_in (List.mem_of_getElem? (i := 88) rfl) rfl, t3_in (List.mem_of_getElem? (i := 89) rfl) rfl, ki_X0, t3_in (List.mem_of_getElem? (i := 90) rfl) rfl⟩
theorem biX0_first : biV RX0 yX0_first cX0_first 2 (some .int) := ⟨t3_in (List.mem_of_getElem? (i := 79) rfl) rfl, t3_in (List.mem_of_getElem? (i := 80) rfl) rfl, ki_X0, t3_in (List.mem_of_getElem? (i := 81) rfl) rfl⟩
theorem biX0_second : biV RX0 yX0_second cX0_second 2 (some .int) := ⟨t3_in (List.mem_of_getElem? (i := 84) rfl) rfl, t3_in (List.mem_of_getElem? (i := 85) rfl) rfl, ki_X0, t3_in (List.mem_of_getElem? (i := 86) rfl) rfl⟩
theorem biX0_topKind : biV RX0 yX0_topKind cX0_topKind 1 (some .int) := ⟨t4_in (List.mem_of_getElem? (i := 45) rfl) rfl, t4_in (List.mem_of_getElem? (i := 46) rfl) rfl, ki_X0, t4_in (List.mem_of_getElem? (i := 47) rfl) rfl⟩
theorem biX0_topCoalition : biV RX0 yX0_topCoalition cX0_topCoalition 1 (some .int) := ⟨t4_in (List.mem_of_getElem? (i := 50) rfl) rfl, t4_in (List.mem_of_getElem? (i := 51) rfl) rfl, ki_X0, t4_in (List.mem_of_getElem? (i := 52) rfl) rfl⟩
theorem biX0_hasStrategy : biV RX0 yX0_hasStrategy cX0_hasStrategy 1 (some .boolean) := ⟨t4_in (List.mem_of_getElem? (i := 41) rfl) rfl, t4_in (List.mem_of_getElem? (i := 42) rfl) rfl, ki_X0, t4_in (List.mem_of_getElem? (i := 43) rfl) rfl⟩
theorem biX1_keep : biV RX1 yX1_keep cX1_keep 3 none := ⟨t2_in (List.mem_of_getElem? (i := 181) rfl) rfl, t2_in (List.mem_of_getElem? (i := 182) rfl) rfl, ki_X1, t2_in (List.mem_of_getElem? (i := 183) rfl) rfl⟩
theorem biX1_restore : biV RX1 yX1_restore cX1_restore 3 (some .boolean) := ⟨t2_in (List.mem_of_getElem? (i := 124) rfl) rfl, t2_in (List.mem_of_getElem? (i := 125) rfl) rfl, ki_X1, t2_in (List.mem_of_getElem? (i := 126) rfl) rfl⟩
theorem biX1_slotAt : biV RX1 yX1_slotAt cX1_slotAt 3 (some (.object "CoalitionChecker$Structure")) := ⟨t2_in (List.mem_of_getElem? (i := 129) rfl) rfl, pv_in (n := 3) (pr1_in (List.mem_of_getElem? (i := 5) rfl)), ki_X1, t2_in (List.mem_of_getElem? (i := 130) rfl) rfl⟩
theorem biX2_classNumber : biV RX2 yX2_classNumber cX2_classNumber 2 (some .int) := ⟨t2_in (List.mem_of_getElem? (i := 72) rfl) rfl, t2_in (List.mem_of_getElem? (i := 73) rfl) rfl, ki_X2, t2_in (List.mem_of_getElem? (i := 74) rfl) rfl⟩
theorem biX2_divide : biV RX2 yX2_divide cX2_divide 4 (some .int) := ⟨t2_in (List.mem_of_getElem? (i := 56) rfl) rfl, t2_in (List.mem_of_getElem? (i := 57) rfl) rfl, ki_X2, t2_in (List.mem_of_getElem? (i := 58) rfl) rfl⟩
theorem biX2_refine : biV RX2 yX2_refine cX2_refine 4 (some .int) := ⟨t2_in (List.mem_of_getElem? (i := 65) rfl) rfl, pv_in (n := 6) (pr1_in (List.mem_of_getElem? (i := 0) rfl)), ki_X2, t2_in (List.mem_of_getElem? (i := 66) rfl) rfl⟩
theorem biX2_firstLike : biV RX2 yX2_firstLike cX2_firstLike 3 (some .int) := ⟨t2_in (List.mem_of_getElem? (i := 69) rfl) rfl, pv_in (n := 6) (pr1_in (List.mem_of_getElem? (i := 1) rfl)), ki_X2, t2_in (List.mem_of_getElem? (i := 70) rfl) rfl⟩
theorem biX2_areAlike : biV RX2 yX2_areAlike cX2_areAlike 4 (some .boolean) := ⟨t2_in (List.mem_of_getElem? (i := 85) rfl) rfl, pv_in (n := 6) (pr1_in (List.mem_of_getElem? (i := 2) rfl)), ki_X2, t2_in (List.mem_of_getElem? (i := 86) rfl) rfl⟩
theorem biX2_answers : biV RX2 yX2_answers cX2_answers 5 (some .boolean) := ⟨t2_in (List.mem_of_getElem? (i := 95) rfl) rfl, pv_in (n := 6) (pr1_in (List.mem_of_getElem? (i := 3) rfl)), ki_X2, t2_in (List.mem_of_getElem? (i := 96) rfl) rfl⟩
theorem biX2_hasWithin : biV RX2 yX2_hasWithin cX2_hasWithin 4 (some .boolean) := ⟨t2_in (List.mem_of_getElem? (i := 99) rfl) rfl, pv_in (n := 6) (pr1_in (List.mem_of_getElem? (i := 4) rfl)), ki_X2, t2_in (List.mem_of_getElem? (i := 100) rfl) rfl⟩
theorem biX3_look : biV RX3 yX3_look cX3_look 7 none := ⟨t3_in (List.mem_of_getElem? (i := 70) rfl) rfl, t3_in (List.mem_of_getElem? (i := 71) rfl) rfl, ki_X3, t3_in (List.mem_of_getElem? (i := 72) rfl) rfl⟩
theorem biX3_setOf : biV RX3 yX3_setOf cX3_setOf 2 (some .int) := ⟨t3_in (List.mem_of_getElem? (i := 131) rfl) rfl, t3_in (List.mem_of_getElem? (i := 132) rfl) rfl, ki_X3, t3_in (List.mem_of_getElem? (i := 133) rfl) rfl⟩
theorem biX3_whole : biV RX3 yX3_whole cX3_whole 2 (some .int) := ⟨t3_in (List.mem_of_getElem? (i := 139) rfl) rfl, t3_in (List.mem_of_getElem? (i := 140) rfl) rfl, ki_X3, t3_in (List.mem_of_getElem? (i := 141) rfl) rfl⟩
theorem biX3_goalSet : biV RX3 yX3_goalSet cX3_goalSet 5 (some .int) := ⟨t4_in (List.mem_of_getElem? (i := 55) rfl) rfl, t4_in (List.mem_of_getElem? (i := 56) rfl) rfl, ki_X3, t4_in (List.mem_of_getElem? (i := 57) rfl) rfl⟩
theorem biX3_rankOf : biV RX3 yX3_rankOf cX3_rankOf 2 (some .int) := ⟨t4_in (List.mem_of_getElem? (i := 82) rfl) rfl, t4_in (List.mem_of_getElem? (i := 83) rfl) rfl, ki_X3, t4_in (List.mem_of_getElem? (i := 84) rfl) rfl⟩
theorem biX3_statesBelow : biV RX3 yX3_statesBelow cX3_statesBelow 5 (some .int) := ⟨t4_in (List.mem_of_getElem? (i := 86) rfl) rfl, t4_in (List.mem_of_getElem? (i := 87) rfl) rfl, ki_X3, t4_in (List.mem_of_getElem? (i := 88) rfl) rfl⟩
theorem biX3_labelled : biV RX3 yX3_labelled cX3_labelled 4 (some .int) := ⟨t3_in (List.mem_of_getElem? (i := 93) rfl) rfl, pv_in (n := 4) (pr1_in (List.mem_of_getElem? (i := 12) rfl)), ki_X3, t3_in (List.mem_of_getElem? (i := 94) rfl) rfl⟩
theorem biX3_plainSet : biV RX3 yX3_plainSet cX3_plainSet 4 (some .int) := ⟨t3_in (List.mem_of_getElem? (i := 98) rfl) rfl, pv_in (n := 4) (pr1_in (List.mem_of_getElem? (i := 13) rfl)), ki_X3, t3_in (List.mem_of_getElem? (i := 99) rfl) rfl⟩
theorem biX3_strongSet : biV RX3 yX3_strongSet cX3_strongSet 6 (some .int) := ⟨t3_in (List.mem_of_getElem? (i := 103) rfl) rfl, pv_in (n := 4) (pr1_in (List.mem_of_getElem? (i := 14) rfl)), ki_X3, t3_in (List.mem_of_getElem? (i := 104) rfl) rfl⟩
theorem biX3_boxSet : biV RX3 yX3_boxSet cX3_boxSet 6 (some .int) := ⟨t3_in (List.mem_of_getElem? (i := 124) rfl) rfl, pv_in (n := 4) (pr2_in (List.mem_of_getElem? (i := 1) rfl)), ki_X3, t3_in (List.mem_of_getElem? (i := 125) rfl) rfl⟩
theorem biX3_reached : biV RX3 yX3_reached cX3_reached 9 (some .int) := ⟨t3_in (List.mem_of_getElem? (i := 115) rfl) rfl, pv_in (n := 4) (pr1_in (List.mem_of_getElem? (i := 15) rfl)), ki_X3, t3_in (List.mem_of_getElem? (i := 116) rfl) rfl⟩
theorem biX3_kept : biV RX3 yX3_kept cX3_kept 7 (some .int) := ⟨t3_in (List.mem_of_getElem? (i := 120) rfl) rfl, pv_in (n := 4) (pr2_in (List.mem_of_getElem? (i := 0) rfl)), ki_X3, t3_in (List.mem_of_getElem? (i := 121) rfl) rfl⟩
theorem biX3_unavoidable : biV RX3 yX3_unavoidable cX3_unavoidable 8 (some .int) := ⟨t3_in (List.mem_of_getElem? (i := 128) rfl) rfl, pv_in (n := 4) (pr2_in (List.mem_of_getElem? (i := 2) rfl)), ki_X3, t3_in (List.mem_of_getElem? (i := 129) rfl) rfl⟩
theorem biX4_append : biV RX4 yX4_append cX4_append 2 (some .boolean) := ⟨t3_in (List.mem_of_getElem? (i := 57) rfl) rfl, t3_in (List.mem_of_getElem? (i := 58) rfl) rfl, ki_X4, t3_in (List.mem_of_getElem? (i := 59) rfl) rfl⟩
theorem biX4_parse : biV RX4 yX4_parse cX4_parse 3 (some .int) := ⟨t3_in (List.mem_of_getElem? (i := 197) rfl) rfl, t3_in (List.mem_of_getElem? (i := 198) rfl) rfl, ki_X4, t3_in (List.mem_of_getElem? (i := 199) rfl) rfl⟩
theorem biX4_take : biV RX4 yX4_take cX4_take 2 (some .boolean) := ⟨t3_in (List.mem_of_getElem? (i := 203) rfl) rfl, pv_in (n := 12) (pr2_in (List.mem_of_getElem? (i := 3) rfl)), ki_X4, t3_in (List.mem_of_getElem? (i := 204) rfl) rfl⟩
theorem biX4_takeUnit : biV RX4 yX4_takeUnit cX4_takeUnit 2 (some .boolean) := ⟨t3_in (List.mem_of_getElem? (i := 207) rfl) rfl, pv_in (n := 12) (pr2_in (List.mem_of_getElem? (i := 4) rfl)), ki_X4, t3_in (List.mem_of_getElem? (i := 208) rfl) rfl⟩
theorem biX4_takeAgent : biV RX4 yX4_takeAgent cX4_takeAgent 3 (some .boolean) := ⟨t3_in (List.mem_of_getElem? (i := 228) rfl) rfl, pv_in (n := 12) (pr2_in (List.mem_of_getElem? (i := 8) rfl)), ki_X4, t3_in (List.mem_of_getElem? (i := 229) rfl) rfl⟩
theorem biX4_takeGoal : biV RX4 yX4_takeGoal cX4_takeGoal 2 (some .boolean) := ⟨t3_in (List.mem_of_getElem? (i := 232) rfl) rfl, pv_in (n := 12) (pr2_in (List.mem_of_getElem? (i := 9) rfl)), ki_X4, t3_in (List.mem_of_getElem? (i := 233) rfl) rfl⟩
theorem biX4_takeAfterUnit : biV RX4 yX4_takeAfterUnit cX4_takeAfterUnit 2 (some .boolean) := ⟨t3_in (List.mem_of_getElem? (i := 236) rfl) rfl, pv_in (n := 12) (pr2_in (List.mem_of_getElem? (i := 10) rfl)), ki_X4, t3_in (List.mem_of_getElem? (i := 237) rfl) rfl⟩
theorem biX4_takeUntil : biV RX4 yX4_takeUntil cX4_takeUntil 2 (some .boolean) := ⟨t4_in (List.mem_of_getElem? (i := 19) rfl) rfl, pv_in (n := 12) (pr2_in (List.mem_of_getElem? (i := 15) rfl)), ki_X4, t4_in (List.mem_of_getElem? (i := 20) rfl) rfl⟩
theorem biX4_takeBracket : biV RX4 yX4_takeBracket cX4_takeBracket 2 (some .boolean) := ⟨t4_in (List.mem_of_getElem? (i := 23) rfl) rfl, pv_in (n := 12) (pr3_in (List.mem_of_getElem? (i := 0) rfl)), ki_X4, t4_in (List.mem_of_getElem? (i := 24) rfl) rfl⟩
theorem biX4_addLeaf : biV RX4 yX4_addLeaf cX4_addLeaf 3 (some .boolean) := ⟨t3_in (List.mem_of_getElem? (i := 211) rfl) rfl, pv_in (n := 12) (pr2_in (List.mem_of_getElem? (i := 5) rfl)), ki_X4, t3_in (List.mem_of_getElem? (i := 212) rfl) rfl⟩
theorem biX4_closePrefixes : biV RX4 yX4_closePrefixes cX4_closePrefixes 2 none := ⟨t4_in (List.mem_of_getElem? (i := 27) rfl) rfl, pv_in (n := 12) (pr3_in (List.mem_of_getElem? (i := 1) rfl)), ki_X4, t4_in (List.mem_of_getElem? (i := 28) rfl) rfl⟩
theorem biX4_isPrefix : biS yX4_isPrefix cX4_isPrefix 2 (some .boolean) := ⟨t4_in (List.mem_of_getElem? (i := 11) rfl) rfl, ki_X4, t4_in (List.mem_of_getElem? (i := 12) rfl) rfl⟩
theorem biX4_closeIf : biV RX4 yX4_closeIf cX4_closeIf 2 none := ⟨t4_in (List.mem_of_getElem? (i := 0) rfl) rfl, pv_in (n := 12) (pr2_in (List.mem_of_getElem? (i := 11) rfl)), ki_X4, t4_in (List.mem_of_getElem? (i := 1) rfl) rfl⟩
theorem biX4_close : biV RX4 yX4_close cX4_close 5 none := ⟨t4_in (List.mem_of_getElem? (i := 8) rfl) rfl, pv_in (n := 12) (pr2_in (List.mem_of_getElem? (i := 13) rfl)), ki_X4, t4_in (List.mem_of_getElem? (i := 9) rfl) rfl⟩
theorem biX4_topOpen : biV RX4 yX4_topOpen cX4_topOpen 1 (some .int) := ⟨t4_in (List.mem_of_getElem? (i := 4) rfl) rfl, pv_in (n := 12) (pr2_in (List.mem_of_getElem? (i := 12) rfl)), ki_X4, t4_in (List.mem_of_getElem? (i := 5) rfl) rfl⟩
theorem biX4_push : biV RX4 yX4_push cX4_push 3 (some .boolean) := ⟨t3_in (List.mem_of_getElem? (i := 224) rfl) rfl, pv_in (n := 12) (pr2_in (List.mem_of_getElem? (i := 7) rfl)), ki_X4, t3_in (List.mem_of_getElem? (i := 225) rfl) rfl⟩
theorem biX4_pushOperand : biV RX4 yX4_pushOperand cX4_pushOperand 2 none := ⟨t3_in (List.mem_of_getElem? (i := 220) rfl) rfl, pv_in (n := 12) (pr2_in (List.mem_of_getElem? (i := 6) rfl)), ki_X4, t3_in (List.mem_of_getElem? (i := 221) rfl) rfl⟩
theorem biX4_popOperand : biV RX4 yX4_popOperand cX4_popOperand 1 (some .int) := ⟨t4_in (List.mem_of_getElem? (i := 15) rfl) rfl, pv_in (n := 12) (pr2_in (List.mem_of_getElem? (i := 14) rfl)), ki_X4, t4_in (List.mem_of_getElem? (i := 16) rfl) rfl⟩
theorem biX5_at : biS yX5_at cX5_at 2 (some .int) := ⟨t2_in (List.mem_of_getElem? (i := 76) rfl) rfl, ki_X5, t2_in (List.mem_of_getElem? (i := 77) rfl) rfl⟩
theorem biX5_put : biS yX5_put cX5_put 3 none := ⟨t2_in (List.mem_of_getElem? (i := 60) rfl) rfl, ki_X5, t2_in (List.mem_of_getElem? (i := 61) rfl) rfl⟩
theorem biX5_copy : biS yX5_copy cX5_copy 2 none := ⟨t2_in (List.mem_of_getElem? (i := 105) rfl) rfl, ki_X5, t2_in (List.mem_of_getElem? (i := 106) rfl) rfl⟩
theorem biX6_spread : biV RX6 yX6_spread cX6_spread 8 none := ⟨t2_in (List.mem_of_getElem? (i := 88) rfl) rfl, t2_in (List.mem_of_getElem? (i := 89) rfl) rfl, ki_X6, t2_in (List.mem_of_getElem? (i := 90) rfl) rfl⟩
theorem biX6_isForced : biS yX6_isForced cX6_isForced 2 (some .boolean) := ⟨t2_in (List.mem_of_getElem? (i := 102) rfl) rfl, ki_X6, t2_in (List.mem_of_getElem? (i := 103) rfl) rfl⟩
theorem biX6_leastForcing : biV RX6 yX6_leastForcing cX6_leastForcing 4 (some .int) := ⟨t3_in (List.mem_of_getElem? (i := 17) rfl) rfl, t3_in (List.mem_of_getElem? (i := 18) rfl) rfl, ki_X6, t3_in (List.mem_of_getElem? (i := 19) rfl) rfl⟩
theorem biX6_isJointAction : biV RX6 yX6_isJointAction cX6_isJointAction 4 (some .boolean) := ⟨t3_in (List.mem_of_getElem? (i := 31) rfl) rfl, t3_in (List.mem_of_getElem? (i := 32) rfl) rfl, ki_X6, t3_in (List.mem_of_getElem? (i := 33) rfl) rfl⟩
theorem biX6_leastLeaving : biV RX6 yX6_leastLeaving cX6_leastLeaving 7 (some .int) := ⟨t3_in (List.mem_of_getElem? (i := 35) rfl) rfl, t3_in (List.mem_of_getElem? (i := 36) rfl) rfl, ki_X6, t3_in (List.mem_of_getElem? (i := 37) rfl) rfl⟩
theorem biX6_countForced : biV RX6 yX6_countForced cX6_countForced 5 (some .int) := ⟨t3_in (List.mem_of_getElem? (i := 48) rfl) rfl, t3_in (List.mem_of_getElem? (i := 49) rfl) rfl, ki_X6, t3_in (List.mem_of_getElem? (i := 50) rfl) rfl⟩
theorem biX6_forcing : biV RX6 yX6_forcing cX6_forcing 7 (some .int) := ⟨t3_in (List.mem_of_getElem? (i := 106) rfl) rfl, t3_in (List.mem_of_getElem? (i := 107) rfl) rfl, ki_X6, t3_in (List.mem_of_getElem? (i := 108) rfl) rfl⟩
theorem biX6_chosenJoint : biV RX6 yX6_chosenJoint cX6_chosenJoint 9 (some .int) := ⟨t3_in (List.mem_of_getElem? (i := 110) rfl) rfl, t3_in (List.mem_of_getElem? (i := 111) rfl) rfl, ki_X6, t3_in (List.mem_of_getElem? (i := 112) rfl) rfl⟩
theorem biX6_follow : biV RX6 yX6_follow cX6_follow 9 (some .int) := ⟨t4_in (List.mem_of_getElem? (i := 136) rfl) rfl, t4_in (List.mem_of_getElem? (i := 137) rfl) rfl, ki_X6, t4_in (List.mem_of_getElem? (i := 138) rfl) rfl⟩
theorem biX6_leastWithin : biV RX6 yX6_leastWithin cX6_leastWithin 3 (some .int) := ⟨t3_in (List.mem_of_getElem? (i := 23) rfl) rfl, pv_in (n := 4) (pr1_in (List.mem_of_getElem? (i := 9) rfl)), ki_X6, t3_in (List.mem_of_getElem? (i := 24) rfl) rfl⟩
theorem biX6_jointPart : biV RX6 yX6_jointPart cX6_jointPart 3 (some .int) := ⟨t3_in (List.mem_of_getElem? (i := 41) rfl) rfl, pv_in (n := 4) (pr1_in (List.mem_of_getElem? (i := 10) rfl)), ki_X6, t3_in (List.mem_of_getElem? (i := 42) rfl) rfl⟩
theorem biX6_partOf : biS yX6_partOf cX6_partOf 6 (some .int) := ⟨t1_in (List.mem_of_getElem? (i := 104) rfl) rfl, ki_X6, t1_in (List.mem_of_getElem? (i := 105) rfl) rfl⟩
theorem biX7_copyFrom : biV RX7 yX7_copyFrom cX7_copyFrom 2 none := ⟨t2_in (List.mem_of_getElem? (i := 132) rfl) rfl, t2_in (List.mem_of_getElem? (i := 133) rfl) rfl, ki_X7, t2_in (List.mem_of_getElem? (i := 134) rfl) rfl⟩
theorem biX7_hasState : biV RX7 yX7_hasState cX7_hasState 2 (some .boolean) := ⟨t2_in (List.mem_of_getElem? (i := 115) rfl) rfl, t2_in (List.mem_of_getElem? (i := 116) rfl) rfl, ki_X7, t2_in (List.mem_of_getElem? (i := 117) rfl) rfl⟩
theorem biX7_hasPlace : biV RX7 yX7_hasPlace cX7_hasPlace 3 (some .boolean) := ⟨t2_in (List.mem_of_getElem? (i := 177) rfl) rfl, t2_in (List.mem_of_getElem? (i := 178) rfl) rfl, ki_X7, t2_in (List.mem_of_getElem? (i := 179) rfl) rfl⟩
theorem biX7_hasCoalition : biV RX7 yX7_hasCoalition cX7_hasCoalition 2 (some .boolean) := ⟨t3_in (List.mem_of_getElem? (i := 5) rfl) rfl, t3_in (List.mem_of_getElem? (i := 6) rfl) rfl, ki_X7, t3_in (List.mem_of_getElem? (i := 7) rfl) rfl⟩
theorem biX7_hasSet : biV RX7 yX7_hasSet cX7_hasSet 2 (some .boolean) := ⟨t3_in (List.mem_of_getElem? (i := 9) rfl) rfl, t3_in (List.mem_of_getElem? (i := 10) rfl) rfl, ki_X7, t3_in (List.mem_of_getElem? (i := 11) rfl) rfl⟩
theorem biX7_allStates : biV RX7 yX7_allStates cX7_allStates 1 (some .int) := ⟨t3_in (List.mem_of_getElem? (i := 13) rfl) rfl, t3_in (List.mem_of_getElem? (i := 14) rfl) rfl, ki_X7, t3_in (List.mem_of_getElem? (i := 15) rfl) rfl⟩
theorem biX7_labelSet : biV RX7 yX7_labelSet cX7_labelSet 2 (some .int) := ⟨t2_in (List.mem_of_getElem? (i := 79) rfl) rfl, t2_in (List.mem_of_getElem? (i := 80) rfl) rfl, ki_X7, t2_in (List.mem_of_getElem? (i := 81) rfl) rfl⟩
theorem biX7_setLabelSet : biV RX7 yX7_setLabelSet cX7_setLabelSet 3 none := ⟨t2_in (List.mem_of_getElem? (i := 211) rfl) rfl, t2_in (List.mem_of_getElem? (i := 212) rfl) rfl, ki_X7, t2_in (List.mem_of_getElem? (i := 213) rfl) rfl⟩
theorem biX7_actionCount : biV RX7 yX7_actionCount cX7_actionCount 3 (some .int) := ⟨t2_in (List.mem_of_getElem? (i := 159) rfl) rfl, t2_in (List.mem_of_getElem? (i := 160) rfl) rfl, ki_X7, t2_in (List.mem_of_getElem? (i := 161) rfl) rfl⟩
theorem biX7_setActionCount : biV RX7 yX7_setActionCount cX7_setActionCount 4 none := ⟨t2_in (List.mem_of_getElem? (i := 186) rfl) rfl, t2_in (List.mem_of_getElem? (i := 187) rfl) rfl, ki_X7, t2_in (List.mem_of_getElem? (i := 188) rfl) rfl⟩
theorem biX7_plannedAction : biV RX7 yX7_plannedAction cX7_plannedAction 3 (some .int) := ⟨t2_in (List.mem_of_getElem? (i := 163) rfl) rfl, t2_in (List.mem_of_getElem? (i := 164) rfl) rfl, ki_X7, t2_in (List.mem_of_getElem? (i := 165) rfl) rfl⟩
theorem biX7_setPlannedAction : biV RX7 yX7_setPlannedAction cX7_setPlannedAction 4 none := ⟨t3_in (List.mem_of_getElem? (i := 150) rfl) rfl, t3_in (List.mem_of_getElem? (i := 151) rfl) rfl, ki_X7, t3_in (List.mem_of_getElem? (i := 152) rfl) rfl⟩
theorem biX7_target : biV RX7 yX7_target cX7_target 3 (some .int) := ⟨t2_in (List.mem_of_getElem? (i := 167) rfl) rfl, t2_in (List.mem_of_getElem? (i := 168) rfl) rfl, ki_X7, t2_in (List.mem_of_getElem? (i := 169) rfl) rfl⟩
theorem biX7_setTarget : biV RX7 yX7_setTarget cX7_setTarget 4 none := ⟨t2_in (List.mem_of_getElem? (i := 202) rfl) rfl, t2_in (List.mem_of_getElem? (i := 203) rfl) rfl, ki_X7, t2_in (List.mem_of_getElem? (i := 204) rfl) rfl⟩
theorem biX7_possibleMoves : biV RX7 yX7_possibleMoves cX7_possibleMoves 4 (some .int) := ⟨t3_in (List.mem_of_getElem? (i := 179) rfl) rfl, t3_in (List.mem_of_getElem? (i := 180) rfl) rfl, ki_X7, t3_in (List.mem_of_getElem? (i := 181) rfl) rfl⟩
theorem biX7_grow : biV RX7 yX7_grow cX7_grow 3 (some .int) := ⟨t3_in (List.mem_of_getElem? (i := 165) rfl) rfl, t3_in (List.mem_of_getElem? (i := 166) rfl) rfl, ki_X7, t3_in (List.mem_of_getElem? (i := 167) rfl) rfl⟩
theorem biX7_redirect : biV RX7 yX7_redirect cX7_redirect 8 (some .int) := ⟨t2_in (List.mem_of_getElem? (i := 229) rfl) rfl, t2_in (List.mem_of_getElem? (i := 230) rfl) rfl, ki_X7, t2_in (List.mem_of_getElem? (i := 231) rfl) rfl⟩
theorem biX7_mix : biV RX7 yX7_mix cX7_mix 8 (some .long) := ⟨t2_in (List.mem_of_getElem? (i := 153) rfl) rfl, t2_in (List.mem_of_getElem? (i := 154) rfl) rfl, ki_X7, t2_in (List.mem_of_getElem? (i := 155) rfl) rfl⟩
theorem biX7_leadBack : biV RX7 yX7_leadBack cX7_leadBack 3 none := ⟨t2_in (List.mem_of_getElem? (i := 192) rfl) rfl, pv_in (n := 8) (pr1_in (List.mem_of_getElem? (i := 6) rfl)), ki_X7, t2_in (List.mem_of_getElem? (i := 193) rfl) rfl⟩
theorem biX7_isWithinActions : biV RX7 yX7_isWithinActions cX7_isWithinActions 4 (some .boolean) := ⟨t2_in (List.mem_of_getElem? (i := 196) rfl) rfl, pv_in (n := 8) (pr1_in (List.mem_of_getElem? (i := 7) rfl)), ki_X7, t2_in (List.mem_of_getElem? (i := 197) rfl) rfl⟩
theorem biX7_actionIn : biS yX7_actionIn cX7_actionIn 4 (some .int) := ⟨t2_in (List.mem_of_getElem? (i := 199) rfl) rfl, ki_X7, t2_in (List.mem_of_getElem? (i := 200) rfl) rfl⟩
theorem biX8_prepare : biV RX8 yX8_prepare cX8_prepare 2 none := ⟨t4_in (List.mem_of_getElem? (i := 64) rfl) rfl, t4_in (List.mem_of_getElem? (i := 65) rfl) rfl, ki_X8, t4_in (List.mem_of_getElem? (i := 66) rfl) rfl⟩
theorem biX8_jointAt : biV RX8 yX8_jointAt cX8_jointAt 4 (some .int) := ⟨t4_in (List.mem_of_getElem? (i := 75) rfl) rfl, t4_in (List.mem_of_getElem? (i := 76) rfl) rfl, ki_X8, t4_in (List.mem_of_getElem? (i := 77) rfl) rfl⟩
theorem biX8_follow : biV RX8 yX8_follow cX8_follow 8 (some .int) := ⟨t4_in (List.mem_of_getElem? (i := 71) rfl) rfl, t4_in (List.mem_of_getElem? (i := 72) rfl) rfl, ki_X8, t4_in (List.mem_of_getElem? (i := 73) rfl) rfl⟩
theorem biX8_run : biV RX8 yX8_run cX8_run 8 (some .int) := ⟨t4_in (List.mem_of_getElem? (i := 127) rfl) rfl, t4_in (List.mem_of_getElem? (i := 128) rfl) rfl, ki_X8, t4_in (List.mem_of_getElem? (i := 129) rfl) rfl⟩
theorem biX8_fewest : biV RX8 yX8_fewest cX8_fewest 5 (some .int) := ⟨t4_in (List.mem_of_getElem? (i := 113) rfl) rfl, t4_in (List.mem_of_getElem? (i := 114) rfl) rfl, ki_X8, t4_in (List.mem_of_getElem? (i := 115) rfl) rfl⟩
theorem biX8_nextSeed : biS yX8_nextSeed cX8_nextSeed 1 (some .int) := ⟨t4_in (List.mem_of_getElem? (i := 131) rfl) rfl, ki_X8, t4_in (List.mem_of_getElem? (i := 132) rfl) rfl⟩
theorem biX9_agents : biV RX9 yX9_agents cX9_agents 1 (some .int) := ⟨t2_in (List.mem_of_getElem? (i := 40) rfl) rfl, t2_in (List.mem_of_getElem? (i := 41) rfl) rfl, ki_X9, t2_in (List.mem_of_getElem? (i := 42) rfl) rfl⟩
theorem biX9_addState : biV RX9 yX9_addState cX9_addState 1 (some .int) := ⟨t3_in (List.mem_of_getElem? (i := 161) rfl) rfl, t3_in (List.mem_of_getElem? (i := 162) rfl) rfl, ki_X9, t3_in (List.mem_of_getElem? (i := 163) rfl) rfl⟩
theorem biX9_states : biV RX9 yX9_states cX9_states 1 (some .int) := ⟨t3_in (List.mem_of_getElem? (i := 183) rfl) rfl, t3_in (List.mem_of_getElem? (i := 184) rfl) rfl, ki_X9, t3_in (List.mem_of_getElem? (i := 185) rfl) rfl⟩
theorem biX9_setActions : biV RX9 yX9_setActions cX9_setActions 5 (some .int) := ⟨t2_in (List.mem_of_getElem? (i := 173) rfl) rfl, t2_in (List.mem_of_getElem? (i := 174) rfl) rfl, ki_X9, t2_in (List.mem_of_getElem? (i := 175) rfl) rfl⟩
theorem biX9_actions : biV RX9 yX9_actions cX9_actions 3 (some .int) := ⟨t3_in (List.mem_of_getElem? (i := 171) rfl) rfl, t3_in (List.mem_of_getElem? (i := 172) rfl) rfl, ki_X9, t3_in (List.mem_of_getElem? (i := 173) rfl) rfl⟩
theorem biX9_label : biV RX9 yX9_label cX9_label 6 (some .int) := ⟨t2_in (List.mem_of_getElem? (i := 206) rfl) rfl, t2_in (List.mem_of_getElem? (i := 207) rfl) rfl, ki_X9, t2_in (List.mem_of_getElem? (i := 208) rfl) rfl⟩
theorem biX9_labels : biV RX9 yX9_labels cX9_labels 2 (some .int) := ⟨t2_in (List.mem_of_getElem? (i := 215) rfl) rfl, t2_in (List.mem_of_getElem? (i := 216) rfl) rfl, ki_X9, t2_in (List.mem_of_getElem? (i := 217) rfl) rfl⟩
theorem biX9_setMove : biV RX9 yX9_setMove cX9_setMove 5 (some .int) := ⟨t2_in (List.mem_of_getElem? (i := 219) rfl) rfl, t2_in (List.mem_of_getElem? (i := 220) rfl) rfl, ki_X9, t2_in (List.mem_of_getElem? (i := 221) rfl) rfl⟩
theorem biX9_setAll : biV RX9 yX9_setAll cX9_setAll 5 (some .int) := ⟨t2_in (List.mem_of_getElem? (i := 225) rfl) rfl, t2_in (List.mem_of_getElem? (i := 226) rfl) rfl, ki_X9, t2_in (List.mem_of_getElem? (i := 227) rfl) rfl⟩
theorem biX9_next : biV RX9 yX9_next cX9_next 4 (some .int) := ⟨t2_in (List.mem_of_getElem? (i := 233) rfl) rfl, t2_in (List.mem_of_getElem? (i := 234) rfl) rfl, ki_X9, t2_in (List.mem_of_getElem? (i := 235) rfl) rfl⟩
theorem biX9_moves : biV RX9 yX9_moves cX9_moves 2 (some .int) := ⟨t3_in (List.mem_of_getElem? (i := 175) rfl) rfl, t3_in (List.mem_of_getElem? (i := 176) rfl) rfl, ki_X9, t3_in (List.mem_of_getElem? (i := 177) rfl) rfl⟩
theorem biX9_force : biV RX9 yX9_force cX9_force 4 (some .int) := ⟨t2_in (List.mem_of_getElem? (i := 237) rfl) rfl, t2_in (List.mem_of_getElem? (i := 238) rfl) rfl, ki_X9, t2_in (List.mem_of_getElem? (i := 239) rfl) rfl⟩
theorem biX9_reply : biV RX9 yX9_reply cX9_reply 5 (some .int) := ⟨t3_in (List.mem_of_getElem? (i := 27) rfl) rfl, t3_in (List.mem_of_getElem? (i := 28) rfl) rfl, ki_X9, t3_in (List.mem_of_getElem? (i := 29) rfl) rfl⟩
theorem biX9_forced : biV RX9 yX9_forced cX9_forced 3 (some .int) := ⟨t3_in (List.mem_of_getElem? (i := 44) rfl) rfl, t3_in (List.mem_of_getElem? (i := 45) rfl) rfl, ki_X9, t3_in (List.mem_of_getElem? (i := 46) rfl) rfl⟩
theorem biX9_type : biV RX9 yX9_type cX9_type 2 (some .int) := ⟨t3_in (List.mem_of_getElem? (i := 53) rfl) rfl, t3_in (List.mem_of_getElem? (i := 54) rfl) rfl, ki_X9, t3_in (List.mem_of_getElem? (i := 55) rfl) rfl⟩
theorem biX9_read : biV RX9 yX9_read cX9_read 2 (some .int) := ⟨t3_in (List.mem_of_getElem? (i := 193) rfl) rfl, t3_in (List.mem_of_getElem? (i := 194) rfl) rfl, ki_X9, t3_in (List.mem_of_getElem? (i := 195) rfl) rfl⟩
theorem biX9_forget : biV RX9 yX9_forget cX9_forget 2 (some .int) := ⟨t2_in (List.mem_of_getElem? (i := 44) rfl) rfl, t2_in (List.mem_of_getElem? (i := 45) rfl) rfl, ki_X9, t2_in (List.mem_of_getElem? (i := 46) rfl) rfl⟩
theorem biX9_formulas : biV RX9 yX9_formulas cX9_formulas 1 (some .int) := ⟨t2_in (List.mem_of_getElem? (i := 48) rfl) rfl, t2_in (List.mem_of_getElem? (i := 49) rfl) rfl, ki_X9, t2_in (List.mem_of_getElem? (i := 50) rfl) rfl⟩
theorem biX9_parts : biV RX9 yX9_parts cX9_parts 3 (some .int) := ⟨t4_in (List.mem_of_getElem? (i := 33) rfl) rfl, t4_in (List.mem_of_getElem? (i := 34) rfl) rfl, ki_X9, t4_in (List.mem_of_getElem? (i := 35) rfl) rfl⟩
theorem biX9_where : biV RX9 yX9_where cX9_where 4 (some .int) := ⟨t3_in (List.mem_of_getElem? (i := 62) rfl) rfl, t3_in (List.mem_of_getElem? (i := 63) rfl) rfl, ki_X9, t3_in (List.mem_of_getElem? (i := 64) rfl) rfl⟩
theorem biX9_holds : biV RX9 yX9_holds cX9_holds 4 (some .int) := ⟨t3_in (List.mem_of_getElem? (i := 135) rfl) rfl, t3_in (List.mem_of_getElem? (i := 136) rfl) rfl, ki_X9, t3_in (List.mem_of_getElem? (i := 137) rfl) rfl⟩
theorem biX9_rank : biV RX9 yX9_rank cX9_rank 5 (some .int) := ⟨t4_in (List.mem_of_getElem? (i := 95) rfl) rfl, t4_in (List.mem_of_getElem? (i := 96) rfl) rfl, ki_X9, t4_in (List.mem_of_getElem? (i := 97) rfl) rfl⟩
theorem biX9_strategy : biV RX9 yX9_strategy cX9_strategy 4 (some .int) := ⟨t4_in (List.mem_of_getElem? (i := 101) rfl) rfl, t4_in (List.mem_of_getElem? (i := 102) rfl) rfl, ki_X9, t4_in (List.mem_of_getElem? (i := 103) rfl) rfl⟩
theorem biX9_plan : biV RX9 yX9_plan cX9_plan 5 (some .int) := ⟨t3_in (List.mem_of_getElem? (i := 145) rfl) rfl, t3_in (List.mem_of_getElem? (i := 146) rfl) rfl, ki_X9, t3_in (List.mem_of_getElem? (i := 147) rfl) rfl⟩
theorem biX9_adopt : biV RX9 yX9_adopt cX9_adopt 3 (some .int) := ⟨t4_in (List.mem_of_getElem? (i := 60) rfl) rfl, t4_in (List.mem_of_getElem? (i := 61) rfl) rfl, ki_X9, t4_in (List.mem_of_getElem? (i := 62) rfl) rfl⟩
theorem biX9_planned : biV RX9 yX9_planned cX9_planned 3 (some .int) := ⟨t3_in (List.mem_of_getElem? (i := 154) rfl) rfl, t3_in (List.mem_of_getElem? (i := 155) rfl) rfl, ki_X9, t3_in (List.mem_of_getElem? (i := 156) rfl) rfl⟩
theorem biX9_enforced : biV RX9 yX9_enforced cX9_enforced 3 (some .int) := ⟨t4_in (List.mem_of_getElem? (i := 37) rfl) rfl, t4_in (List.mem_of_getElem? (i := 38) rfl) rfl, ki_X9, t4_in (List.mem_of_getElem? (i := 39) rfl) rfl⟩
theorem biX9_play : biV RX9 yX9_play cX9_play 6 (some .int) := ⟨t4_in (List.mem_of_getElem? (i := 123) rfl) rfl, t4_in (List.mem_of_getElem? (i := 124) rfl) rfl, ki_X9, t4_in (List.mem_of_getElem? (i := 125) rfl) rfl⟩
theorem biX9_smallest : biV RX9 yX9_smallest cX9_smallest 4 (some .int) := ⟨t4_in (List.mem_of_getElem? (i := 109) rfl) rfl, t4_in (List.mem_of_getElem? (i := 110) rfl) rfl, ki_X9, t4_in (List.mem_of_getElem? (i := 111) rfl) rfl⟩
theorem biX9_classes : biV RX9 yX9_classes cX9_classes 1 (some .int) := ⟨t2_in (List.mem_of_getElem? (i := 52) rfl) rfl, t2_in (List.mem_of_getElem? (i := 53) rfl) rfl, ki_X9, t2_in (List.mem_of_getElem? (i := 54) rfl) rfl⟩
theorem biX9_classOf : biV RX9 yX9_classOf cX9_classOf 2 (some .int) := ⟨t2_in (List.mem_of_getElem? (i := 111) rfl) rfl, t2_in (List.mem_of_getElem? (i := 112) rfl) rfl, ki_X9, t2_in (List.mem_of_getElem? (i := 113) rfl) rfl⟩
theorem biX9_undo : biV RX9 yX9_undo cX9_undo 1 (some .int) := ⟨t2_in (List.mem_of_getElem? (i := 120) rfl) rfl, t2_in (List.mem_of_getElem? (i := 121) rfl) rfl, ki_X9, t2_in (List.mem_of_getElem? (i := 122) rfl) rfl⟩
theorem biX9_fingerprint : biV RX9 yX9_fingerprint cX9_fingerprint 1 (some .long) := ⟨t2_in (List.mem_of_getElem? (i := 148) rfl) rfl, t2_in (List.mem_of_getElem? (i := 149) rfl) rfl, ki_X9, t2_in (List.mem_of_getElem? (i := 150) rfl) rfl⟩
theorem biX9_isQuestion : biV RX9 yX9_isQuestion cX9_isQuestion 3 (some .boolean) := ⟨t3_in (List.mem_of_getElem? (i := 2) rfl) rfl, pv_in (n := 9) (pr1_in (List.mem_of_getElem? (i := 8) rfl)), ki_X9, t3_in (List.mem_of_getElem? (i := 3) rfl) rfl⟩
theorem biX9_formulaOf : biV RX9 yX9_formulaOf cX9_formulaOf 2 (some (.object "CoalitionChecker$Formula")) := ⟨t3_in (List.mem_of_getElem? (i := 67) rfl) rfl, pv_in (n := 9) (pr1_in (List.mem_of_getElem? (i := 11) rfl)), ki_X9, t3_in (List.mem_of_getElem? (i := 68) rfl) rfl⟩
theorem biJ6_bitCount_0f7a4 : biS yJ6_bitCount_0f7a4 cJ6_bitCount_0f7a4 1 (some .int) := ⟨t4_in (List.mem_of_getElem? (i := 117) rfl) rfl, ki_Integer, t4_in (List.mem_of_getElem? (i := 118) rfl) rfl⟩
theorem biL_cell : biS yL_cell cL_cell 2 (some .int) := ⟨t2_in (List.mem_of_getElem? (i := 137) rfl) rfl, ki_L, t2_in (List.mem_of_getElem? (i := 138) rfl) rfl⟩
theorem biL_up : biS yL_up cL_up 2 (some .int) := ⟨t2_in (List.mem_of_getElem? (i := 141) rfl) rfl, ki_L, t2_in (List.mem_of_getElem? (i := 142) rfl) rfl⟩
theorem biL_power : biS yL_power cL_power 1 (some .int) := ⟨t4_in (List.mem_of_getElem? (i := 106) rfl) rfl, ki_L, t4_in (List.mem_of_getElem? (i := 107) rfl) rfl⟩
theorem biL_fails : biS yL_fails cL_fails 7 (some .boolean) := ⟨t2_in (List.mem_of_getElem? (i := 145) rfl) rfl, ki_L, t2_in (List.mem_of_getElem? (i := 146) rfl) rfl⟩
theorem biL_builds : biS yL_builds cL_builds 10 (some .boolean) := ⟨t3_in (List.mem_of_getElem? (i := 158) rfl) rfl, ki_L, t3_in (List.mem_of_getElem? (i := 159) rfl) rfl⟩
theorem biL_steps : biS yL_steps cL_steps 11 (some .boolean) := ⟨t3_in (List.mem_of_getElem? (i := 187) rfl) rfl, ki_L, t3_in (List.mem_of_getElem? (i := 188) rfl) rfl⟩
theorem biL_reads : biS yL_reads cL_reads 6 (some .int) := ⟨t3_in (List.mem_of_getElem? (i := 190) rfl) rfl, ki_L, t3_in (List.mem_of_getElem? (i := 191) rfl) rfl⟩
theorem biL_enforces : biS yL_enforces cL_enforces 15 (some .boolean) := ⟨t4_in (List.mem_of_getElem? (i := 30) rfl) rfl, ki_L, t4_in (List.mem_of_getElem? (i := 31) rfl) rfl⟩
theorem biL_undoes : biS yL_undoes cL_undoes 9 (some .boolean) := ⟨t4_in (List.mem_of_getElem? (i := 140) rfl) rfl, ki_L, t4_in (List.mem_of_getElem? (i := 141) rfl) rfl⟩
theorem ml_L_9 : Cond.methodLink RL 9 yX9_fingerprint ∈ tG := t2_in (List.mem_of_getElem? (i := 147) rfl) rfl
theorem ml_L_15 : Cond.methodLink RL 15 yX9_setActions ∈ tG := t2_in (List.mem_of_getElem? (i := 172) rfl) rfl
theorem ml_L_19 : Cond.methodLink RL 19 yX9_label ∈ tG := t2_in (List.mem_of_getElem? (i := 205) rfl) rfl
theorem ml_L_23 : Cond.methodLink RL 23 yX9_labels ∈ tG := t2_in (List.mem_of_getElem? (i := 214) rfl) rfl
theorem ml_L_27 : Cond.methodLink RL 27 yX9_setMove ∈ tG := t2_in (List.mem_of_getElem? (i := 218) rfl) rfl
theorem ml_L_30 : Cond.methodLink RL 30 yX9_setAll ∈ tG := t2_in (List.mem_of_getElem? (i := 224) rfl) rfl
theorem ml_L_34 : Cond.methodLink RL 34 yX9_next ∈ tG := t2_in (List.mem_of_getElem? (i := 232) rfl) rfl
theorem ml_L_38 : Cond.methodLink RL 38 yX9_force ∈ tG := t2_in (List.mem_of_getElem? (i := 236) rfl) rfl
theorem ml_L_41 : Cond.methodLink RL 41 yX9_reply ∈ tG := t3_in (List.mem_of_getElem? (i := 26) rfl) rfl
theorem ml_L_44 : Cond.methodLink RL 44 yX9_forced ∈ tG := t3_in (List.mem_of_getElem? (i := 43) rfl) rfl
theorem ml_L_47 : Cond.methodLink RL 47 yX9_type ∈ tG := t3_in (List.mem_of_getElem? (i := 52) rfl) rfl
theorem ml_L_50 : Cond.methodLink RL 50 yX9_where ∈ tG := t3_in (List.mem_of_getElem? (i := 61) rfl) rfl
theorem ml_L_53 : Cond.methodLink RL 53 yX9_holds ∈ tG := t3_in (List.mem_of_getElem? (i := 134) rfl) rfl
theorem ml_L_56 : Cond.methodLink RL 56 yX9_plan ∈ tG := t3_in (List.mem_of_getElem? (i := 144) rfl) rfl
theorem ml_L_59 : Cond.methodLink RL 59 yX9_planned ∈ tG := t3_in (List.mem_of_getElem? (i := 153) rfl) rfl
theorem ml_L_62 : Cond.methodLink RL 62 yX9_classOf ∈ tG := t2_in (List.mem_of_getElem? (i := 110) rfl) rfl
theorem ml_L_65 : Cond.methodLink RL 65 yX9_addState ∈ tG := t3_in (List.mem_of_getElem? (i := 160) rfl) rfl
theorem ml_L_69 : Cond.methodLink RL 69 yL_cell ∈ tG := t2_in (List.mem_of_getElem? (i := 136) rfl) rfl
theorem ml_L_75 : Cond.methodLink RL 75 yL_up ∈ tG := t2_in (List.mem_of_getElem? (i := 140) rfl) rfl
theorem ml_L_78 : Cond.methodLink RL 78 yX9_actions ∈ tG := t3_in (List.mem_of_getElem? (i := 170) rfl) rfl
theorem ml_L_81 : Cond.methodLink RL 81 yX9_moves ∈ tG := t3_in (List.mem_of_getElem? (i := 174) rfl) rfl
theorem ml_L_84 : Cond.methodLink RL 84 yX9_states ∈ tG := t3_in (List.mem_of_getElem? (i := 182) rfl) rfl
theorem ml_L_87 : Cond.methodLink RL 87 yX9_read ∈ tG := t3_in (List.mem_of_getElem? (i := 192) rfl) rfl
theorem ml_L_90 : Cond.methodLink RL 90 yX9_parts ∈ tG := t4_in (List.mem_of_getElem? (i := 32) rfl) rfl
theorem ml_L_93 : Cond.methodLink RL 93 yX9_enforced ∈ tG := t4_in (List.mem_of_getElem? (i := 36) rfl) rfl
theorem ml_L_96 : Cond.methodLink RL 96 yX9_adopt ∈ tG := t4_in (List.mem_of_getElem? (i := 59) rfl) rfl
theorem ml_L_99 : Cond.methodLink RL 99 yX9_rank ∈ tG := t4_in (List.mem_of_getElem? (i := 94) rfl) rfl
theorem ml_L_102 : Cond.methodLink RL 102 yX9_strategy ∈ tG := t4_in (List.mem_of_getElem? (i := 100) rfl) rfl
theorem ml_L_105 : Cond.methodLink RL 105 yL_power ∈ tG := t4_in (List.mem_of_getElem? (i := 105) rfl) rfl
theorem ml_L_108 : Cond.methodLink RL 108 yX9_smallest ∈ tG := t4_in (List.mem_of_getElem? (i := 108) rfl) rfl
theorem ml_L_111 : Cond.methodLink RL 111 yX9_play ∈ tG := t4_in (List.mem_of_getElem? (i := 122) rfl) rfl
theorem ml_L_114 : Cond.methodLink RL 114 yX9_undo ∈ tG := t2_in (List.mem_of_getElem? (i := 119) rfl) rfl
theorem ml_L_120 : Cond.methodLink RL 120 yX9_agents ∈ tG := t2_in (List.mem_of_getElem? (i := 39) rfl) rfl
theorem ml_L_123 : Cond.methodLink RL 123 yL_builds ∈ tG := t3_in (List.mem_of_getElem? (i := 157) rfl) rfl
theorem ml_L_127 : Cond.methodLink RL 127 yL_fails ∈ tG := t2_in (List.mem_of_getElem? (i := 144) rfl) rfl
theorem ml_L_131 : Cond.methodLink RL 131 yL_steps ∈ tG := t3_in (List.mem_of_getElem? (i := 186) rfl) rfl
theorem ml_L_135 : Cond.methodLink RL 135 yL_reads ∈ tG := t3_in (List.mem_of_getElem? (i := 189) rfl) rfl
theorem ml_L_139 : Cond.methodLink RL 139 yL_enforces ∈ tG := t4_in (List.mem_of_getElem? (i := 29) rfl) rfl
theorem ml_L_143 : Cond.methodLink RL 143 yX9_classes ∈ tG := t2_in (List.mem_of_getElem? (i := 51) rfl) rfl
theorem ml_L_146 : Cond.methodLink RL 146 yX9_formulas ∈ tG := t2_in (List.mem_of_getElem? (i := 47) rfl) rfl
theorem ml_L_149 : Cond.methodLink RL 149 yL_undoes ∈ tG := t4_in (List.mem_of_getElem? (i := 139) rfl) rfl
theorem ml_L_152 : Cond.methodLink RL 152 yX9_forget ∈ tG := t2_in (List.mem_of_getElem? (i := 43) rfl) rfl
theorem ml_X0_28 : Cond.methodLink RX0 28 yX5_put ∈ tG := t3_in (List.mem_of_getElem? (i := 217) rfl) rfl
theorem ml_X0_34 : Cond.methodLink RX0 34 yX5_at ∈ tG := t3_in (List.mem_of_getElem? (i := 77) rfl) rfl
theorem ml_X0_38 : Cond.methodLink RX0 38 yX0_kind ∈ tG := t4_in (List.mem_of_getElem? (i := 48) rfl) rfl
theorem ml_X0_42 : Cond.methodLink RX0 42 yX0_detail ∈ tG := t4_in (List.mem_of_getElem? (i := 53) rfl) rfl
theorem ml_X0_45 : Cond.methodLink RX0 45 yX0_topKind ∈ tG := t4_in (List.mem_of_getElem? (i := 44) rfl) rfl
theorem ml_X1_27 : Cond.methodLink RX1 27 yX1_slotAt ∈ tG := t2_in (List.mem_of_getElem? (i := 127) rfl) rfl
theorem ml_X1_31 : Cond.methodLink RX1 31 yX7_copyFrom ∈ tG := t2_in (List.mem_of_getElem? (i := 131) rfl) rfl
theorem ml_X2_32 : Cond.methodLink RX2 32 yX5_at ∈ tG := t2_in (List.mem_of_getElem? (i := 75) rfl) rfl
theorem ml_X2_38 : Cond.methodLink RX2 38 yX5_put ∈ tG := t2_in (List.mem_of_getElem? (i := 59) rfl) rfl
theorem ml_X2_54 : Cond.methodLink RX2 54 yX2_refine ∈ tG := t2_in (List.mem_of_getElem? (i := 63) rfl) rfl
theorem ml_X2_58 : Cond.methodLink RX2 58 yX5_copy ∈ tG := t2_in (List.mem_of_getElem? (i := 104) rfl) rfl
theorem ml_X2_62 : Cond.methodLink RX2 62 yX2_firstLike ∈ tG := t2_in (List.mem_of_getElem? (i := 67) rfl) rfl
theorem ml_X2_66 : Cond.methodLink RX2 66 yX2_classNumber ∈ tG := t2_in (List.mem_of_getElem? (i := 71) rfl) rfl
theorem ml_X2_69 : Cond.methodLink RX2 69 yX7_labelSet ∈ tG := t2_in (List.mem_of_getElem? (i := 78) rfl) rfl
theorem ml_X2_72 : Cond.methodLink RX2 72 yX2_areAlike ∈ tG := t2_in (List.mem_of_getElem? (i := 83) rfl) rfl
theorem ml_X2_79 : Cond.methodLink RX2 79 yX6_spread ∈ tG := t2_in (List.mem_of_getElem? (i := 87) rfl) rfl
theorem ml_X2_85 : Cond.methodLink RX2 85 yX2_answers ∈ tG := t2_in (List.mem_of_getElem? (i := 93) rfl) rfl
theorem ml_X2_92 : Cond.methodLink RX2 92 yX2_hasWithin ∈ tG := t2_in (List.mem_of_getElem? (i := 97) rfl) rfl
theorem ml_X2_96 : Cond.methodLink RX2 96 yX6_isForced ∈ tG := t2_in (List.mem_of_getElem? (i := 101) rfl) rfl
theorem ml_X3_32 : Cond.methodLink RX3 32 yX0_kind ∈ tG := t3_in (List.mem_of_getElem? (i := 73) rfl) rfl
theorem ml_X3_36 : Cond.methodLink RX3 36 yX0_first ∈ tG := t3_in (List.mem_of_getElem? (i := 78) rfl) rfl
theorem ml_X3_39 : Cond.methodLink RX3 39 yX5_at ∈ tG := t3_in (List.mem_of_getElem? (i := 82) rfl) rfl
theorem ml_X3_45 : Cond.methodLink RX3 45 yX0_second ∈ tG := t3_in (List.mem_of_getElem? (i := 83) rfl) rfl
theorem ml_X3_48 : Cond.methodLink RX3 48 yX0_detail ∈ tG := t3_in (List.mem_of_getElem? (i := 87) rfl) rfl
theorem ml_X3_51 : Cond.methodLink RX3 51 yX3_labelled ∈ tG := t3_in (List.mem_of_getElem? (i := 91) rfl) rfl
theorem ml_X3_54 : Cond.methodLink RX3 54 yX3_plainSet ∈ tG := t3_in (List.mem_of_getElem? (i := 96) rfl) rfl
theorem ml_X3_58 : Cond.methodLink RX3 58 yX3_strongSet ∈ tG := t3_in (List.mem_of_getElem? (i := 101) rfl) rfl
theorem ml_X3_62 : Cond.methodLink RX3 62 yX3_boxSet ∈ tG := t3_in (List.mem_of_getElem? (i := 122) rfl) rfl
theorem ml_X3_66 : Cond.methodLink RX3 66 yX5_put ∈ tG := t3_in (List.mem_of_getElem? (i := 117) rfl) rfl
theorem ml_X3_70 : Cond.methodLink RX3 70 yX3_look ∈ tG := t3_in (List.mem_of_getElem? (i := 142) rfl) rfl
theorem ml_X3_74 : Cond.methodLink RX3 74 yX3_setOf ∈ tG := t3_in (List.mem_of_getElem? (i := 143) rfl) rfl
theorem ml_X3_77 : Cond.methodLink RX3 77 yX0_topKind ∈ tG := t4_in (List.mem_of_getElem? (i := 58) rfl) rfl
theorem ml_X3_86 : Cond.methodLink RX3 86 yX3_rankOf ∈ tG := t4_in (List.mem_of_getElem? (i := 89) rfl) rfl
theorem ml_X3_89 : Cond.methodLink RX3 89 yX7_labelSet ∈ tG := t3_in (List.mem_of_getElem? (i := 95) rfl) rfl
theorem ml_X3_92 : Cond.methodLink RX3 92 yX7_allStates ∈ tG := t3_in (List.mem_of_getElem? (i := 100) rfl) rfl
theorem ml_X3_95 : Cond.methodLink RX3 95 yX6_forcing ∈ tG := t3_in (List.mem_of_getElem? (i := 105) rfl) rfl
theorem ml_X3_101 : Cond.methodLink RX3 101 yX3_reached ∈ tG := t3_in (List.mem_of_getElem? (i := 113) rfl) rfl
theorem ml_X3_105 : Cond.methodLink RX3 105 yX3_kept ∈ tG := t3_in (List.mem_of_getElem? (i := 118) rfl) rfl
theorem ml_X3_108 : Cond.methodLink RX3 108 yX3_unavoidable ∈ tG := t3_in (List.mem_of_getElem? (i := 126) rfl) rfl
theorem ml_X4_31 : Cond.methodLink RX4 31 yX5_put ∈ tG := t3_in (List.mem_of_getElem? (i := 60) rfl) rfl
theorem ml_X4_55 : Cond.methodLink RX4 55 yX5_at ∈ tG := t3_in (List.mem_of_getElem? (i := 200) rfl) rfl
theorem ml_X4_59 : Cond.methodLink RX4 59 yX4_take ∈ tG := t3_in (List.mem_of_getElem? (i := 201) rfl) rfl
theorem ml_X4_63 : Cond.methodLink RX4 63 yX4_closePrefixes ∈ tG := t4_in (List.mem_of_getElem? (i := 25) rfl) rfl
theorem ml_X4_66 : Cond.methodLink RX4 66 yX4_closeIf ∈ tG := t3_in (List.mem_of_getElem? (i := 238) rfl) rfl
theorem ml_X4_70 : Cond.methodLink RX4 70 yX4_takeUnit ∈ tG := t3_in (List.mem_of_getElem? (i := 205) rfl) rfl
theorem ml_X4_73 : Cond.methodLink RX4 73 yX4_takeAgent ∈ tG := t3_in (List.mem_of_getElem? (i := 226) rfl) rfl
theorem ml_X4_76 : Cond.methodLink RX4 76 yX4_takeGoal ∈ tG := t3_in (List.mem_of_getElem? (i := 230) rfl) rfl
theorem ml_X4_79 : Cond.methodLink RX4 79 yX4_takeAfterUnit ∈ tG := t3_in (List.mem_of_getElem? (i := 234) rfl) rfl
theorem ml_X4_82 : Cond.methodLink RX4 82 yX4_addLeaf ∈ tG := t3_in (List.mem_of_getElem? (i := 209) rfl) rfl
theorem ml_X4_86 : Cond.methodLink RX4 86 yX4_push ∈ tG := t3_in (List.mem_of_getElem? (i := 222) rfl) rfl
theorem ml_X4_95 : Cond.methodLink RX4 95 yX4_takeUntil ∈ tG := t4_in (List.mem_of_getElem? (i := 17) rfl) rfl
theorem ml_X4_99 : Cond.methodLink RX4 99 yX4_takeBracket ∈ tG := t4_in (List.mem_of_getElem? (i := 21) rfl) rfl
theorem ml_X4_102 : Cond.methodLink RX4 102 yX4_topOpen ∈ tG := t4_in (List.mem_of_getElem? (i := 2) rfl) rfl
theorem ml_X4_106 : Cond.methodLink RX4 106 yX4_close ∈ tG := t4_in (List.mem_of_getElem? (i := 6) rfl) rfl
theorem ml_X4_109 : Cond.methodLink RX4 109 yX0_add ∈ tG := t3_in (List.mem_of_getElem? (i := 213) rfl) rfl
theorem ml_X4_113 : Cond.methodLink RX4 113 yX4_pushOperand ∈ tG := t3_in (List.mem_of_getElem? (i := 218) rfl) rfl
theorem ml_X4_116 : Cond.methodLink RX4 116 yX4_isPrefix ∈ tG := t4_in (List.mem_of_getElem? (i := 10) rfl) rfl
theorem ml_X4_119 : Cond.methodLink RX4 119 yX4_popOperand ∈ tG := t4_in (List.mem_of_getElem? (i := 13) rfl) rfl
theorem ml_X6_25 : Cond.methodLink RX6 25 yX6_partOf ∈ tG := t1_in (List.mem_of_getElem? (i := 103) rfl) rfl
theorem ml_X6_29 : Cond.methodLink RX6 29 yX5_put ∈ tG := t2_in (List.mem_of_getElem? (i := 91) rfl) rfl
theorem ml_X6_44 : Cond.methodLink RX6 44 yX5_at ∈ tG := t2_in (List.mem_of_getElem? (i := 92) rfl) rfl
theorem ml_X6_48 : Cond.methodLink RX6 48 yX6_spread ∈ tG := t3_in (List.mem_of_getElem? (i := 20) rfl) rfl
theorem ml_X6_52 : Cond.methodLink RX6 52 yX6_leastWithin ∈ tG := t3_in (List.mem_of_getElem? (i := 21) rfl) rfl
theorem ml_X6_56 : Cond.methodLink RX6 56 yX7_target ∈ tG := t3_in (List.mem_of_getElem? (i := 38) rfl) rfl
theorem ml_X6_59 : Cond.methodLink RX6 59 yX6_jointPart ∈ tG := t3_in (List.mem_of_getElem? (i := 39) rfl) rfl
theorem ml_X6_62 : Cond.methodLink RX6 62 yX7_allStates ∈ tG := t3_in (List.mem_of_getElem? (i := 51) rfl) rfl
theorem ml_X6_69 : Cond.methodLink RX6 69 yX6_chosenJoint ∈ tG := t3_in (List.mem_of_getElem? (i := 109) rfl) rfl
theorem ml_X6_72 : Cond.methodLink RX6 72 yX6_isForced ∈ tG := t3_in (List.mem_of_getElem? (i := 25) rfl) rfl
theorem ml_X7_37 : Cond.methodLink RX7 37 yX5_copy ∈ tG := t2_in (List.mem_of_getElem? (i := 135) rfl) rfl
theorem ml_X7_43 : Cond.methodLink RX7 43 yX7_hasState ∈ tG := t2_in (List.mem_of_getElem? (i := 170) rfl) rfl
theorem ml_X7_47 : Cond.methodLink RX7 47 yX7_allStates ∈ tG := t3_in (List.mem_of_getElem? (i := 12) rfl) rfl
theorem ml_X7_51 : Cond.methodLink RX7 51 yX5_at ∈ tG := t2_in (List.mem_of_getElem? (i := 82) rfl) rfl
theorem ml_X7_55 : Cond.methodLink RX7 55 yX5_put ∈ tG := t2_in (List.mem_of_getElem? (i := 189) rfl) rfl
theorem ml_X7_59 : Cond.methodLink RX7 59 yX7_leadBack ∈ tG := t2_in (List.mem_of_getElem? (i := 190) rfl) rfl
theorem ml_X7_63 : Cond.methodLink RX7 63 yX7_target ∈ tG := t2_in (List.mem_of_getElem? (i := 166) rfl) rfl
theorem ml_X7_67 : Cond.methodLink RX7 67 yX7_setLabelSet ∈ tG := t3_in (List.mem_of_getElem? (i := 168) rfl) rfl
theorem ml_X7_71 : Cond.methodLink RX7 71 yX7_setPlannedAction ∈ tG := t3_in (List.mem_of_getElem? (i := 169) rfl) rfl
theorem ml_X7_75 : Cond.methodLink RX7 75 yX7_actionIn ∈ tG := t2_in (List.mem_of_getElem? (i := 198) rfl) rfl
theorem ml_X7_78 : Cond.methodLink RX7 78 yX7_setTarget ∈ tG := t2_in (List.mem_of_getElem? (i := 201) rfl) rfl
theorem ml_X7_83 : Cond.methodLink RX7 83 yX7_labelSet ∈ tG := t2_in (List.mem_of_getElem? (i := 157) rfl) rfl
theorem ml_X7_87 : Cond.methodLink RX7 87 yX7_actionCount ∈ tG := t2_in (List.mem_of_getElem? (i := 158) rfl) rfl
theorem ml_X7_90 : Cond.methodLink RX7 90 yX7_plannedAction ∈ tG := t2_in (List.mem_of_getElem? (i := 162) rfl) rfl
theorem ml_X7_93 : Cond.methodLink RX7 93 yX7_isWithinActions ∈ tG := t2_in (List.mem_of_getElem? (i := 194) rfl) rfl
theorem ml_X8_27 : Cond.methodLink RX8 27 yX3_look ∈ tG := t4_in (List.mem_of_getElem? (i := 67) rfl) rfl
theorem ml_X8_33 : Cond.methodLink RX8 33 yX0_topCoalition ∈ tG := t4_in (List.mem_of_getElem? (i := 68) rfl) rfl
theorem ml_X8_39 : Cond.methodLink RX8 39 yX3_goalSet ∈ tG := t4_in (List.mem_of_getElem? (i := 69) rfl) rfl
theorem ml_X8_43 : Cond.methodLink RX8 43 yX0_topKind ∈ tG := t4_in (List.mem_of_getElem? (i := 78) rfl) rfl
theorem ml_X8_49 : Cond.methodLink RX8 49 yX0_first ∈ tG := t4_in (List.mem_of_getElem? (i := 79) rfl) rfl
theorem ml_X8_53 : Cond.methodLink RX8 53 yX3_setOf ∈ tG := t4_in (List.mem_of_getElem? (i := 80) rfl) rfl
theorem ml_X8_56 : Cond.methodLink RX8 56 yX3_rankOf ∈ tG := t4_in (List.mem_of_getElem? (i := 81) rfl) rfl
theorem ml_X8_59 : Cond.methodLink RX8 59 yX3_statesBelow ∈ tG := t4_in (List.mem_of_getElem? (i := 85) rfl) rfl
theorem ml_X8_62 : Cond.methodLink RX8 62 yX6_leastForcing ∈ tG := t4_in (List.mem_of_getElem? (i := 90) rfl) rfl
theorem ml_X8_79 : Cond.methodLink RX8 79 yX8_jointAt ∈ tG := t4_in (List.mem_of_getElem? (i := 74) rfl) rfl
theorem ml_X8_86 : Cond.methodLink RX8 86 yX7_plannedAction ∈ tG := t4_in (List.mem_of_getElem? (i := 92) rfl) rfl
theorem ml_X8_89 : Cond.methodLink RX8 89 yX7_setPlannedAction ∈ tG := t4_in (List.mem_of_getElem? (i := 93) rfl) rfl
theorem ml_X8_93 : Cond.methodLink RX8 93 yX8_nextSeed ∈ tG := t4_in (List.mem_of_getElem? (i := 130) rfl) rfl
theorem ml_X8_96 : Cond.methodLink RX8 96 yX6_follow ∈ tG := t4_in (List.mem_of_getElem? (i := 135) rfl) rfl
theorem ml_X8_102 : Cond.methodLink RX8 102 yJ6_bitCount_0f7a4 ∈ tG := t4_in (List.mem_of_getElem? (i := 116) rfl) rfl
theorem ml_X9_92 : Cond.methodLink RX9 92 yX1_keep ∈ tG := t2_in (List.mem_of_getElem? (i := 180) rfl) rfl
theorem ml_X9_95 : Cond.methodLink RX9 95 yX7_grow ∈ tG := t3_in (List.mem_of_getElem? (i := 164) rfl) rfl
theorem ml_X9_99 : Cond.methodLink RX9 99 yX7_hasPlace ∈ tG := t2_in (List.mem_of_getElem? (i := 176) rfl) rfl
theorem ml_X9_103 : Cond.methodLink RX9 103 yX7_actionCount ∈ tG := t2_in (List.mem_of_getElem? (i := 184) rfl) rfl
theorem ml_X9_106 : Cond.methodLink RX9 106 yX7_setActionCount ∈ tG := t2_in (List.mem_of_getElem? (i := 185) rfl) rfl
theorem ml_X9_110 : Cond.methodLink RX9 110 yX7_hasState ∈ tG := t2_in (List.mem_of_getElem? (i := 114) rfl) rfl
theorem ml_X9_114 : Cond.methodLink RX9 114 yX7_labelSet ∈ tG := t2_in (List.mem_of_getElem? (i := 209) rfl) rfl
theorem ml_X9_118 : Cond.methodLink RX9 118 yX7_setLabelSet ∈ tG := t2_in (List.mem_of_getElem? (i := 210) rfl) rfl
theorem ml_X9_122 : Cond.methodLink RX9 122 yX7_target ∈ tG := t2_in (List.mem_of_getElem? (i := 222) rfl) rfl
theorem ml_X9_125 : Cond.methodLink RX9 125 yX7_setTarget ∈ tG := t2_in (List.mem_of_getElem? (i := 223) rfl) rfl
theorem ml_X9_128 : Cond.methodLink RX9 128 yX7_redirect ∈ tG := t2_in (List.mem_of_getElem? (i := 228) rfl) rfl
theorem ml_X9_132 : Cond.methodLink RX9 132 yX7_possibleMoves ∈ tG := t3_in (List.mem_of_getElem? (i := 178) rfl) rfl
theorem ml_X9_135 : Cond.methodLink RX9 135 yX9_isQuestion ∈ tG := t3_in (List.mem_of_getElem? (i := 0) rfl) rfl
theorem ml_X9_138 : Cond.methodLink RX9 138 yX7_hasSet ∈ tG := t3_in (List.mem_of_getElem? (i := 8) rfl) rfl
theorem ml_X9_141 : Cond.methodLink RX9 141 yX6_leastForcing ∈ tG := t3_in (List.mem_of_getElem? (i := 16) rfl) rfl
theorem ml_X9_145 : Cond.methodLink RX9 145 yX6_isJointAction ∈ tG := t3_in (List.mem_of_getElem? (i := 30) rfl) rfl
theorem ml_X9_149 : Cond.methodLink RX9 149 yX6_leastLeaving ∈ tG := t3_in (List.mem_of_getElem? (i := 34) rfl) rfl
theorem ml_X9_152 : Cond.methodLink RX9 152 yX6_countForced ∈ tG := t3_in (List.mem_of_getElem? (i := 47) rfl) rfl
theorem ml_X9_155 : Cond.methodLink RX9 155 yX4_append ∈ tG := t3_in (List.mem_of_getElem? (i := 56) rfl) rfl
theorem ml_X9_161 : Cond.methodLink RX9 161 yX4_parse ∈ tG := t3_in (List.mem_of_getElem? (i := 196) rfl) rfl
theorem ml_X9_165 : Cond.methodLink RX9 165 yX9_formulaOf ∈ tG := t3_in (List.mem_of_getElem? (i := 65) rfl) rfl
theorem ml_X9_172 : Cond.methodLink RX9 172 yX3_look ∈ tG := t3_in (List.mem_of_getElem? (i := 69) rfl) rfl
theorem ml_X9_176 : Cond.methodLink RX9 176 yX3_setOf ∈ tG := t3_in (List.mem_of_getElem? (i := 130) rfl) rfl
theorem ml_X9_179 : Cond.methodLink RX9 179 yX3_whole ∈ tG := t3_in (List.mem_of_getElem? (i := 138) rfl) rfl
theorem ml_X9_187 : Cond.methodLink RX9 187 yX0_topKind ∈ tG := t4_in (List.mem_of_getElem? (i := 98) rfl) rfl
theorem ml_X9_190 : Cond.methodLink RX9 190 yX0_topCoalition ∈ tG := t4_in (List.mem_of_getElem? (i := 49) rfl) rfl
theorem ml_X9_193 : Cond.methodLink RX9 193 yX3_goalSet ∈ tG := t4_in (List.mem_of_getElem? (i := 54) rfl) rfl
theorem ml_X9_197 : Cond.methodLink RX9 197 yX3_rankOf ∈ tG := t4_in (List.mem_of_getElem? (i := 99) rfl) rfl
theorem ml_X9_200 : Cond.methodLink RX9 200 yX0_hasStrategy ∈ tG := t4_in (List.mem_of_getElem? (i := 40) rfl) rfl
theorem ml_X9_204 : Cond.methodLink RX9 204 yX8_prepare ∈ tG := t4_in (List.mem_of_getElem? (i := 63) rfl) rfl
theorem ml_X9_207 : Cond.methodLink RX9 207 yX8_jointAt ∈ tG := t4_in (List.mem_of_getElem? (i := 104) rfl) rfl
theorem ml_X9_211 : Cond.methodLink RX9 211 yX7_plannedAction ∈ tG := t3_in (List.mem_of_getElem? (i := 148) rfl) rfl
theorem ml_X9_214 : Cond.methodLink RX9 214 yX7_setPlannedAction ∈ tG := t3_in (List.mem_of_getElem? (i := 149) rfl) rfl
theorem ml_X9_217 : Cond.methodLink RX9 217 yX8_follow ∈ tG := t4_in (List.mem_of_getElem? (i := 70) rfl) rfl
theorem ml_X9_220 : Cond.methodLink RX9 220 yX8_run ∈ tG := t4_in (List.mem_of_getElem? (i := 126) rfl) rfl
theorem ml_X9_223 : Cond.methodLink RX9 223 yX8_fewest ∈ tG := t4_in (List.mem_of_getElem? (i := 112) rfl) rfl
theorem ml_X9_226 : Cond.methodLink RX9 226 yX2_divide ∈ tG := t2_in (List.mem_of_getElem? (i := 55) rfl) rfl
theorem ml_X9_229 : Cond.methodLink RX9 229 yX2_classNumber ∈ tG := t2_in (List.mem_of_getElem? (i := 118) rfl) rfl
theorem ml_X9_232 : Cond.methodLink RX9 232 yX1_restore ∈ tG := t2_in (List.mem_of_getElem? (i := 123) rfl) rfl
theorem ml_X9_239 : Cond.methodLink RX9 239 yX7_mix ∈ tG := t2_in (List.mem_of_getElem? (i := 152) rfl) rfl
theorem ml_X9_245 : Cond.methodLink RX9 245 yX7_hasCoalition ∈ tG := t3_in (List.mem_of_getElem? (i := 4) rfl) rfl
theorem ml_X2_48 : Cond.methodLink RX2 48 Lib.Math.min.name ∈ tG := t2_in (List.mem_of_getElem? (i := 62) rfl) rfl
theorem ml_X5_7 : Cond.methodLink RX5 7 arraycopyName ∈ tG := t2_in (List.mem_of_getElem? (i := 107) rfl) rfl
theorem ml_X8_68 : Cond.methodLink RX8 68 Lib.Math.max.name ∈ tG := t4_in (List.mem_of_getElem? (i := 91) rfl) rfl
theorem ml_X9_19 : Cond.methodLink RX9 19 Lib.Math.min.name ∈ tG := t1_in (List.mem_of_getElem? (i := 24) rfl) rfl
theorem ml_X9_25 : Cond.methodLink RX9 25 Lib.Math.max.name ∈ tG := t1_in (List.mem_of_getElem? (i := 27) rfl) rfl
theorem st_Mmax : Cond.static Lib.Math.max.name ∈ tG := t1_in (List.mem_of_getElem? (i := 28) rfl) rfl
theorem co_Mmax : Cond.code Lib.Math.max.name Lib.Math.max.code 2 (some .int) ∈ tG := t1_in (List.mem_of_getElem? (i := 29) rfl) rfl
theorem st_Mmin : Cond.static Lib.Math.min.name ∈ tG := t1_in (List.mem_of_getElem? (i := 25) rfl) rfl
theorem co_Mmin : Cond.code Lib.Math.min.name Lib.Math.min.code 2 (some .int) ∈ tG := t1_in (List.mem_of_getElem? (i := 26) rfl) rfl
theorem st_arr : Cond.static arraycopyName ∈ tG := t2_in (List.mem_of_getElem? (i := 108) rfl) rfl
theorem na_arr : Cond.native arraycopyName ∈ tG := t2_in (List.mem_of_getElem? (i := 109) rfl) rfl
end
section
/-! THE STORE: every cell of both systems has a number (0 .. 111); its contents are a row of ints. 5 j (j < 5): structures (0 is the class's own, the others its history's), 25 + 5 i (i < 8): formulas, 65 .. 86 the class's other cells, 87 .. 111 the reference. -/
abbrev St : Type := Nat → Nat → Int32
abbrev cG : Type := va_G × (ClassId × ClassId × ClassId) × (Nat → Nat)
def gA (g : cG) (k : Nat) : Nat := g.2.2 k
def up (σ : St) (k j : Nat) (v : Int32) : St := va_up σ k (upd (σ k) j v)
def bI (b : Bool) : Int32 := if b then 1 else 0
def rfV (g : cG) (o : Option Nat) : Value := va_rf (o.map (gA g))
def isF (t : Nat) : Bool := t == 25 || t == 30 || t == 35 || t == 40 || t == 45 || t == 50 || t == 55 || t == 60
def isS (t : Nat) : Bool := t == 0 || t == 5 || t == 10 || t == 15 || t == 20
def dF (c : Int32) : Option Nat := if isF c.toNatClampNeg then some c.toNatClampNeg else none
def rfF (g : cG) (c : Int32) : Value := rfV g (dF c)
def cStr (g : cG) (b j : Nat) (f : Nat → Int32) : va_E := match j with
  | 0 => .inr (6, [.int (f 0), .int (f 1), .int (f 2), .ref (gA g (b + 1)), .ref (gA g (b + 2)), .ref (gA g (b + 3)), .ref (gA g (b + 4)), .int (f 7)])
  | 1 => .inl (g.2.1.1, 12, .inl f)
  | 2 => .inl (g.2.1.1, 48, .inl f)
  | 3 => .inl (g.2.1.1, 48, .inl f)
  | _ => .inl (g.2.1.1, 972, .inl f)
def cFml (g : cG) (b j : Nat) (f : Nat → Int32) : va_E := match j with
  | 0 => .inr (0, [.ref (gA g (b + 1)), .ref (gA g (b + 2)), .ref (gA g (b + 3)), .ref (gA g (b + 4)), .int (f 4)])
  | _ => .inl (g.2.1.1, 60, .inl f)

def cOne (g : cG) (k : Nat) (f : Nat → Int32) : va_E := match k with
  | 65 => .inr (8, [.ref (gA g 0), .ref (gA g 67), .ref (gA g 69), .ref (gA g 73), .ref (gA g 78), .ref (gA g 81), .ref (gA g 82), .ref (gA g 66), .int (f 8)])
  | 66 => .inl (g.2.1.2.1, 8, .inr (.inr (.inr (.inr (fun i => if i < 8 then some (gA g (25 + 5 * i)) else none)))))
  | 67 => .inr (1, [.ref (gA g 68), .int (f 1), .int (f 2)])
  | 68 => .inl (g.2.1.2.2, 4, .inr (.inr (.inr (.inr (fun i => if i < 4 then some (gA g (5 + 5 * i)) else none)))))
  | 69 => .inr (5, [.ref (gA g 0), .ref (gA g 70), .ref (gA g 71), .ref (gA g 72)])
  | 70 => .inl (g.2.1.1, 1296, .inl f)
  | 71 => .inl (g.2.1.1, 12, .inl f)
  | 72 => .inl (g.2.1.1, 81, .inl f)
  | 73 => .inr (4, [.int (f 0), .ref (gA g 74), .ref (gA g 75), .ref (gA g 76), .ref (gA g 77), .int (f 5), .int (f 6), .int (f 7), .int (f 8), .int (f 9), .int (f 10), rfF g (f 11)])
  | 74 => .inl (g.2.1.1, 60, .inl f)
  | 75 => .inl (g.2.1.1, 60, .inl f)
  | 76 => .inl (g.2.1.1, 60, .inl f)
  | 77 => .inl (g.2.1.1, 60, .inl f)
  | 78 => .inr (3, [.ref (gA g 0), .ref (gA g 69), .ref (gA g 79), .ref (gA g 80)])
  | 79 => .inl (g.2.1.1, 60, .inl f)
  | 80 => .inl (g.2.1.1, 12, .inl f)
  | 81 => .inr (7, [.ref (gA g 0), .ref (gA g 69), .ref (gA g 78), .int (f 3)])
  | 82 => .inr (2, [.ref (gA g 0), .ref (gA g 69), .ref (gA g 83), .ref (gA g 84), .ref (gA g 85), .ref (gA g 86)])
  | 83 => .inl (g.2.1.1, 12, .inl f)
  | 84 => .inl (g.2.1.1, 12, .inl f)
  | 85 => .inl (g.2.1.1, 81, .inl f)
  | _ => .inl (g.2.1.1, 81, .inl f)
def cE (g : cG) (k : Nat) (f : Nat → Int32) : va_E := if k < 25 then cStr g (k / 5 * 5) (k % 5) f else if k < 65 then cFml g (k / 5 * 5) (k % 5) f else cOne g k f
theorem cE_0 (g : cG) (f : Nat → Int32) : cE g 0 f = .inr (6, [.int (f 0), .int (f 1), .int (f 2), .ref (gA g 1), .ref (gA g 2), .ref (gA g 3), .ref (gA g 4), .int (f 7)]) := rfl
theorem cE_1 (g : cG) (f : Nat → Int32) : cE g 1 f = .inl (g.2.1.1, 12, .inl f) := rfl
theorem cE_2 (g : cG) (f : Nat → Int32) : cE g 2 f = .inl (g.2.1.1, 48, .inl f) := rfl
theorem cE_3 (g : cG) (f : Nat → Int32) : cE g 3 f = .inl (g.2.1.1, 48, .inl f) := rfl
theorem cE_4 (g : cG) (f : Nat → Int32) : cE g 4 f = .inl (g.2.1.1, 972, .inl f) := rfl
theorem cE_5 (g : cG) (f : Nat → Int32) : cE g 5 f = .inr (6, [.int (f 0), .int (f 1), .int (f 2), .ref (gA g 6), .ref (gA g 7), .ref (gA g 8), .ref (gA g 9), .int (f 7)]) := rfl
theorem cE_6 (g : cG) (f : Nat → Int32) : cE g 6 f = .inl (g.2.1.1, 12, .inl f) := rfl
theorem cE_7 (g : cG) (f : Nat → Int32) : cE g 7 f = .inl (g.2.1.1, 48, .inl f) := rfl
theorem cE_8 (g : cG) (f : Nat → Int32) : cE g 8 f = .inl (g.2.1.1, 48, .inl f) := rfl
theorem cE_9 (g : cG) (f : Nat → Int32) : cE g 9 f = .inl (g.2.1.1, 972, .inl f) := rfl
theorem cE_10 (g : cG) (f : Nat → Int32) : cE g 10 f = .inr (6, [.int (f 0), .int (f 1), .int (f 2), .ref (gA g 11), .ref (gA g 12), .ref (gA g 13), .ref (gA g 14), .int (f 7)]) := rfl
theorem cE_11 (g : cG) (f : Nat → Int32) : cE g 11 f = .inl (g.2.1.1, 12, .inl f) := rfl
theorem cE_12 (g : cG) (f : Nat → Int32) : cE g 12 f = .inl (g.2.1.1, 48, .inl f) := rfl
theorem cE_13 (g : cG) (f : Nat → Int32) : cE g 13 f = .inl (g.2.1.1, 48, .inl f) := rfl
theorem cE_14 (g : cG) (f : Nat → Int32) : cE g 14 f = .inl (g.2.1.1, 972, .inl f) := rfl
theorem cE_15 (g : cG) (f : Nat → Int32) : cE g 15 f = .inr (6, [.int (f 0), .int (f 1), .int (f 2), .ref (gA g 16), .ref (gA g 17), .ref (gA g 18), .ref (gA g 19), .int (f 7)]) := rfl
theorem cE_16 (g : cG) (f : Nat → Int32) : cE g 16 f = .inl (g.2.1.1, 12, .inl f) := rfl
theorem cE_17 (g : cG) (f : Nat → Int32) : cE g 17 f = .inl (g.2.1.1, 48, .inl f) := rfl
theorem cE_18 (g : cG) (f : Nat → Int32) : cE g 18 f = .inl (g.2.1.1, 48, .inl f) := rfl
theorem cE_19 (g : cG) (f : Nat → Int32) : cE g 19 f = .inl (g.2.1.1, 972, .inl f) := rfl
theorem cE_20 (g : cG) (f : Nat → Int32) : cE g 20 f = .inr (6, [.int (f 0), .int (f 1), .int (f 2), .ref (gA g 21), .ref (gA g 22), .ref (gA g 23), .ref (gA g 24), .int (f 7)]) := rfl
theorem cE_21 (g : cG) (f : Nat → Int32) : cE g 21 f = .inl (g.2.1.1, 12, .inl f) := rfl
theorem cE_22 (g : cG) (f : Nat → Int32) : cE g 22 f = .inl (g.2.1.1, 48, .inl f) := rfl
theorem cE_23 (g : cG) (f : Nat → Int32) : cE g 23 f = .inl (g.2.1.1, 48, .inl f) := rfl
theorem cE_24 (g : cG) (f : Nat → Int32) : cE g 24 f = .inl (g.2.1.1, 972, .inl f) := rfl
theorem cE_25 (g : cG) (f : Nat → Int32) : cE g 25 f = .inr (0, [.ref (gA g 26), .ref (gA g 27), .ref (gA g 28), .ref (gA g 29), .int (f 4)]) := rfl
theorem cE_26 (g : cG) (f : Nat → Int32) : cE g 26 f = .inl (g.2.1.1, 60, .inl f) := rfl
theorem cE_27 (g : cG) (f : Nat → Int32) : cE g 27 f = .inl (g.2.1.1, 60, .inl f) := rfl
theorem cE_28 (g : cG) (f : Nat → Int32) : cE g 28 f = .inl (g.2.1.1, 60, .inl f) := rfl
theorem cE_29 (g : cG) (f : Nat → Int32) : cE g 29 f = .inl (g.2.1.1, 60, .inl f) := rfl
theorem cE_30 (g : cG) (f : Nat → Int32) : cE g 30 f = .inr (0, [.ref (gA g 31), .ref (gA g 32), .ref (gA g 33), .ref (gA g 34), .int (f 4)]) := rfl
theorem cE_31 (g : cG) (f : Nat → Int32) : cE g 31 f = .inl (g.2.1.1, 60, .inl f) := rfl
theorem cE_32 (g : cG) (f : Nat → Int32) : cE g 32 f = .inl (g.2.1.1, 60, .inl f) := rfl
theorem cE_33 (g : cG) (f : Nat → Int32) : cE g 33 f = .inl (g.2.1.1, 60, .inl f) := rfl
theorem cE_34 (g : cG) (f : Nat → Int32) : cE g 34 f = .inl (g.2.1.1, 60, .inl f) := rfl
theorem cE_35 (g : cG) (f : Nat → Int32) : cE g 35 f = .inr (0, [.ref (gA g 36), .ref (gA g 37), .ref (gA g 38), .ref (gA g 39), .int (f 4)]) := rfl
theorem cE_36 (g : cG) (f : Nat → Int32) : cE g 36 f = .inl (g.2.1.1, 60, .inl f) := rfl
theorem cE_37 (g : cG) (f : Nat → Int32) : cE g 37 f = .inl (g.2.1.1, 60, .inl f) := rfl
theorem cE_38 (g : cG) (f : Nat → Int32) : cE g 38 f = .inl (g.2.1.1, 60, .inl f) := rfl
theorem cE_39 (g : cG) (f : Nat → Int32) : cE g 39 f = .inl (g.2.1.1, 60, .inl f) := rfl
theorem cE_40 (g : cG) (f : Nat → Int32) : cE g 40 f = .inr (0, [.ref (gA g 41), .ref (gA g 42), .ref (gA g 43), .ref (gA g 44), .int (f 4)]) := rfl
theorem cE_41 (g : cG) (f : Nat → Int32) : cE g 41 f = .inl (g.2.1.1, 60, .inl f) := rfl
theorem cE_42 (g : cG) (f : Nat → Int32) : cE g 42 f = .inl (g.2.1.1, 60, .inl f) := rfl
theorem cE_43 (g : cG) (f : Nat → Int32) : cE g 43 f = .inl (g.2.1.1, 60, .inl f) := rfl
theorem cE_44 (g : cG) (f : Nat → Int32) : cE g 44 f = .inl (g.2.1.1, 60, .inl f) := rfl
theorem cE_45 (g : cG) (f : Nat → Int32) : cE g 45 f = .inr (0, [.ref (gA g 46), .ref (gA g 47), .ref (gA g 48), .ref (gA g 49), .int (f 4)]) := rfl
theorem cE_46 (g : cG) (f : Nat → Int32) : cE g 46 f = .inl (g.2.1.1, 60, .inl f) := rfl
theorem cE_47 (g : cG) (f : Nat → Int32) : cE g 47 f = .inl (g.2.1.1, 60, .inl f) := rfl
theorem cE_48 (g : cG) (f : Nat → Int32) : cE g 48 f = .inl (g.2.1.1, 60, .inl f) := rfl
theorem cE_49 (g : cG) (f : Nat → Int32) : cE g 49 f = .inl (g.2.1.1, 60, .inl f) := rfl
theorem cE_50 (g : cG) (f : Nat → Int32) : cE g 50 f = .inr (0, [.ref (gA g 51), .ref (gA g 52), .ref (gA g 53), .ref (gA g 54), .int (f 4)]) := rfl
theorem cE_51 (g : cG) (f : Nat → Int32) : cE g 51 f = .inl (g.2.1.1, 60, .inl f) := rfl
theorem cE_52 (g : cG) (f : Nat → Int32) : cE g 52 f = .inl (g.2.1.1, 60, .inl f) := rfl
theorem cE_53 (g : cG) (f : Nat → Int32) : cE g 53 f = .inl (g.2.1.1, 60, .inl f) := rfl
theorem cE_54 (g : cG) (f : Nat → Int32) : cE g 54 f = .inl (g.2.1.1, 60, .inl f) := rfl
theorem cE_55 (g : cG) (f : Nat → Int32) : cE g 55 f = .inr (0, [.ref (gA g 56), .ref (gA g 57), .ref (gA g 58), .ref (gA g 59), .int (f 4)]) := rfl
theorem cE_56 (g : cG) (f : Nat → Int32) : cE g 56 f = .inl (g.2.1.1, 60, .inl f) := rfl
theorem cE_57 (g : cG) (f : Nat → Int32) : cE g 57 f = .inl (g.2.1.1, 60, .inl f) := rfl
theorem cE_58 (g : cG) (f : Nat → Int32) : cE g 58 f = .inl (g.2.1.1, 60, .inl f) := rfl
theorem cE_59 (g : cG) (f : Nat → Int32) : cE g 59 f = .inl (g.2.1.1, 60, .inl f) := rfl
theorem cE_60 (g : cG) (f : Nat → Int32) : cE g 60 f = .inr (0, [.ref (gA g 61), .ref (gA g 62), .ref (gA g 63), .ref (gA g 64), .int (f 4)]) := rfl
theorem cE_61 (g : cG) (f : Nat → Int32) : cE g 61 f = .inl (g.2.1.1, 60, .inl f) := rfl
theorem cE_62 (g : cG) (f : Nat → Int32) : cE g 62 f = .inl (g.2.1.1, 60, .inl f) := rfl
theorem cE_63 (g : cG) (f : Nat → Int32) : cE g 63 f = .inl (g.2.1.1, 60, .inl f) := rfl
theorem cE_64 (g : cG) (f : Nat → Int32) : cE g 64 f = .inl (g.2.1.1, 60, .inl f) := rfl
theorem cE_65 (g : cG) (f : Nat → Int32) : cE g 65 f = .inr (8, [.ref (gA g 0), .ref (gA g 67), .ref (gA g 69), .ref (gA g 73), .ref (gA g 78), .ref (gA g 81), .ref (gA g 82), .ref (gA g 66), .int (f 8)]) := rfl
theorem cE_66 (g : cG) (f : Nat → Int32) : cE g 66 f = .inl (g.2.1.2.1, 8, .inr (.inr (.inr (.inr (fun i => if i < 8 then some (gA g (25 + 5 * i)) else none))))) := rfl
theorem cE_67 (g : cG) (f : Nat → Int32) : cE g 67 f = .inr (1, [.ref (gA g 68), .int (f 1), .int (f 2)]) := rfl
theorem cE_68 (g : cG) (f : Nat → Int32) : cE g 68 f = .inl (g.2.1.2.2, 4, .inr (.inr (.inr (.inr (fun i => if i < 4 then some (gA g (5 + 5 * i)) else none))))) := rfl
theorem cE_69 (g : cG) (f : Nat → Int32) : cE g 69 f = .inr (5, [.ref (gA g 0), .ref (gA g 70), .ref (gA g 71), .ref (gA g 72)]) := rfl
theorem cE_70 (g : cG) (f : Nat → Int32) : cE g 70 f = .inl (g.2.1.1, 1296, .inl f) := rfl
theorem cE_71 (g : cG) (f : Nat → Int32) : cE g 71 f = .inl (g.2.1.1, 12, .inl f) := rfl
theorem cE_72 (g : cG) (f : Nat → Int32) : cE g 72 f = .inl (g.2.1.1, 81, .inl f) := rfl
theorem cE_73 (g : cG) (f : Nat → Int32) : cE g 73 f = .inr (4, [.int (f 0), .ref (gA g 74), .ref (gA g 75), .ref (gA g 76), .ref (gA g 77), .int (f 5), .int (f 6), .int (f 7), .int (f 8), .int (f 9), .int (f 10), rfF g (f 11)]) := rfl
theorem cE_74 (g : cG) (f : Nat → Int32) : cE g 74 f = .inl (g.2.1.1, 60, .inl f) := rfl
theorem cE_75 (g : cG) (f : Nat → Int32) : cE g 75 f = .inl (g.2.1.1, 60, .inl f) := rfl
theorem cE_76 (g : cG) (f : Nat → Int32) : cE g 76 f = .inl (g.2.1.1, 60, .inl f) := rfl
theorem cE_77 (g : cG) (f : Nat → Int32) : cE g 77 f = .inl (g.2.1.1, 60, .inl f) := rfl
theorem cE_78 (g : cG) (f : Nat → Int32) : cE g 78 f = .inr (3, [.ref (gA g 0), .ref (gA g 69), .ref (gA g 79), .ref (gA g 80)]) := rfl
theorem cE_79 (g : cG) (f : Nat → Int32) : cE g 79 f = .inl (g.2.1.1, 60, .inl f) := rfl
theorem cE_80 (g : cG) (f : Nat → Int32) : cE g 80 f = .inl (g.2.1.1, 12, .inl f) := rfl
theorem cE_81 (g : cG) (f : Nat → Int32) : cE g 81 f = .inr (7, [.ref (gA g 0), .ref (gA g 69), .ref (gA g 78), .int (f 3)]) := rfl
theorem cE_82 (g : cG) (f : Nat → Int32) : cE g 82 f = .inr (2, [.ref (gA g 0), .ref (gA g 69), .ref (gA g 83), .ref (gA g 84), .ref (gA g 85), .ref (gA g 86)]) := rfl
theorem cE_83 (g : cG) (f : Nat → Int32) : cE g 83 f = .inl (g.2.1.1, 12, .inl f) := rfl
theorem cE_84 (g : cG) (f : Nat → Int32) : cE g 84 f = .inl (g.2.1.1, 12, .inl f) := rfl
theorem cE_85 (g : cG) (f : Nat → Int32) : cE g 85 f = .inl (g.2.1.1, 81, .inl f) := rfl
theorem cE_86 (g : cG) (f : Nat → Int32) : cE g 86 f = .inl (g.2.1.1, 81, .inl f) := rfl
theorem isS_cases {t : Nat} (h : isS t = true) : t = 0 ∨ t = 5 ∨ t = 10 ∨ t = 15 ∨ t = 20 := by
  simp only [isS, Bool.or_eq_true, beq_iff_eq] at h
  omega
theorem isF_cases {t : Nat} (h : isF t = true) : t = 25 ∨ t = 30 ∨ t = 35 ∨ t = 40 ∨ t = 45 ∨ t = 50 ∨ t = 55 ∨ t = 60 := by
  simp only [isF, Bool.or_eq_true, beq_iff_eq] at h
  omega
theorem isS_lt {t : Nat} (h : isS t = true) : t < 87 := by
  have := isS_cases h
  omega
theorem isF_lt {t : Nat} (h : isF t = true) : t < 87 := by
  have := isF_cases h
  omega
theorem cE_S {t : Nat} (h : isS t = true) (g : cG) (f : Nat → Int32) : cE g t f = .inr (6, [.int (f 0), .int (f 1), .int (f 2), .ref (gA g (t + 1)), .ref (gA g (t + 2)), .ref (gA g (t + 3)), .ref (gA g (t + 4)), .int (f 7)]) := by
  rcases isS_cases h with rfl | rfl | rfl | rfl | rfl <;> rfl
theorem cE_F {t : Nat} (h : isF t = true) (g : cG) (f : Nat → Int32) : cE g t f = .inr (0, [.ref (gA g (t + 1)), .ref (gA g (t + 2)), .ref (gA g (t + 3)), .ref (gA g (t + 4)), .int (f 4)]) := by
  rcases isF_cases h with rfl | rfl | rfl | rfl | rfl | rfl | rfl | rfl <;> rfl
/-- cell k is a row of n ints -/
def isA (k n : Nat) : Prop := k < 87 ∧ n < 2 ^ 31 ∧ ∀ (g : cG) (f : Nat → Int32), cE g k f = .inl (g.2.1.1, n, .inl f)
theorem a_S1 {t : Nat} (h : isS t = true) : isA (t + 1) 12 := by
  rcases isS_cases h with rfl | rfl | rfl | rfl | rfl <;> exact ⟨by decide, by decide, fun _ _ => rfl⟩
theorem a_S2 {t : Nat} (h : isS t = true) : isA (t + 2) 48 := by
  rcases isS_cases h with rfl | rfl | rfl | rfl | rfl <;> exact ⟨by decide, by decide, fun _ _ => rfl⟩
theorem a_S3 {t : Nat} (h : isS t = true) : isA (t + 3) 48 := by
  rcases isS_cases h with rfl | rfl | rfl | rfl | rfl <;> exact ⟨by decide, by decide, fun _ _ => rfl⟩
theorem a_S4 {t : Nat} (h : isS t = true) : isA (t + 4) 972 := by
  rcases isS_cases h with rfl | rfl | rfl | rfl | rfl <;> exact ⟨by decide, by decide, fun _ _ => rfl⟩
theorem a_F1 {t : Nat} (h : isF t = true) : isA (t + 1) 60 := by
  rcases isF_cases h with rfl | rfl | rfl | rfl | rfl | rfl | rfl | rfl <;> exact ⟨by decide, by decide, fun _ _ => rfl⟩
theorem a_F2 {t : Nat} (h : isF t = true) : isA (t + 2) 60 := by
  rcases isF_cases h with rfl | rfl | rfl | rfl | rfl | rfl | rfl | rfl <;> exact ⟨by decide, by decide, fun _ _ => rfl⟩
theorem a_F3 {t : Nat} (h : isF t = true) : isA (t + 3) 60 := by
  rcases isF_cases h with rfl | rfl | rfl | rfl | rfl | rfl | rfl | rfl <;> exact ⟨by decide, by decide, fun _ _ => rfl⟩
theorem a_F4 {t : Nat} (h : isF t = true) : isA (t + 4) 60 := by
  rcases isF_cases h with rfl | rfl | rfl | rfl | rfl | rfl | rfl | rfl <;> exact ⟨by decide, by decide, fun _ _ => rfl⟩
/-! THE WORLD: all cells -/
def wl (g : cG) (σ : St) : va_W := (List.range 87).map (fun k => (gA g k, cE g k (σ k)))
theorem wl_get (g : cG) (σ : St) {k : Nat} (hk : k < 87) : (wl g σ)[k]? = some (gA g k, cE g k (σ k)) := by
  simp [wl, hk]
theorem wl_some {g : cG} {σ : St} {k : Nat} {q : Nat × va_E} (h : (wl g σ)[k]? = some q) : k < 87 ∧ q = (gA g k, cE g k (σ k)) := by
  by_cases hk : k < 87
  · rw [wl_get g σ hk] at h
    exact ⟨hk, (Option.some.inj h).symm⟩
  · have : (wl g σ)[k]? = none := by
      apply List.getElem?_eq_none
      simp [wl]
      omega
    rw [this] at h
    cases h
theorem wl_len (g : cG) (σ : St) : (wl g σ).length = 87 := by simp [wl]
theorem wl_set (g : cG) (σ : St) {k : Nat} (f : Nat → Int32) {e : va_E} (he : e = cE g k f) : (wl g σ).set k (gA g k, e) = wl g (va_up σ k f) := by
  subst he
  apply List.ext_getElem?
  intro j
  by_cases hj : j < 87
  · rw [wl_get g _ hj, List.getElem?_set, wl_len]
    by_cases hkj : k = j
    · subst hkj
      simp [hj, va_up]
    · rw [if_neg hkj, wl_get g σ hj, va_up_ne _ _ (Ne.symm hkj)]
  · have h1 : ((wl g σ).set k (gA g k, cE g k f))[j]? = none := by
      apply List.getElem?_eq_none
      rw [List.length_set, wl_len]
      omega
    have h2 : (wl g (va_up σ k f))[j]? = none := by
      apply List.getElem?_eq_none
      rw [wl_len]
      omega
    rw [h1, h2]
def gInj (g : cG) : Prop := ∀ i j : Nat, i < 87 → j < 87 → gA g i = gA g j → i = j
def cA (g : cG) : Nat → Prop := fun q => ∃ k : Nat, k < 87 ∧ q = gA g k
theorem wl_D {g : cG} (hi : gInj g) (σ : St) : va_D (cA g) (wl g σ) := by
  refine ⟨fun i j p q hp hq he => ?_, fun k q hq => ?_⟩
  · obtain ⟨h1, rfl⟩ := wl_some hp
    obtain ⟨h2, rfl⟩ := wl_some hq
    exact hi i j h1 h2 he
  · obtain ⟨h1, rfl⟩ := wl_some hq
    exact ⟨k, h1, rfl⟩
def wW (g : cG) (σ : St) (H : Heap) : Prop := va_P g.1 vwCl (wl g σ) H
def gTys (g : cG) : List (ClassId × FieldType) := [(g.2.1.1, .int), (g.2.1.2.1, .object "CoalitionChecker$Formula"), (g.2.1.2.2, .object "CoalitionChecker$Structure")]
def XPre (g : cG) (σ : St) (U : State) : Prop := wW g σ U.heap ∧ va_K g.1 vwCl (gTys g) U
def XQ (g : cG) (rv : Option Value) (σ : St) : Array Value → State → Outcome → State → Prop := fun _ st oc t => oc = .returned rv ∧ wW g σ t.heap ∧ va_F (cA g) st t
def XQp (rv : Option Value) : Array Value → State → Outcome → State → Prop := fun _ st oc t => oc = .returned rv ∧ t.heap = st.heap
/-! THE PLACE: program, launch, environment, room, start, method, arguments, frames below, method record, code; cells and slots made; words of locals; what may change -/
abbrev XC : Type := Program × Launch × Env × Room × State × MethodId × Array Value × List Frame × Method × Code × Nat × Nat × Nat × (Nat → Prop)
def Xs (C : XC) (Wd : St → Heap → Prop) (Q : State → Prop) (σ : St) (pc : Nat) (lv : List (Nat × Value)) (st : List Value) : Prop :=
  ∀ (H : Heap) (locs : List Loc) (ls : Array Slot), Wd σ H → va_S C.2.2.2.2.2.2.2.2.2.2.2.2.2 C.2.2.2.2.1.heap H locs → lv_has ls C.2.2.2.2.2.2.2.2.2.2.2.2.1 lv →
    W C.1 C.2.1 C.2.2.1 C.2.2.2.1 C.2.2.2.2.1 C.2.2.2.2.2.1 C.2.2.2.2.2.2.1 C.2.2.2.2.2.2.2.1 C.2.2.2.2.2.2.2.2.1 C.2.2.2.2.2.2.2.2.2.1 H locs C.2.2.2.2.2.2.2.2.2.2.1 C.2.2.2.2.2.2.2.2.2.2.2.1 Q (F0 C.2.2.2.2.2.1 pc ls st)
def XOk (C : XC) (cc : ByteArray) (own : String) (Ts : List Cond) (R0 : Room) : Prop :=
  C.1.tables.exec = Jvm.exec ∧ C.2.2.2.2.2.2.2.2.2.1.code = cc ∧ C.2.2.2.2.2.2.2.2.2.1.maxLocals = C.2.2.2.2.2.2.2.2.2.2.2.2.1 ∧ C.2.2.2.2.1.vm.findClass own = some C.2.2.2.2.2.1.cls ∧ (∀ w ∈ Ts, w.before C.2.2.2.2.2.2.1 C.2.2.2.2.1 = true) ∧ C.2.2.2.1 = R0 ∧ C.2.2.2.2.2.2.2.2.2.2.1 ≤ R0.cells ∧ C.2.2.2.2.2.2.2.2.2.2.2.1 ≤ R0.slots
def XG (C : XC) (g : cG) : Prop := va_K g.1 vwCl (gTys g) C.2.2.2.2.1 ∧ gInj g ∧ C.2.2.2.2.2.2.2.2.2.2.2.2.2 = cA g
/-- the end of a method -/
def XEnd (C : XC) (ret : Option FieldType) (Q : State → Prop) (Qc : Array Value → State → Outcome → State → Prop) (free : Nat → Prop) : Prop :=
  C.2.2.2.2.2.2.2.2.1.sig.returnType = ret ∧ C.2.2.2.2.2.2.2.2.1.locks = false ∧ Q = MQ C.2.2.2.2.2.2.2.1 Qc C.2.2.2.2.2.2.1 C.2.2.2.2.1 C.2.2.2.2.2.2.2.2.2.2.1 C.2.2.2.2.2.2.2.2.2.2.2.1 free ∧ C.2.2.2.2.2.2.2.2.2.2.2.2.2 = free
/-! loops -/
def loopF {S O : Type} (step : (S → Option O) → S → Option O) : Nat → S → Option O
  | 0, _ => none
  | n + 1, z => step (loopF step n) z
theorem loopF_ind {S O : Type} {step : (S → Option O) → S → Option O} {o : O} {P : S → Prop} (hs : ∀ k : S → Option O, (∀ z, k z = some o → P z) → ∀ z, step k z = some o → P z) : ∀ (n : Nat) (z : S), loopF step n z = some o → P z
  | 0, _, h => by cases h
  | n + 1, z, h => hs (loopF step n) (loopF_ind hs n) z h
def cFu : Nat := 100000
def oF {α : Type} (o : Option Nat) (a : Option α) (f : Nat → Option α) : Option α := match o with
  | none => a
  | some t => if isF t then f t else none
def oS {α : Type} (o : Option Nat) (a : Option α) (f : Nat → Option α) : Option α := match o with
  | none => a
  | some t => if isS t then f t else none
def chk {α : Type} (i : Int32) (n : Nat) (a : Option α) : Option α := if i < 0 ∨ n ≤ i.toNatClampNeg then none else a
theorem chk_inv {α : Type} {i : Int32} {n : Nat} {a : Option α} {o : α} (h : chk i n a = some o) : vp_in i n ∧ a = some o := by
  unfold chk at h
  split at h
  · cases h
  · exact ⟨by assumption, h⟩
theorem oF_inv {α : Type} {o : Option Nat} {a : Option α} {f : Nat → Option α} {r : α} (h : oF o a f = some r) : (o = none ∧ a = some r) ∨ ∃ t, o = some t ∧ isF t = true ∧ f t = some r := by
  cases o with
  | none => exact Or.inl ⟨rfl, h⟩
  | some t =>
    refine Or.inr ⟨t, rfl, ?_⟩
    have h : (if isF t then f t else none) = some r := h
    split at h
    · exact ⟨by assumption, h⟩
    · cases h
theorem oS_inv {α : Type} {o : Option Nat} {a : Option α} {f : Nat → Option α} {r : α} (h : oS o a f = some r) : (o = none ∧ a = some r) ∨ ∃ t, o = some t ∧ isS t = true ∧ f t = some r := by
  cases o with
  | none => exact Or.inl ⟨rfl, h⟩
  | some t =>
    refine Or.inr ⟨t, rfl, ?_⟩
    have h : (if isS t then f t else none) = some r := h
    split at h
    · exact ⟨by assumption, h⟩
    · cases h
/-- a boolean answer out of an int -/
def rtB {α : Type} (v : Int32) (f : Bool → Option α) : Option α := if v = 0 then f false else if v = 1 then f true else none
theorem rtB_inv {α : Type} {v : Int32} {f : Bool → Option α} {r : α} (h : rtB v f = some r) : ∃ b, v = bI b ∧ f b = some r := by
  unfold rtB at h
  split at h
  · exact ⟨false, by assumption, h⟩
  · split at h
    · exact ⟨true, by assumption, h⟩
    · cases h
/-- a divisor -/
def dvz {α : Type} (y : Int32) (a : Option α) : Option α := if y = 0 then none else a
theorem dvz_inv {α : Type} {y : Int32} {a : Option α} {r : α} (h : dvz y a = some r) : ¬ y = 0 ∧ a = some r := by
  unfold dvz at h
  split at h
  · cases h
  · exact ⟨by assumption, h⟩
theorem bnd_inv {α β : Type} {x : Option α} {f : α → Option β} {r : β} (h : x.bind f = some r) : ∃ u, x = some u ∧ f u = some r := by
  cases x with
  | none => cases h
  | some u => exact ⟨u, rfl, h⟩
theorem rfV_cat (g : cG) (o : Option Nat) : (rfV g o).category = 1 := by cases o <;> rfl
theorem bI_z (b : Bool) : narrow .boolean (.int (bI b)) = .int (bI b) := by cases b <;> rfl
section XR
variable {C : XC} {cc : ByteArray} {own : String} {Ts : List Cond} {R0 : Room} {g : cG} {Wd : St → Heap → Prop} {Q : State → Prop} {σ : St} {lv lv' : List (Nat × Value)} {rest : List Value} {pc q : Nat} {x y : Int32}
theorem x_iconst {n : Int} {v : Int32} (h : XOk C cc own Ts R0) (hdg : decode cc pc = .ok (.iconst n, 1)) (hv : Int32.ofInt n = v) (hq : pc + 1 = q) (k : Xs C Wd Q σ q lv (.int v :: rest)) : Xs C Wd Q σ pc lv rest := by
  subst hq; exact fun H locs ls hW hS hl => lv_iconst h.1 h.2.1 hdg hv (k H locs ls hW hS hl)
theorem x_bipush {n : Int} {v : Int32} (h : XOk C cc own Ts R0) (hdg : decode cc pc = .ok (.bipush n, 2)) (hv : (Int8.ofInt n).toInt32 = v) (hq : pc + 2 = q) (k : Xs C Wd Q σ q lv (.int v :: rest)) : Xs C Wd Q σ pc lv rest := by
  subst hq; exact fun H locs ls hW hS hl => lv_bipush h.1 h.2.1 hdg hv (k H locs ls hW hS hl)
theorem x_sipush {n : Int} {v : Int32} (h : XOk C cc own Ts R0) (hdg : decode cc pc = .ok (.sipush n, 3)) (hv : (Int16.ofInt n).toInt32 = v) (hq : pc + 3 = q) (k : Xs C Wd Q σ q lv (.int v :: rest)) : Xs C Wd Q σ pc lv rest := by
  subst hq; exact fun H locs ls hW hS hl => lv_sipush h.1 h.2.1 hdg hv (k H locs ls hW hS hl)
theorem x_ldc {index : Nat} {v : Int32} (h : XOk C cc own Ts R0) (hc : Jvm.Cond.constant own index v ∈ Ts) (hdg : decode cc pc = .ok (.ldc index, 2)) (hq : pc + 2 = q) (k : Xs C Wd Q σ q lv (.int v :: rest)) : Xs C Wd Q σ pc lv rest := by
  subst hq; exact fun H locs ls hW hS hl => lv_ldc h.1 h.2.1 h.2.2.2.1 (h.2.2.2.2.1 _ hc) hdg (k H locs ls hW hS hl)
theorem x_ldcw {index : Nat} {v : Int32} (h : XOk C cc own Ts R0) (hc : Jvm.Cond.constant own index v ∈ Ts) (hdg : decode cc pc = .ok (.ldc_w index, 3)) (hq : pc + 3 = q) (k : Xs C Wd Q σ q lv (.int v :: rest)) : Xs C Wd Q σ pc lv rest := by
  subst hq; exact fun H locs ls hW hS hl => lv_ldcw h.1 h.2.1 h.2.2.2.1 (h.2.2.2.2.1 _ hc) hdg (k H locs ls hW hS hl)
theorem x_ldc2 {index : Nat} {v : Int64} (h : XOk C cc own Ts R0) (hc : Jvm.Cond.constantLong own index v ∈ Ts) (hdg : decode cc pc = .ok (.ldc2_w index, 3)) (hq : pc + 3 = q) (k : Xs C Wd Q σ q lv (.long v :: rest)) : Xs C Wd Q σ pc lv rest := by
  subst hq; exact fun H locs ls hW hS hl => lv_ldc2 h.1 h.2.1 h.2.2.2.1 (h.2.2.2.2.1 _ hc) hdg (k H locs ls hW hS hl)
theorem x_iload_n {kk : Fin 4} {i : Nat} (h : XOk C cc own Ts R0) (hdg : decode cc pc = .ok (.iload_n kk, 1)) (hi : (kk : Nat) = i) (j : Nat) (hj : lv[j]? = some (i, .int x)) (hq : pc + 1 = q) (k : Xs C Wd Q σ q lv (.int x :: rest)) : Xs C Wd Q σ pc lv rest := by
  subst hq; exact fun H locs ls hW hS hl => lv_iload_n h.1 h.2.1 hdg hi (lv_at hl j hj) (k H locs ls hW hS hl)
theorem x_iload {i : Nat} (h : XOk C cc own Ts R0) (hdg : decode cc pc = .ok (.iload i, 2)) (j : Nat) (hj : lv[j]? = some (i, .int x)) (hq : pc + 2 = q) (k : Xs C Wd Q σ q lv (.int x :: rest)) : Xs C Wd Q σ pc lv rest := by
  subst hq; exact fun H locs ls hW hS hl => lv_iload h.1 h.2.1 hdg (lv_at hl j hj) (k H locs ls hW hS hl)
theorem x_lload_n {kk : Fin 4} {i : Nat} {z : Int64} (h : XOk C cc own Ts R0) (hdg : decode cc pc = .ok (.lload_n kk, 1)) (hi : (kk : Nat) = i) (j : Nat) (hj : lv[j]? = some (i, .long z)) (hq : pc + 1 = q) (k : Xs C Wd Q σ q lv (.long z :: rest)) : Xs C Wd Q σ pc lv rest := by
  subst hq; exact fun H locs ls hW hS hl => lv_lload_n h.1 h.2.1 hdg hi (lv_at hl j hj) (k H locs ls hW hS hl)
theorem x_aload_n {kk : Fin 4} {i a : Nat} (h : XOk C cc own Ts R0) (hdg : decode cc pc = .ok (.aload_n kk, 1)) (hi : (kk : Nat) = i) (j : Nat) (hj : lv[j]? = some (i, .ref a)) (hq : pc + 1 = q) (k : Xs C Wd Q σ q lv (.ref a :: rest)) : Xs C Wd Q σ pc lv rest := by
  subst hq; exact fun H locs ls hW hS hl => lv_aload_n h.1 h.2.1 hdg hi (lv_at hl j hj) (k H locs ls hW hS hl)
theorem x_aload {i a : Nat} (h : XOk C cc own Ts R0) (hdg : decode cc pc = .ok (.aload i, 2)) (j : Nat) (hj : lv[j]? = some (i, .ref a)) (hq : pc + 2 = q) (k : Xs C Wd Q σ q lv (.ref a :: rest)) : Xs C Wd Q σ pc lv rest := by
  subst hq; exact fun H locs ls hW hS hl => lv_aload h.1 h.2.1 hdg (lv_at hl j hj) (k H locs ls hW hS hl)
theorem x_aload_nq {kk : Fin 4} {i : Nat} {o : Option Nat} (h : XOk C cc own Ts R0) (hdg : decode cc pc = .ok (.aload_n kk, 1)) (hi : (kk : Nat) = i) (j : Nat) (hj : lv[j]? = some (i, rfV g o)) (hq : pc + 1 = q) (k : Xs C Wd Q σ q lv (rfV g o :: rest)) : Xs C Wd Q σ pc lv rest := by
  subst hq
  intro H locs ls hW hS hl
  have k := k H locs ls hW hS hl
  have hj := lv_at hl j hj
  cases o with
  | none => exact lv_aload_nN h.1 h.2.1 hdg hi hj k
  | some t => exact lv_aload_n h.1 h.2.1 hdg hi hj k
theorem x_istore_n {kk : Fin 4} {i : Nat} (h : XOk C cc own Ts R0) (hdg : decode cc pc = .ok (.istore_n kk, 1)) (hi : (kk : Nat) = i) {nL : Nat} (hL : C.2.2.2.2.2.2.2.2.2.2.2.2.1 = nL) (hn : i < nL) (hl : (i, Value.int x) :: lv.filter (fun q => !(q.1 == i) && !(q.1 + 1 == i && q.2.category == 2)) = lv') (hq : pc + 1 = q) (k : Xs C Wd Q σ q lv' rest) : Xs C Wd Q σ pc lv (.int x :: rest) := by
  subst hq; subst hL; exact fun H locs ls hW hS hl' => lv_istore_n h.1 h.2.1 hdg hi hl' hn hl (fun ls' h' => k H locs ls' hW hS h')
theorem x_istore {i : Nat} (h : XOk C cc own Ts R0) (hdg : decode cc pc = .ok (.istore i, 2)) {nL : Nat} (hL : C.2.2.2.2.2.2.2.2.2.2.2.2.1 = nL) (hn : i < nL) (hl : (i, Value.int x) :: lv.filter (fun q => !(q.1 == i) && !(q.1 + 1 == i && q.2.category == 2)) = lv') (hq : pc + 2 = q) (k : Xs C Wd Q σ q lv' rest) : Xs C Wd Q σ pc lv (.int x :: rest) := by
  subst hq; subst hL; exact fun H locs ls hW hS hl' => lv_istore h.1 h.2.1 hdg hl' hn hl (fun ls' h' => k H locs ls' hW hS h')
theorem x_lstore_n {kk : Fin 4} {i : Nat} {z : Int64} (h : XOk C cc own Ts R0) (hdg : decode cc pc = .ok (.lstore_n kk, 1)) (hi : (kk : Nat) = i) {nL : Nat} (hL : C.2.2.2.2.2.2.2.2.2.2.2.2.1 = nL) (hn : i + 1 < nL) (hl : (i, Value.long z) :: lv.filter (fun q => !(q.1 == i) && (!(q.1 == i + 1) && !(q.1 + 1 == i && q.2.category == 2))) = lv') (hq : pc + 1 = q) (k : Xs C Wd Q σ q lv' rest) : Xs C Wd Q σ pc lv (.long z :: rest) := by
  subst hq; subst hL; exact fun H locs ls hW hS hl' => lv_lstore_n h.1 h.2.1 hdg hi hl' hn hl (fun ls' h' => k H locs ls' hW hS h')
theorem x_astore_n {kk : Fin 4} {i a : Nat} (h : XOk C cc own Ts R0) (hdg : decode cc pc = .ok (.astore_n kk, 1)) (hi : (kk : Nat) = i) {nL : Nat} (hL : C.2.2.2.2.2.2.2.2.2.2.2.2.1 = nL) (hn : i < nL) (hl : (i, Value.ref a) :: lv.filter (fun q => !(q.1 == i) && !(q.1 + 1 == i && q.2.category == 2)) = lv') (hq : pc + 1 = q) (k : Xs C Wd Q σ q lv' rest) : Xs C Wd Q σ pc lv (.ref a :: rest) := by
  subst hq; subst hL; exact fun H locs ls hW hS hl' => lv_astore_n h.1 h.2.1 hdg hi hl' hn hl (fun ls' h' => k H locs ls' hW hS h')
theorem x_astore_nq {kk : Fin 4} {i : Nat} {o : Option Nat} (h : XOk C cc own Ts R0) (hdg : decode cc pc = .ok (.astore_n kk, 1)) (hi : (kk : Nat) = i) {nL : Nat} (hL : C.2.2.2.2.2.2.2.2.2.2.2.2.1 = nL) (hn : i < nL) (hl : (i, rfV g o) :: lv.filter (fun q => !(q.1 == i) && !(q.1 + 1 == i && q.2.category == 2)) = lv') (hq : pc + 1 = q) (k : Xs C Wd Q σ q lv' rest) : Xs C Wd Q σ pc lv (rfV g o :: rest) := by
  subst hq; subst hL
  cases o with
  | none => exact fun H locs ls hW hS hl' => lv_astore_nN h.1 h.2.1 hdg hi hl' hn hl (fun ls' h' => k H locs ls' hW hS h')
  | some t => exact fun H locs ls hW hS hl' => lv_astore_n h.1 h.2.1 hdg hi hl' hn hl (fun ls' h' => k H locs ls' hW hS h')
theorem x_astoreq {i : Nat} {o : Option Nat} (h : XOk C cc own Ts R0) (hdg : decode cc pc = .ok (.astore i, 2)) {nL : Nat} (hL : C.2.2.2.2.2.2.2.2.2.2.2.2.1 = nL) (hn : i < nL) (hl : (i, rfV g o) :: lv.filter (fun q => !(q.1 == i) && !(q.1 + 1 == i && q.2.category == 2)) = lv') (hq : pc + 2 = q) (k : Xs C Wd Q σ q lv' rest) : Xs C Wd Q σ pc lv (rfV g o :: rest) := by
  subst hq; subst hL
  cases o with
  | none => exact fun H locs ls hW hS hl' => lv_astoreN h.1 h.2.1 hdg hl' hn hl (fun ls' h' => k H locs ls' hW hS h')
  | some t => exact fun H locs ls hW hS hl' => lv_astore h.1 h.2.1 hdg hl' hn hl (fun ls' h' => k H locs ls' hW hS h')
theorem x_aloadq {i : Nat} {o : Option Nat} (h : XOk C cc own Ts R0) (hdg : decode cc pc = .ok (.aload i, 2)) (j : Nat) (hj : lv[j]? = some (i, rfV g o)) (hq : pc + 2 = q) (k : Xs C Wd Q σ q lv (rfV g o :: rest)) : Xs C Wd Q σ pc lv rest := by
  subst hq
  intro H locs ls hW hS hl
  have k := k H locs ls hW hS hl
  have hj := lv_at hl j hj
  cases o with
  | none => exact lv_aloadN h.1 h.2.1 hdg hj k
  | some t => exact lv_aload h.1 h.2.1 hdg hj k
theorem x_iinc {i j : Nat} {n : Int} {v : Int32} (h : XOk C cc own Ts R0) (hdg : decode cc pc = .ok (.iinc i n, 3)) (hj : lv[j]? = some (i, .int x)) (hv : x + Int32.ofInt n = v) {nL : Nat} (hL : C.2.2.2.2.2.2.2.2.2.2.2.2.1 = nL) (hn : i < nL) (hl : (i, Value.int v) :: lv.filter (fun q => !(q.1 == i) && !(q.1 + 1 == i && q.2.category == 2)) = lv') (hq : pc + 3 = q) (k : Xs C Wd Q σ q lv' rest) : Xs C Wd Q σ pc lv rest := by
  subst hq; subst hL; exact fun H locs ls hW hS hl' => lv_iinc h.1 h.2.1 hdg hl' hj hv hn hl (fun ls' h' => k H locs ls' hW hS h')
theorem x_iadd (h : XOk C cc own Ts R0) (hdg : decode cc pc = .ok (.iadd, 1)) (hq : pc + 1 = q) (k : Xs C Wd Q σ q lv (.int (x + y) :: rest)) : Xs C Wd Q σ pc lv (.int y :: .int x :: rest) := by
  subst hq; exact fun H locs ls hW hS hl => lv_iadd h.1 h.2.1 hdg (k H locs ls hW hS hl)
theorem x_isub (h : XOk C cc own Ts R0) (hdg : decode cc pc = .ok (.isub, 1)) (hq : pc + 1 = q) (k : Xs C Wd Q σ q lv (.int (x - y) :: rest)) : Xs C Wd Q σ pc lv (.int y :: .int x :: rest) := by
  subst hq; exact fun H locs ls hW hS hl => lv_isub h.1 h.2.1 hdg (k H locs ls hW hS hl)
theorem x_imul (h : XOk C cc own Ts R0) (hdg : decode cc pc = .ok (.imul, 1)) (hq : pc + 1 = q) (k : Xs C Wd Q σ q lv (.int (x * y) :: rest)) : Xs C Wd Q σ pc lv (.int y :: .int x :: rest) := by
  subst hq; exact fun H locs ls hW hS hl => lv_imul h.1 h.2.1 hdg (k H locs ls hW hS hl)
theorem x_iand (h : XOk C cc own Ts R0) (hdg : decode cc pc = .ok (.iand, 1)) (hq : pc + 1 = q) (k : Xs C Wd Q σ q lv (.int (x &&& y) :: rest)) : Xs C Wd Q σ pc lv (.int y :: .int x :: rest) := by
  subst hq; exact fun H locs ls hW hS hl => lv_iand h.1 h.2.1 hdg (k H locs ls hW hS hl)
theorem x_ior (h : XOk C cc own Ts R0) (hdg : decode cc pc = .ok (.ior, 1)) (hq : pc + 1 = q) (k : Xs C Wd Q σ q lv (.int (x ||| y) :: rest)) : Xs C Wd Q σ pc lv (.int y :: .int x :: rest) := by
  subst hq; exact fun H locs ls hW hS hl => lv_ior h.1 h.2.1 hdg (k H locs ls hW hS hl)
theorem x_ixor (h : XOk C cc own Ts R0) (hdg : decode cc pc = .ok (.ixor, 1)) (hq : pc + 1 = q) (k : Xs C Wd Q σ q lv (.int (x ^^^ y) :: rest)) : Xs C Wd Q σ pc lv (.int y :: .int x :: rest) := by
  subst hq; exact fun H locs ls hW hS hl => lv_ixor h.1 h.2.1 hdg (k H locs ls hW hS hl)
theorem x_ishl (h : XOk C cc own Ts R0) (hdg : decode cc pc = .ok (.ishl, 1)) (hq : pc + 1 = q) (k : Xs C Wd Q σ q lv (.int (x <<< (y &&& 31)) :: rest)) : Xs C Wd Q σ pc lv (.int y :: .int x :: rest) := by
  subst hq; exact fun H locs ls hW hS hl => lv_ishl h.1 h.2.1 hdg (k H locs ls hW hS hl)
theorem x_ishr (h : XOk C cc own Ts R0) (hdg : decode cc pc = .ok (.ishr, 1)) (hq : pc + 1 = q) (k : Xs C Wd Q σ q lv (.int (x >>> (y &&& 31)) :: rest)) : Xs C Wd Q σ pc lv (.int y :: .int x :: rest) := by
  subst hq; exact fun H locs ls hW hS hl => lv_ishr h.1 h.2.1 hdg (k H locs ls hW hS hl)
theorem x_iushr (h : XOk C cc own Ts R0) (hdg : decode cc pc = .ok (.iushr, 1)) (hq : pc + 1 = q) (k : Xs C Wd Q σ q lv (.int (x.toUInt32 >>> (y.toUInt32 &&& Int32.toUInt32 31)).toInt32 :: rest)) : Xs C Wd Q σ pc lv (.int y :: .int x :: rest) := by
  subst hq; exact fun H locs ls hW hS hl => lv_iushr h.1 h.2.1 hdg rfl (k H locs ls hW hS hl)
theorem x_idiv (h : XOk C cc own Ts R0) (hne : ¬ y = 0) (hdg : decode cc pc = .ok (.idiv, 1)) (hq : pc + 1 = q) (k : Xs C Wd Q σ q lv (.int (x / y) :: rest)) : Xs C Wd Q σ pc lv (.int y :: .int x :: rest) := by
  subst hq; exact fun H locs ls hW hS hl => lv_idiv h.1 h.2.1 hdg hne (k H locs ls hW hS hl)
theorem x_irem (h : XOk C cc own Ts R0) (hne : ¬ y = 0) (hdg : decode cc pc = .ok (.irem, 1)) (hq : pc + 1 = q) (k : Xs C Wd Q σ q lv (.int (x - x / y * y) :: rest)) : Xs C Wd Q σ pc lv (.int y :: .int x :: rest) := by
  subst hq; exact fun H locs ls hW hS hl => lv_irem h.1 h.2.1 hdg hne (k H locs ls hW hS hl)
theorem x_i2l (h : XOk C cc own Ts R0) (hdg : decode cc pc = .ok (.i2l, 1)) (hq : pc + 1 = q) (k : Xs C Wd Q σ q lv (.long x.toInt64 :: rest)) : Xs C Wd Q σ pc lv (.int x :: rest) := by
  subst hq; exact fun H locs ls hW hS hl => lv_i2l h.1 h.2.1 hdg rfl (k H locs ls hW hS hl)
theorem x_ladd {a b : Int64} (h : XOk C cc own Ts R0) (hdg : decode cc pc = .ok (.ladd, 1)) (hq : pc + 1 = q) (k : Xs C Wd Q σ q lv (.long (a + b) :: rest)) : Xs C Wd Q σ pc lv (.long b :: .long a :: rest) := by
  subst hq; exact fun H locs ls hW hS hl => lv_ladd h.1 h.2.1 hdg (k H locs ls hW hS hl)
theorem x_lmul {a b : Int64} (h : XOk C cc own Ts R0) (hdg : decode cc pc = .ok (.lmul, 1)) (hq : pc + 1 = q) (k : Xs C Wd Q σ q lv (.long (a * b) :: rest)) : Xs C Wd Q σ pc lv (.long b :: .long a :: rest) := by
  subst hq; exact fun H locs ls hW hS hl => lv_lmul h.1 h.2.1 hdg (k H locs ls hW hS hl)
theorem x_lcmp {a b : Int64} (h : XOk C cc own Ts R0) (hdg : decode cc pc = .ok (.lcmp, 1)) (hq : pc + 1 = q) (k : Xs C Wd Q σ q lv (.int (lg_cmp a b) :: rest)) : Xs C Wd Q σ pc lv (.long b :: .long a :: rest) := by
  subst hq; exact fun H locs ls hW hS hl => W.lcmp h.1 h.2.1 hdg (k H locs ls hW hS hl)
theorem x_dup {va : Value} (h : XOk C cc own Ts R0) (hdg : decode cc pc = .ok (.dup, 1)) (hva : va.category = 1) (hq : pc + 1 = q) (k : Xs C Wd Q σ q lv (va :: va :: rest)) : Xs C Wd Q σ pc lv (va :: rest) := by
  subst hq; exact fun H locs ls hW hS hl => lv_dup h.1 h.2.1 hdg hva (k H locs ls hW hS hl)
theorem x_pop {va : Value} (h : XOk C cc own Ts R0) (hdg : decode cc pc = .ok (.pop, 1)) (hva : va.category = 1) (hq : pc + 1 = q) (k : Xs C Wd Q σ q lv rest) : Xs C Wd Q σ pc lv (va :: rest) := by
  subst hq; exact fun H locs ls hW hS hl => lv_pop h.1 h.2.1 hdg hva (k H locs ls hW hS hl)
theorem x_dup2 {va vb : Value} (h : XOk C cc own Ts R0) (hdg : decode cc pc = .ok (.dup2, 1)) (hva : va.category = 1) (hvb : vb.category = 1) (hq : pc + 1 = q) (k : Xs C Wd Q σ q lv (va :: vb :: va :: vb :: rest)) : Xs C Wd Q σ pc lv (va :: vb :: rest) := by
  subst hq; exact fun H locs ls hW hS hl => lv_dup2_11 h.1 h.2.1 hdg hva hvb (k H locs ls hW hS hl)
theorem x_goto {off : Int} (h : XOk C cc own Ts R0) (hdg : decode cc pc = .ok (.goto off, 3)) (ht : (pc : Int) + off = (q : Int)) (k : Xs C Wd Q σ q lv rest) : Xs C Wd Q σ pc lv rest :=
  fun H locs ls hW hS hl => lv_goto h.1 h.2.1 hdg ht (k H locs ls hW hS hl)
theorem x_null (h : XOk C cc own Ts R0) (hdg : decode cc pc = .ok (.aconst_null, 1)) (hq : pc + 1 = q) (k : Xs C Wd Q σ q lv (rfV g none :: rest)) : Xs C Wd Q σ pc lv rest := by
  subst hq; exact fun H locs ls hW hS hl => lv_null h.1 h.2.1 hdg (k H locs ls hW hS hl)
theorem x_ifnonnull {a tgt : Nat} {off : Int} (h : XOk C cc own Ts R0) (hdg : decode cc pc = .ok (.ifnonnull off, 3)) (ht : (pc : Int) + off = (tgt : Int)) (k : Xs C Wd Q σ tgt lv rest) : Xs C Wd Q σ pc lv (.ref a :: rest) :=
  fun H locs ls hW hS hl => lv_ifnonnull h.1 h.2.1 hdg ht (k H locs ls hW hS hl)
theorem x_ifnull {a : Nat} {off : Int} (h : XOk C cc own Ts R0) (hdg : decode cc pc = .ok (.ifnull off, 3)) (hq : pc + 3 = q) (k : Xs C Wd Q σ q lv rest) : Xs C Wd Q σ pc lv (.ref a :: rest) := by
  subst hq; exact fun H locs ls hW hS hl => lv_ifnull h.1 h.2.1 hdg (k H locs ls hW hS hl)
theorem x_ifnonnullN {off : Int} (h : XOk C cc own Ts R0) (hdg : decode cc pc = .ok (.ifnonnull off, 3)) (hq : pc + 3 = q) (k : Xs C Wd Q σ q lv rest) : Xs C Wd Q σ pc lv (rfV g none :: rest) := by
  subst hq; exact fun H locs ls hW hS hl => lv_ifnonnullN h.1 h.2.1 hdg (k H locs ls hW hS hl)
theorem x_ifnullN {tgt : Nat} {off : Int} (h : XOk C cc own Ts R0) (hdg : decode cc pc = .ok (.ifnull off, 3)) (ht : (pc : Int) + off = (tgt : Int)) (k : Xs C Wd Q σ tgt lv rest) : Xs C Wd Q σ pc lv (rfV g none :: rest) :=
  fun H locs ls hW hS hl => lv_ifnullN h.1 h.2.1 hdg ht (k H locs ls hW hS hl)
/-- the same world, fewer or reordered locals -/
theorem x_sub (is : List Nat) (hl : lv_pick lv is = lv') (k : Xs C Wd Q σ pc lv' rest) : Xs C Wd Q σ pc lv rest :=
  fun H locs ls hW hS h => k H locs ls hW hS (lv_sub h is hl)
theorem x_if_eq {α : Type} {a b o : α} {off : Int} {tgt : Nat} (h : XOk C cc own Ts R0) (hdg : decode cc pc = .ok (.ifCond .eq off, 3)) (ht : (pc : Int) + off = (tgt : Int)) (hq : pc + 3 = q) (hf : (if x = 0 then a else b) = o) (kt : x = 0 → a = o → Xs C Wd Q σ tgt lv rest) (kf : ¬ x = 0 → b = o → Xs C Wd Q σ q lv rest) : Xs C Wd Q σ pc lv (.int x :: rest) := by
  subst hq; exact fun H locs ls hW hS hl => lv_if_eq h.1 h.2.1 hdg ht (fun hc => kt hc ((if_pos hc).symm.trans hf) H locs ls hW hS hl) (fun hc => kf hc ((if_neg hc).symm.trans hf) H locs ls hW hS hl)
theorem x_icmp_eq {α : Type} {a b o : α} {off : Int} {tgt : Nat} (h : XOk C cc own Ts R0) (hdg : decode cc pc = .ok (.if_icmp .eq off, 3)) (ht : (pc : Int) + off = (tgt : Int)) (hq : pc + 3 = q) (hf : (if x = y then a else b) = o) (kt : x = y → a = o → Xs C Wd Q σ tgt lv rest) (kf : ¬ x = y → b = o → Xs C Wd Q σ q lv rest) : Xs C Wd Q σ pc lv (.int y :: .int x :: rest) := by
  subst hq; exact fun H locs ls hW hS hl => lv_icmp_eq h.1 h.2.1 hdg ht (fun hc => kt hc ((if_pos hc).symm.trans hf) H locs ls hW hS hl) (fun hc => kf hc ((if_neg hc).symm.trans hf) H locs ls hW hS hl)
theorem x_if_lt {α : Type} {a b o : α} {off : Int} {tgt : Nat} (h : XOk C cc own Ts R0) (hdg : decode cc pc = .ok (.ifCond .lt off, 3)) (ht : (pc : Int) + off = (tgt : Int)) (hq : pc + 3 = q) (hf : (if x < 0 then a else b) = o) (kt : x < 0 → a = o → Xs C Wd Q σ tgt lv rest) (kf : ¬ x < 0 → b = o → Xs C Wd Q σ q lv rest) : Xs C Wd Q σ pc lv (.int x :: rest) := by
  subst hq; exact fun H locs ls hW hS hl => lv_if_lt h.1 h.2.1 hdg ht (fun hc => kt hc ((if_pos hc).symm.trans hf) H locs ls hW hS hl) (fun hc => kf hc ((if_neg hc).symm.trans hf) H locs ls hW hS hl)
theorem x_icmp_lt {α : Type} {a b o : α} {off : Int} {tgt : Nat} (h : XOk C cc own Ts R0) (hdg : decode cc pc = .ok (.if_icmp .lt off, 3)) (ht : (pc : Int) + off = (tgt : Int)) (hq : pc + 3 = q) (hf : (if x < y then a else b) = o) (kt : x < y → a = o → Xs C Wd Q σ tgt lv rest) (kf : ¬ x < y → b = o → Xs C Wd Q σ q lv rest) : Xs C Wd Q σ pc lv (.int y :: .int x :: rest) := by
  subst hq; exact fun H locs ls hW hS hl => lv_icmp_lt h.1 h.2.1 hdg ht (fun hc => kt hc ((if_pos hc).symm.trans hf) H locs ls hW hS hl) (fun hc => kf hc ((if_neg hc).symm.trans hf) H locs ls hW hS hl)
theorem x_if_ge {α : Type} {a b o : α} {off : Int} {tgt : Nat} (h : XOk C cc own Ts R0) (hdg : decode cc pc = .ok (.ifCond .ge off, 3)) (ht : (pc : Int) + off = (tgt : Int)) (hq : pc + 3 = q) (hf : (if 0 ≤ x then a else b) = o) (kt : 0 ≤ x → a = o → Xs C Wd Q σ tgt lv rest) (kf : ¬ 0 ≤ x → b = o → Xs C Wd Q σ q lv rest) : Xs C Wd Q σ pc lv (.int x :: rest) := by
  subst hq; exact fun H locs ls hW hS hl => lv_if_ge h.1 h.2.1 hdg ht (fun hc => kt hc ((if_pos hc).symm.trans hf) H locs ls hW hS hl) (fun hc => kf hc ((if_neg hc).symm.trans hf) H locs ls hW hS hl)
theorem x_icmp_ge {α : Type} {a b o : α} {off : Int} {tgt : Nat} (h : XOk C cc own Ts R0) (hdg : decode cc pc = .ok (.if_icmp .ge off, 3)) (ht : (pc : Int) + off = (tgt : Int)) (hq : pc + 3 = q) (hf : (if y ≤ x then a else b) = o) (kt : y ≤ x → a = o → Xs C Wd Q σ tgt lv rest) (kf : ¬ y ≤ x → b = o → Xs C Wd Q σ q lv rest) : Xs C Wd Q σ pc lv (.int y :: .int x :: rest) := by
  subst hq; exact fun H locs ls hW hS hl => lv_icmp_ge h.1 h.2.1 hdg ht (fun hc => kt hc ((if_pos hc).symm.trans hf) H locs ls hW hS hl) (fun hc => kf hc ((if_neg hc).symm.trans hf) H locs ls hW hS hl)
theorem x_if_gt {α : Type} {a b o : α} {off : Int} {tgt : Nat} (h : XOk C cc own Ts R0) (hdg : decode cc pc = .ok (.ifCond .gt off, 3)) (ht : (pc : Int) + off = (tgt : Int)) (hq : pc + 3 = q) (hf : (if 0 < x then a else b) = o) (kt : 0 < x → a = o → Xs C Wd Q σ tgt lv rest) (kf : ¬ 0 < x → b = o → Xs C Wd Q σ q lv rest) : Xs C Wd Q σ pc lv (.int x :: rest) := by
  subst hq; exact fun H locs ls hW hS hl => lv_if_gt h.1 h.2.1 hdg ht (fun hc => kt hc ((if_pos hc).symm.trans hf) H locs ls hW hS hl) (fun hc => kf hc ((if_neg hc).symm.trans hf) H locs ls hW hS hl)
theorem x_icmp_gt {α : Type} {a b o : α} {off : Int} {tgt : Nat} (h : XOk C cc own Ts R0) (hdg : decode cc pc = .ok (.if_icmp .gt off, 3)) (ht : (pc : Int) + off = (tgt : Int)) (hq : pc + 3 = q) (hf : (if y < x then a else b) = o) (kt : y < x → a = o → Xs C Wd Q σ tgt lv rest) (kf : ¬ y < x → b = o → Xs C Wd Q σ q lv rest) : Xs C Wd Q σ pc lv (.int y :: .int x :: rest) := by
  subst hq; exact fun H locs ls hW hS hl => lv_icmp_gt h.1 h.2.1 hdg ht (fun hc => kt hc ((if_pos hc).symm.trans hf) H locs ls hW hS hl) (fun hc => kf hc ((if_neg hc).symm.trans hf) H locs ls hW hS hl)
theorem x_if_le {α : Type} {a b o : α} {off : Int} {tgt : Nat} (h : XOk C cc own Ts R0) (hdg : decode cc pc = .ok (.ifCond .le off, 3)) (ht : (pc : Int) + off = (tgt : Int)) (hq : pc + 3 = q) (hf : (if x ≤ 0 then a else b) = o) (kt : x ≤ 0 → a = o → Xs C Wd Q σ tgt lv rest) (kf : ¬ x ≤ 0 → b = o → Xs C Wd Q σ q lv rest) : Xs C Wd Q σ pc lv (.int x :: rest) := by
  subst hq; exact fun H locs ls hW hS hl => lv_if_le h.1 h.2.1 hdg ht (fun hc => kt hc ((if_pos hc).symm.trans hf) H locs ls hW hS hl) (fun hc => kf hc ((if_neg hc).symm.trans hf) H locs ls hW hS hl)
theorem x_icmp_le {α : Type} {a b o : α} {off : Int} {tgt : Nat} (h : XOk C cc own Ts R0) (hdg : decode cc pc = .ok (.if_icmp .le off, 3)) (ht : (pc : Int) + off = (tgt : Int)) (hq : pc + 3 = q) (hf : (if x ≤ y then a else b) = o) (kt : x ≤ y → a = o → Xs C Wd Q σ tgt lv rest) (kf : ¬ x ≤ y → b = o → Xs C Wd Q σ q lv rest) : Xs C Wd Q σ pc lv (.int y :: .int x :: rest) := by
  subst hq; exact fun H locs ls hW hS hl => lv_icmp_le h.1 h.2.1 hdg ht (fun hc => kt hc ((if_pos hc).symm.trans hf) H locs ls hW hS hl) (fun hc => kf hc ((if_neg hc).symm.trans hf) H locs ls hW hS hl)
theorem x_if_ne {α : Type} {a b o : α} {off : Int} {tgt : Nat} (h : XOk C cc own Ts R0) (hdg : decode cc pc = .ok (.ifCond .ne off, 3)) (ht : (pc : Int) + off = (tgt : Int)) (hq : pc + 3 = q) (hf : (if x = 0 then a else b) = o) (kt : ¬ x = 0 → b = o → Xs C Wd Q σ tgt lv rest) (kf : x = 0 → a = o → Xs C Wd Q σ q lv rest) : Xs C Wd Q σ pc lv (.int x :: rest) := by
  subst hq; exact fun H locs ls hW hS hl => lv_if_ne h.1 h.2.1 hdg ht (fun hc => kt hc ((if_neg hc).symm.trans hf) H locs ls hW hS hl) (fun hc => kf hc ((if_pos hc).symm.trans hf) H locs ls hW hS hl)
theorem x_icmp_ne {α : Type} {a b o : α} {off : Int} {tgt : Nat} (h : XOk C cc own Ts R0) (hdg : decode cc pc = .ok (.if_icmp .ne off, 3)) (ht : (pc : Int) + off = (tgt : Int)) (hq : pc + 3 = q) (hf : (if x = y then a else b) = o) (kt : ¬ x = y → b = o → Xs C Wd Q σ tgt lv rest) (kf : x = y → a = o → Xs C Wd Q σ q lv rest) : Xs C Wd Q σ pc lv (.int y :: .int x :: rest) := by
  subst hq; exact fun H locs ls hW hS hl => lv_icmp_ne h.1 h.2.1 hdg ht (fun hc => kt hc ((if_neg hc).symm.trans hf) H locs ls hW hS hl) (fun hc => kf hc ((if_pos hc).symm.trans hf) H locs ls hW hS hl)
theorem x_tableIn {dflt lo hi off : Int} {offs : Array Int} {len tgt : Nat} (h : XOk C cc own Ts R0) (hdg : decode cc pc = .ok (.tableswitch dflt lo hi offs, len)) (h1 : ¬ x.toInt < lo) (h2 : ¬ hi < x.toInt) (ho : offs[(x.toInt - lo).toNat]? = some off) (ht : (pc : Int) + off = (tgt : Int)) (k : Xs C Wd Q σ tgt lv rest) : Xs C Wd Q σ pc lv (.int x :: rest) :=
  fun H locs ls hW hS hl => lv_tableIn h.1 h.2.1 hdg h1 h2 ho ht (k H locs ls hW hS hl)
theorem x_tableOut {dflt lo hi : Int} {offs : Array Int} {len tgt : Nat} (h : XOk C cc own Ts R0) (hdg : decode cc pc = .ok (.tableswitch dflt lo hi offs, len)) (h1 : x.toInt < lo ∨ hi < x.toInt) (ht : (pc : Int) + dflt = (tgt : Int)) (k : Xs C Wd Q σ tgt lv rest) : Xs C Wd Q σ pc lv (.int x :: rest) :=
  fun H locs ls hW hS hl => lv_tableOut h.1 h.2.1 hdg h1 ht (k H locs ls hW hS hl)
theorem x_lookup {dflt off : Int} {ps : Array (Int × Int)} {len tgt : Nat} (h : XOk C cc own Ts R0) (hdg : decode cc pc = .ok (.lookupswitch dflt ps, len)) (hp : (ps.toList.zip (ps.toList.drop 1)).all (fun (a, next) => a.1 < next.1) = true) (ho : Op.lookupswitch.offset ps.toList dflt x.toInt = off) (ht : (pc : Int) + off = (tgt : Int)) (k : Xs C Wd Q σ tgt lv rest) : Xs C Wd Q σ pc lv (.int x :: rest) :=
  fun H locs ls hW hS hl => lv_lookup h.1 h.2.1 hdg hp ho ht (k H locs ls hW hS hl)
theorem ne_toInt {x k : Int32} (h : ¬ x = k) : x.toInt ≠ k.toInt := fun q => h (Int32.toInt_inj.mp q)
/-! fields, rows -/
theorem x_get {ci index N : Nat} {fs : List Value} {ref CN : String} {T : u_T} {c : Nat} {v : Value} (h : XOk C cc own Ts R0) (hg : XG C g) (hk : c < 87) (he : cE g c (σ c) = .inr (ci, fs)) (hc : vwCl[ci]? = some (CN, T, N)) (hin : ∀ w ∈ u_ws CN T N, w ∈ Ts) (j : Nat) (hj : j < N) (hl : Cond.fieldLink own index ref (T j).2.1 (T j).2.2.1 ∈ Ts) (hs : (T j).1 = ref) (hv : fs[j]? = some v) (hdg : decode cc pc = .ok (.getfield index, 3)) (k : Xs C (wW g) Q σ (pc + 3) lv (v :: rest)) : Xs C (wW g) Q σ pc lv (.ref (gA g c) :: rest) := by
  intro H locs ls hW hS hl'
  exact va_get h.1 h.2.1 h.2.2.2.2.1 hin h.2.2.2.1 hg.1 hW c ((wl_get g σ hk).trans (by rw [he])) hc j hj (h.2.2.2.2.1 _ hl) (fun x hx => by rw [← hs]; exact hx) hv hdg (k H locs ls hW hS hl')
theorem x_put {ci index N : Nat} {fs : List Value} {ref CN : String} {T : u_T} {c : Nat} {v : Int32} (h : XOk C cc own Ts R0) (hg : XG C g) (hk : c < 87) (he : cE g c (σ c) = .inr (ci, fs)) (hc : vwCl[ci]? = some (CN, T, N)) (hin : ∀ w ∈ u_ws CN T N, w ∈ Ts) (ty0 : Nat → FieldType) (hty : ∀ k, k < N → parseFieldDescriptor (T k).2.2.1 = some (ty0 k)) (hnm : ∀ a, a < N → ∀ b, b < N → a ≠ b → (T a).2.1 ≠ (T b).2.1) (j : Nat) (hj : j < N) (hl : Cond.fieldLink own index ref (T j).2.1 (T j).2.2.1 ∈ Ts) (hs : (T j).1 = ref) (hfin : (T j).2.2.2 = false) {ty : FieldType} (hd : parseFieldDescriptor (T j).2.2.1 = some ty) (hn : narrow ty (.int v) = .int v) (hfit : fits ty (.int v) = true) (hlen : j < fs.length) (hset : cE g c (upd (σ c) j v) = .inr (ci, fs.set j (.int v))) (hdg : decode cc pc = .ok (.putfield index, 3)) (k : Xs C (wW g) Q (up σ c j v) (pc + 3) lv rest) : Xs C (wW g) Q σ pc lv (.int v :: .ref (gA g c) :: rest) := by
  intro H locs ls hW hS hl'
  have hA := hg.2.2
  exact va_put h.1 h.2.1 h.2.2.2.2.1 hin ty0 hty hnm h.2.2.2.1 hg.1 hW (wl_D hg.2.1 σ) (by rw [← hA]; exact hS) c ((wl_get g σ hk).trans (by rw [he])) hc j hj (h.2.2.2.2.1 _ hl) (fun x hx => by rw [← hs]; exact hx) hfin hd hn hfit hlen hdg (fun H1 locs1 hP1 _ hS1 => k H1 locs1 ls (by rw [wl_set g σ (upd (σ c) j v) hset.symm] at hP1; exact hP1) (by rw [hA]; exact hS1) hl')
/-- the one reference that changes: the reader's formula -/
theorem nI_isF {t : Nat} (ht : isF t = true) : dF (nI t) = some t := by
  rcases isF_cases ht with rfl | rfl | rfl | rfl | rfl | rfl | rfl | rfl <;> rfl
theorem x_putfml {index : Nat} {t : Nat} (h : XOk C cc own Ts R0) (hg : XG C g) (ht : isF t = true) (hl : Cond.fieldLink own index "CoalitionChecker$Reader" "formula" "LCoalitionChecker$Formula;" ∈ Ts) (hin : ∀ w ∈ wsX40, w ∈ Ts) (hdg : decode cc pc = .ok (.putfield index, 3)) (k : Xs C (wW g) Q (up σ 73 11 (nI t)) (pc + 3) lv rest) : Xs C (wW g) Q σ pc lv (.ref (gA g t) :: .ref (gA g 73) :: rest) := by
  intro H locs ls hW hS hl'
  have hA := hg.2.2
  have hset : (.inr (4, (([.int (σ 73 0), .ref (gA g 74), .ref (gA g 75), .ref (gA g 76), .ref (gA g 77), .int (σ 73 5), .int (σ 73 6), .int (σ 73 7), .int (σ 73 8), .int (σ 73 9), .int (σ 73 10), rfF g (σ 73 11)] : List Value).set 11 (.ref (gA g t)))) : va_E) = cE g 73 (upd (σ 73) 11 (nI t)) := by
    have e : rfF g (nI t) = .ref (gA g t) := by rw [rfF, nI_isF ht]; rfl
    rw [← e, cE_73]
    rfl
  exact va_put (D := g.1) (ci := 4) (C := RX4) (T := TX4) (N := 12) (v := .ref (gA g t)) h.1 h.2.1 h.2.2.2.2.1 hin tyX4 tyX4_ok nmX4 h.2.2.2.1 hg.1 hW (wl_D hg.2.1 σ) (by rw [← hA]; exact hS) 73 ((wl_get g σ (by decide)).trans (by rw [cE_73])) rfl 11 (by decide) (h.2.2.2.2.1 _ hl) (fun x hx => hx) rfl (ty := .object "CoalitionChecker$Formula") rfl rfl rfl (Nat.le_of_ble_eq_true rfl) hdg (fun H1 locs1 hP1 _ hS1 => k H1 locs1 ls (by rw [wl_set g σ (upd (σ 73) 11 (nI t)) hset] at hP1; exact hP1) (by rw [hA]; exact hS1) hl')
theorem x_iald {c n j : Nat} (h : XOk C cc own Ts R0) (hg : XG C g) (ha : isA c n) (hin : vp_in x n) (hj : x.toNatClampNeg = j) (hdg : decode cc pc = .ok (.iaload, 1)) (hq : pc + 1 = q) (k : Xs C (wW g) Q σ q lv (.int (σ c j) :: rest)) : Xs C (wW g) Q σ pc lv (.int x :: .ref (gA g c) :: rest) := by
  subst hq; subst hj
  intro H locs ls hW hS hl'
  exact va_iald h.1 h.2.1 hg.1 hW c 0 ((wl_get g σ ha.1).trans (by rw [ha.2.2])) rfl hin hdg (k H locs ls hW hS hl')
theorem x_iast {c n j : Nat} {v : Int32} (h : XOk C cc own Ts R0) (hg : XG C g) (ha : isA c n) (hin : vp_in x n) (hj : x.toNatClampNeg = j) (hdg : decode cc pc = .ok (.iastore, 1)) (hq : pc + 1 = q) (k : Xs C (wW g) Q (up σ c j v) q lv rest) : Xs C (wW g) Q σ pc lv (.int v :: .int x :: .ref (gA g c) :: rest) := by
  subst hq; subst hj
  intro H locs ls hW hS hl'
  have hA := hg.2.2
  exact va_iast h.1 h.2.1 hg.1 hW (wl_D hg.2.1 σ) (by rw [← hA]; exact hS) c 0 ((wl_get g σ ha.1).trans (by rw [ha.2.2])) rfl hin hdg (fun H1 locs1 hP1 _ hS1 => k H1 locs1 ls (by rw [wl_set g σ (upd (σ c) x.toNatClampNeg v) (ha.2.2 g _).symm] at hP1; exact hP1) (by rw [hA]; exact hS1) hl')
theorem x_alen {c n : Nat} {v : Int32} (h : XOk C cc own Ts R0) (hg : XG C g) (ha : isA c n) (hv : Int32.ofNat n = v) (hdg : decode cc pc = .ok (.arraylength, 1)) (hq : pc + 1 = q) (k : Xs C (wW g) Q σ q lv (.int v :: rest)) : Xs C (wW g) Q σ pc lv (.ref (gA g c) :: rest) := by
  subst hq
  intro H locs ls hW hS hl'
  exact va_alen h.1 h.2.1 hg.1 hW c 0 ((wl_get g σ ha.1).trans (by rw [ha.2.2])) rfl hv hdg (k H locs ls hW hS hl')
theorem x_alenF (h : XOk C cc own Ts R0) (hg : XG C g) (hdg : decode cc pc = .ok (.arraylength, 1)) (hq : pc + 1 = q) (k : Xs C (wW g) Q σ q lv (.int 8 :: rest)) : Xs C (wW g) Q σ pc lv (.ref (gA g 66) :: rest) := by
  subst hq
  intro H locs ls hW hS hl'
  exact va_alen h.1 h.2.1 hg.1 hW 66 1 ((wl_get g σ (by decide)).trans (by rw [cE_66])) rfl rfl hdg (k H locs ls hW hS hl')
theorem x_alenS (h : XOk C cc own Ts R0) (hg : XG C g) (hdg : decode cc pc = .ok (.arraylength, 1)) (hq : pc + 1 = q) (k : Xs C (wW g) Q σ q lv (.int 4 :: rest)) : Xs C (wW g) Q σ pc lv (.ref (gA g 68) :: rest) := by
  subst hq
  intro H locs ls hW hS hl'
  exact va_alen h.1 h.2.1 hg.1 hW 68 2 ((wl_get g σ (by decide)).trans (by rw [cE_68])) rfl rfl hdg (k H locs ls hW hS hl')
theorem cl_lt {x : Int32} {n : Nat} (hin : vp_in x n) : x.toNatClampNeg < n := Nat.not_le.mp fun q => hin (Or.inr q)
theorem isF_in {x : Int32} (hin : vp_in x 8) : isF (25 + 5 * x.toNatClampNeg) = true := by
  have h := cl_lt hin
  generalize x.toNatClampNeg = n at h
  have : n = 0 ∨ n = 1 ∨ n = 2 ∨ n = 3 ∨ n = 4 ∨ n = 5 ∨ n = 6 ∨ n = 7 := by omega
  rcases this with rfl | rfl | rfl | rfl | rfl | rfl | rfl | rfl <;> rfl
theorem isS_in {x : Int32} (hin : vp_in x 4) : isS (5 + 5 * x.toNatClampNeg) = true := by
  have h := cl_lt hin
  generalize x.toNatClampNeg = n at h
  have : n = 0 ∨ n = 1 ∨ n = 2 ∨ n = 3 := by omega
  rcases this with rfl | rfl | rfl | rfl <;> rfl
theorem x_kept (h : XOk C cc own Ts R0) (hg : XG C g) (hin : vp_in x 8) (hdg : decode cc pc = .ok (.aaload, 1)) (hq : pc + 1 = q) (k : Xs C (wW g) Q σ q lv (.ref (gA g (25 + 5 * x.toNatClampNeg)) :: rest)) : Xs C (wW g) Q σ pc lv (.int x :: .ref (gA g 66) :: rest) := by
  subst hq
  intro H locs ls hW hS hl'
  refine va_aldq h.1 h.2.1 hg.1 hW 66 1 ((wl_get g σ (by decide)).trans (by rw [cE_66])) rfl hin hdg ?_
  rw [if_pos (cl_lt hin)]
  exact k H locs ls hW hS hl'
theorem x_ring (h : XOk C cc own Ts R0) (hg : XG C g) (hin : vp_in x 4) (hdg : decode cc pc = .ok (.aaload, 1)) (hq : pc + 1 = q) (k : Xs C (wW g) Q σ q lv (.ref (gA g (5 + 5 * x.toNatClampNeg)) :: rest)) : Xs C (wW g) Q σ pc lv (.int x :: .ref (gA g 68) :: rest) := by
  subst hq
  intro H locs ls hW hS hl'
  refine va_aldq h.1 h.2.1 hg.1 hW 68 2 ((wl_get g σ (by decide)).trans (by rw [cE_68])) rfl hin hdg ?_
  rw [if_pos (cl_lt hin)]
  exact k H locs ls hW hS hl'
theorem x_copy {index c d n : Nat} (h : XOk C cc own Ts R0) (hg : XG C g) (hml : Cond.methodLink own index arraycopyName ∈ Ts) (hnat : Cond.native arraycopyName ∈ Ts) (hst : Cond.static arraycopyName ∈ Ts) (hini : Cond.initialized "java/lang/System" ∈ Ts) (hR : 1 ≤ R0.frames ∧ nativeFrameWords "java/lang/System" "arraycopy" 5 + 11 ≤ R0.locals) (ha : isA c n) (hb : isA d n) (hdg : decode cc pc = .ok (.invokestatic index, 3)) (k : Xs C (wW g) Q (va_up σ d (va_cpy (σ c) (σ d) 0 0 n)) (pc + 3) lv []) : Xs C (wW g) Q σ pc lv [.int (Int32.ofNat n), .int 0, .ref (gA g d), .int 0, .ref (gA g c)] := by
  intro H locs ls hW hS hl'
  have hA := hg.2.2
  have hn : (Int32.ofNat n).toNatClampNeg = n := nI_clamp ha.2.1
  refine va_copyi h.1 h.2.1 (h.2.2.1.trans hl'.1.symm) h.2.2.2.1 (h.2.2.2.2.1 _ hml) (h.2.2.2.2.1 _ hnat) (h.2.2.2.2.1 _ hst) (h.2.2.2.2.1 _ hini) hg.1 hW (wl_D hg.2.1 σ) (by rw [← hA]; exact hS) c d 0 0 ((wl_get g σ ha.1).trans (by rw [ha.2.2])) ((wl_get g σ hb.1).trans (by rw [hb.2.2])) rfl rfl rfl (by decide) (by decide) (nI_pos ha.2.1) ?_ ?_ (fun _ _ => rfl) ?_ ?_ hdg (fun H1 locs1 hP1 _ hS1 => k H1 locs1 ls ?_ ?_ hl')
  · rw [hn]; show 0 + n ≤ n; omega
  · rw [hn]; show 0 + n ≤ n; omega
  · rw [h.2.2.2.2.2.1]; exact hR.1
  · rw [h.2.2.2.2.2.1]; exact Nat.le_trans (Nat.le_of_eq (Nat.zero_add _)) hR.2
  · rw [hn, sb_cl0] at hP1
    rw [wl_set g σ (va_cpy (σ c) (σ d) 0 0 n) (hb.2.2 g _).symm] at hP1
    exact hP1
  · rw [hA]; exact hS1
theorem x_mmax {index : Nat} (h : XOk C cc own Ts R0) (hml : Cond.methodLink own index Lib.Math.max.name ∈ Ts) (hst : Cond.static Lib.Math.max.name ∈ Ts) (hini : Cond.initialized "java/lang/Math" ∈ Ts) (hcode : Cond.code Lib.Math.max.name Lib.Math.max.code 2 (some .int) ∈ Ts) (hR : 1 ≤ R0.frames ∧ (rest.map fun v => v.category).sum + 13 ≤ R0.locals) (hdg : decode cc pc = .ok (.invokestatic index, 3)) (k : Xs C Wd Q σ (pc + 3) lv (.int (if x < y then y else x) :: rest)) : Xs C Wd Q σ pc lv (.int y :: .int x :: rest) := by
  intro H locs ls hW hS hl'
  refine va_mmax h.1 h.2.1 (h.2.2.1.trans hl'.1.symm) h.2.2.2.1 (h.2.2.2.2.1 _ hml) (h.2.2.2.2.1 _ hst) (h.2.2.2.2.1 _ hini) (h.2.2.2.2.1 _ hcode) ?_ ?_ ?_ ?_ hdg (k H locs ls hW hS hl')
  · rw [h.2.2.2.2.2.1]; exact hR.1
  · rw [h.2.2.2.2.2.1]; exact hR.2
  · rw [h.2.2.2.2.2.1]; exact h.2.2.2.2.2.2.1
  · rw [h.2.2.2.2.2.1]; exact h.2.2.2.2.2.2.2
theorem x_mmin {index : Nat} (h : XOk C cc own Ts R0) (hml : Cond.methodLink own index Lib.Math.min.name ∈ Ts) (hst : Cond.static Lib.Math.min.name ∈ Ts) (hini : Cond.initialized "java/lang/Math" ∈ Ts) (hcode : Cond.code Lib.Math.min.name Lib.Math.min.code 2 (some .int) ∈ Ts) (hR : 1 ≤ R0.frames ∧ (rest.map fun v => v.category).sum + 13 ≤ R0.locals) (hdg : decode cc pc = .ok (.invokestatic index, 3)) (k : Xs C Wd Q σ (pc + 3) lv (.int (if y < x then y else x) :: rest)) : Xs C Wd Q σ pc lv (.int y :: .int x :: rest) := by
  intro H locs ls hW hS hl'
  refine va_mmin h.1 h.2.1 (h.2.2.1.trans hl'.1.symm) h.2.2.2.1 (h.2.2.2.2.1 _ hml) (h.2.2.2.2.1 _ hst) (h.2.2.2.2.1 _ hini) (h.2.2.2.2.1 _ hcode) ?_ ?_ ?_ ?_ hdg ?_
  · rw [h.2.2.2.2.2.1]; exact hR.1
  · rw [h.2.2.2.2.2.1]; exact hR.2
  · rw [h.2.2.2.2.2.1]; exact h.2.2.2.2.2.2.1
  · rw [h.2.2.2.2.2.1]; exact h.2.2.2.2.2.2.2
  · exact k H locs ls hW hS hl'
/-! returns -/
theorem x_iret {v : Int32} (h : XOk C cc own Ts R0) (hg : XG C g) (hr : XEnd C (some .int) Q (XQ g (some (.int v)) σ) (cA g)) (hdg : decode cc pc = .ok (.ireturn, 1)) : Xs C (wW g) Q σ pc lv [.int v] := by
  intro H locs ls hW hS hl'
  have hA := hg.2.2
  obtain ⟨r1, r2, r3, -⟩ := hr
  subst r3
  rw [hA] at hS
  exact W.iret h.1 h.2.1 r1 (fun t ht _ => ⟨rfl, by rw [ht]; exact hW, hS.F ht⟩) hS.2.2 hdg r2
theorem x_zret {b : Bool} (h : XOk C cc own Ts R0) (hg : XG C g) (hr : XEnd C (some .boolean) Q (XQ g (some (.int (bI b))) σ) (cA g)) (hdg : decode cc pc = .ok (.ireturn, 1)) : Xs C (wW g) Q σ pc lv [.int (bI b)] := by
  intro H locs ls hW hS hl'
  have hA := hg.2.2
  obtain ⟨r1, r2, r3, -⟩ := hr
  subst r3
  rw [hA] at hS
  exact W.zret h.1 h.2.1 r1 (bI_z b) (fun t ht _ => ⟨rfl, by rw [ht]; exact hW, hS.F ht⟩) hS.2.2 hdg r2
theorem x_lret {v : Int64} (h : XOk C cc own Ts R0) (hg : XG C g) (hr : XEnd C (some .long) Q (XQ g (some (.long v)) σ) (cA g)) (hdg : decode cc pc = .ok (.lreturn, 1)) : Xs C (wW g) Q σ pc lv [.long v] := by
  intro H locs ls hW hS hl'
  have hA := hg.2.2
  obtain ⟨r1, r2, r3, -⟩ := hr
  subst r3
  rw [hA] at hS
  exact W.lret h.1 h.2.1 r1 (fun t ht _ => ⟨rfl, by rw [ht]; exact hW, hS.F ht⟩) hS.2.2 hdg r2
theorem x_vret (h : XOk C cc own Ts R0) (hg : XG C g) (hr : XEnd C none Q (XQ g none σ) (cA g)) (hdg : decode cc pc = .ok (.return_, 1)) : Xs C (wW g) Q σ pc lv [] := by
  intro H locs ls hW hS hl'
  have hA := hg.2.2
  obtain ⟨r1, r2, r3, -⟩ := hr
  subst r3
  rw [hA] at hS
  exact W.vret h.1 h.2.1 r1 (fun t ht _ => ⟨rfl, by rw [ht]; exact hW, hS.F ht⟩) hS.2.2 hdg r2
theorem x_aret {o : Option Nat} {cn : String} (h : XOk C cc own Ts R0) (hg : XG C g) (hr : XEnd C (some (.object cn)) Q (XQ g (some (rfV g o)) σ) (cA g)) (hdg : decode cc pc = .ok (.areturn, 1)) : Xs C (wW g) Q σ pc lv [rfV g o] := by
  intro H locs ls hW hS hl'
  have hA := hg.2.2
  obtain ⟨r1, r2, r3, -⟩ := hr
  subst r3
  rw [hA] at hS
  exact W.aret h.1 h.2.1 r1 (Or.inl ⟨cn, rfl⟩) (by cases o with | none => exact Or.inl rfl | some t => exact Or.inr ⟨_, rfl⟩) (fun t ht _ => ⟨rfl, by rw [ht]; exact hW, hS.F ht⟩) hS.2.2 hdg r2
/-- returns of what touches no cell -/
theorem x_iretP {v : Int32} {H0 : Heap} (h : XOk C cc own Ts R0) (hr : XEnd C (some .int) Q (XQp (some (.int v))) (fun _ => False)) (hH : H0 = C.2.2.2.2.1.heap) (hdg : decode cc pc = .ok (.ireturn, 1)) : Xs C (fun _ H => H = H0) Q σ pc lv [.int v] := by
  intro H locs ls hW hS hl'
  obtain ⟨r1, r2, r3, r4⟩ := hr
  subst r3
  rw [r4] at hS
  exact W.iret h.1 h.2.1 r1 (fun t ht _ => ⟨rfl, by rw [ht, hW, hH]⟩) hS.2.2 hdg r2
theorem x_zretP {b : Bool} {H0 : Heap} (h : XOk C cc own Ts R0) (hr : XEnd C (some .boolean) Q (XQp (some (.int (bI b)))) (fun _ => False)) (hH : H0 = C.2.2.2.2.1.heap) (hdg : decode cc pc = .ok (.ireturn, 1)) : Xs C (fun _ H => H = H0) Q σ pc lv [.int (bI b)] := by
  intro H locs ls hW hS hl'
  obtain ⟨r1, r2, r3, r4⟩ := hr
  subst r3
  rw [r4] at hS
  exact W.zret h.1 h.2.1 r1 (bI_z b) (fun t ht _ => ⟨rfl, by rw [ht, hW, hH]⟩) hS.2.2 hdg r2
/-! calls -/
theorem XPre_blind {g : cG} {σ : St} {av : List Value} : FrameBlind (va_Pc av (XPre g σ)) := fun a U gg mk h => ⟨h.1, h.2.1, va_K.moved (u := U) (U := U.calling gg mk a) (Vm.Alike.refl U.vm) h.2.2⟩
theorem x_run {σ' : St} {rv : Option Value} {A0 : Array Value} {st : List Value} {gA' : cG} (hg : XG C g) (hr : ∀ (H : Heap) (locs : List Loc) (ls : Array Slot), wW g σ H → lv_has ls C.2.2.2.2.2.2.2.2.2.2.2.2.1 lv → va_Run C.1 C.2.1 C.2.2.1 C.2.2.2.1 C.2.2.2.2.1 C.2.2.2.2.2.1 C.2.2.2.2.2.2.1 C.2.2.2.2.2.2.2.1 C.2.2.2.2.2.2.2.2.1 C.2.2.2.2.2.2.2.2.2.1 H locs C.2.2.2.2.2.2.2.2.2.2.1 C.2.2.2.2.2.2.2.2.2.2.2.1 0 0 (F0 C.2.2.2.2.2.1 pc ls st) rest (XQ g rv σ' A0) (cA g)) (k : Xs C (wW g) Q σ' (pc + 3) lv (rv.toList ++ rest)) : Xs C (wW g) Q σ pc lv st := by
  intro H locs ls hW hS hl' T hT X
  have hA := hg.2.2
  obtain ⟨v, st₀, t, T', L, h0, X', hL, e1, e2, ⟨hv, hP, hz, hk⟩, st⟩ := hr H locs ls hW hl' T hT X
  cases hv
  rw [h0] at hz hk
  rw [hA] at hS
  obtain ⟨t2, a1, b1⟩ := k T'.heap (locs ++ L) ls (by rw [e1]; exact hP) (by
    rw [hA]
    exact ⟨Nat.le_trans hS.1 (by rw [e1]; exact hz), fun q h1 h2 => by rw [e1, hk q (Nat.lt_of_lt_of_le h1 hS.1) h2]; exact hS.2.1 q h1 h2, fun q hq => by
      rcases List.mem_append.mp hq with h | h
      · exact hS.2.2 q h
      · exact hL q h⟩) hl' T' rfl X'
  exact ⟨t2, st t2 a1, b1⟩
theorem x_callV {σ' : St} {rv : Option Value} {y : MethodName} {bytes : ByteArray} {maxL n index ci c : Nat} {ret : Option FieldType} {ws ws' : List Cond} {rm : Room} {CN : String} {T : u_T} {N : Nat} {fs As st : List Value} (h : XOk C cc own Ts R0) (hg : XG C g) (hM : Met C.2.1 y ws rm (va_Pc (.ref (gA g c) :: As) (XPre g σ)) (XQ g rv σ') 0 0 (cA g)) (hG : GoodIn Ts (wsV own index CN y ws)) (hw : ws = Cond.code y bytes maxL ret :: ws') (hrc : rm.cells = 0) (hrs : rm.slots = 0) (hd : y.cls = CN ∧ y.cls ≠ "java/lang/invoke/MethodHandle" ∧ y.cls ≠ "java/lang/invoke/VarHandle" ∧ (parseMethodDescriptor y.desc).map (fun d => d.parameters.length) = some n) (hR : rm.frames + 1 ≤ R0.frames ∧ 8 + (maxL + 11) + rm.locals ≤ R0.locals) (hk : c < 87) (he : cE g c (σ c) = .inr (ci, fs)) (hc : vwCl[ci]? = some (CN, T, N)) (hn : As.length = n) (hst : st = As.reverse ++ .ref (gA g c) :: rest) (hcat : (rest.map fun v => v.category).sum ≤ 8) (hdg : decode cc pc = .ok (.invokevirtual index, 3)) (k : Xs C (wW g) Q σ' (pc + 3) lv (rv.toList ++ rest)) : Xs C (wW g) Q σ pc lv st := by
  refine x_run (A0 := (Value.ref (gA g c) :: As).toArray) (gA' := g) hg (fun H locs ls hW hl' => ?_) k
  refine va_runV (Ts := Ts) (C := CN) ⟨h.1, h.2.1, h.2.2.1, h.2.2.2.1, h.2.2.2.2.1⟩ hM (cwV n h.2.2.2.2.1 hG hw hrc hrs hd (by rw [h.2.2.2.2.2.1]; exact hR)) ⟨XPre_blind, va_recv hg.1 hW (q0 := c) hc ((wl_get g σ hk).trans (by rw [he])), fun U hU hWm => ⟨rfl, by rw [hU]; exact hW, va_K.moved hWm.alike hg.1⟩⟩ rfl hn hl'.1 hst (lv_room (pc := pc) (ls := ls) (m := C.2.2.2.2.2.1) (rest := st) hcat) hdg ?_
  rw [h.2.2.2.2.2.1]
  exact ⟨h.2.2.2.2.2.2.1, h.2.2.2.2.2.2.2⟩
theorem x_callS {σ' : St} {rv : Option Value} {y : MethodName} {bytes : ByteArray} {maxL n index : Nat} {ret : Option FieldType} {ws ws' : List Cond} {rm : Room} {As st : List Value} (h : XOk C cc own Ts R0) (hg : XG C g) (hM : Met C.2.1 y ws rm (va_Pc As (XPre g σ)) (XQ g rv σ') 0 0 (cA g)) (hG : GoodIn Ts (va_wsS own index y ws)) (hw : ws = Cond.code y bytes maxL ret :: ws') (hrc : rm.cells = 0) (hrs : rm.slots = 0) (hd : y.cls ≠ "java/lang/invoke/MethodHandle" ∧ y.cls ≠ "java/lang/invoke/VarHandle" ∧ (parseMethodDescriptor y.desc).map (fun d => d.parameters.length) = some n) (hR : rm.frames + 1 ≤ R0.frames ∧ 8 + (maxL + 11) + rm.locals ≤ R0.locals) (hn : As.length = n) (hst : st = As.reverse ++ rest) (hcat : (rest.map fun v => v.category).sum ≤ 8) (hdg : decode cc pc = .ok (.invokestatic index, 3)) (k : Xs C (wW g) Q σ' (pc + 3) lv (rv.toList ++ rest)) : Xs C (wW g) Q σ pc lv st := by
  refine x_run (A0 := As.toArray) (gA' := g) hg (fun H locs ls hW hl' => ?_) k
  refine va_runS (Ts := Ts) ⟨h.1, h.2.1, h.2.2.1, h.2.2.2.1, h.2.2.2.2.1⟩ hM (va_cwS n h.2.2.2.2.1 hG hw hrc hrs hd (by rw [h.2.2.2.2.2.1]; exact hR)) ⟨XPre_blind, fun U hU hWm => ⟨rfl, by rw [hU]; exact hW, va_K.moved hWm.alike hg.1⟩⟩ rfl hn hl'.1 hst (lv_room (pc := pc) (ls := ls) (m := C.2.2.2.2.2.1) (rest := st) hcat) hdg ?_
  rw [h.2.2.2.2.2.1]
  exact ⟨h.2.2.2.2.2.2.1, h.2.2.2.2.2.2.2⟩
/-- a static method that touches no cell -/
theorem x_callP {rv : Option Value} {y : MethodName} {bytes : ByteArray} {maxL n index : Nat} {ret : Option FieldType} {ws ws' : List Cond} {rm : Room} {As st : List Value} (h : XOk C cc own Ts R0) (hM : Met C.2.1 y ws rm (va_Pc As (fun _ => True)) (XQp rv) 0 0 (fun _ => False)) (hG : GoodIn Ts (va_wsS own index y ws)) (hw : ws = Cond.code y bytes maxL ret :: ws') (hrc : rm.cells = 0) (hrs : rm.slots = 0) (hd : y.cls ≠ "java/lang/invoke/MethodHandle" ∧ y.cls ≠ "java/lang/invoke/VarHandle" ∧ (parseMethodDescriptor y.desc).map (fun d => d.parameters.length) = some n) (hR : rm.frames + 1 ≤ R0.frames ∧ 8 + (maxL + 11) + rm.locals ≤ R0.locals) (hn : As.length = n) (hst : st = As.reverse ++ rest) (hcat : (rest.map fun v => v.category).sum ≤ 8) (hdg : decode cc pc = .ok (.invokestatic index, 3)) (k : Xs C Wd Q σ (pc + 3) lv (rv.toList ++ rest)) : Xs C Wd Q σ pc lv st := by
  intro H locs ls hW hS hl' T hT X
  have hr : va_Run C.1 C.2.1 C.2.2.1 C.2.2.2.1 C.2.2.2.2.1 C.2.2.2.2.2.1 C.2.2.2.2.2.2.1 C.2.2.2.2.2.2.2.1 C.2.2.2.2.2.2.2.2.1 C.2.2.2.2.2.2.2.2.2.1 H locs C.2.2.2.2.2.2.2.2.2.2.1 C.2.2.2.2.2.2.2.2.2.2.2.1 0 0 (F0 C.2.2.2.2.2.1 pc ls st) rest (XQp rv As.toArray) (fun _ => False) := by
    refine va_runS (Ts := Ts) ⟨h.1, h.2.1, h.2.2.1, h.2.2.2.1, h.2.2.2.2.1⟩ hM (va_cwS n h.2.2.2.2.1 hG hw hrc hrs hd (by rw [h.2.2.2.2.2.1]; exact hR)) ⟨fun a U gg mk hh => ⟨hh.1, trivial⟩, fun U hU hWm => ⟨rfl, trivial⟩⟩ rfl hn hl'.1 hst (lv_room (pc := pc) (ls := ls) (m := C.2.2.2.2.2.1) (rest := st) hcat) hdg ?_
    rw [h.2.2.2.2.2.1]
    exact ⟨h.2.2.2.2.2.2.1, h.2.2.2.2.2.2.2⟩
  obtain ⟨v, st₀, t, T', L, h0, X', hL, e1, e2, ⟨hv, hP⟩, st'⟩ := hr T hT X
  cases hv
  have hH : T'.heap = H := by rw [e1, hP, h0]
  obtain ⟨t2, a1, b1⟩ := k H locs ls hW hS hl' T' hH (Stand.forget X' (fun q h => (hL q h).elim))
  exact ⟨t2, st' t2 a1, b1⟩
theorem x_callVi {σ' : St} {r : Int32} {y : MethodName} {bytes : ByteArray} {maxL n index ci c : Nat} {ret : Option FieldType} {rm : Room} {CN : String} {T : u_T} {N : Nat} {fs As st : List Value} (h : XOk C cc own tG R0) (hg : XG C g) (hM : Met C.2.1 y (wT y bytes maxL ret) rm (va_Pc (.ref (gA g c) :: As) (XPre g σ)) (XQ g (some (.int r)) σ') 0 0 (cA g)) (hml : Cond.methodLink own index y ∈ tG) (hbi : biV CN y bytes maxL ret) (hrc : rm.cells = 0) (hrs : rm.slots = 0) (hd : y.cls = CN ∧ y.cls ≠ "java/lang/invoke/MethodHandle" ∧ y.cls ≠ "java/lang/invoke/VarHandle" ∧ (parseMethodDescriptor y.desc).map (fun d => d.parameters.length) = some n) (hR : rm.frames + 1 ≤ R0.frames ∧ 8 + (maxL + 11) + rm.locals ≤ R0.locals) (hk : c < 87) (he : cE g c (σ c) = .inr (ci, fs)) (hc : vwCl[ci]? = some (CN, T, N)) (hn : As.length = n) (hst : st = As.reverse ++ .ref (gA g c) :: rest) (hcat : (rest.map fun v => v.category).sum ≤ 8) (hdg : decode cc pc = .ok (.invokevirtual index, 3)) (k : Xs C (wW g) Q σ' (pc + 3) lv (.int r :: rest)) : Xs C (wW g) Q σ pc lv st :=
  x_callV (rv := some (.int r)) h hg hM (gdV hml hbi) rfl hrc hrs hd hR hk he hc hn hst hcat hdg k
theorem x_callVv {σ' : St} {y : MethodName} {bytes : ByteArray} {maxL n index ci c : Nat} {ret : Option FieldType} {rm : Room} {CN : String} {T : u_T} {N : Nat} {fs As st : List Value} (h : XOk C cc own tG R0) (hg : XG C g) (hM : Met C.2.1 y (wT y bytes maxL ret) rm (va_Pc (.ref (gA g c) :: As) (XPre g σ)) (XQ g (none) σ') 0 0 (cA g)) (hml : Cond.methodLink own index y ∈ tG) (hbi : biV CN y bytes maxL ret) (hrc : rm.cells = 0) (hrs : rm.slots = 0) (hd : y.cls = CN ∧ y.cls ≠ "java/lang/invoke/MethodHandle" ∧ y.cls ≠ "java/lang/invoke/VarHandle" ∧ (parseMethodDescriptor y.desc).map (fun d => d.parameters.length) = some n) (hR : rm.frames + 1 ≤ R0.frames ∧ 8 + (maxL + 11) + rm.locals ≤ R0.locals) (hk : c < 87) (he : cE g c (σ c) = .inr (ci, fs)) (hc : vwCl[ci]? = some (CN, T, N)) (hn : As.length = n) (hst : st = As.reverse ++ .ref (gA g c) :: rest) (hcat : (rest.map fun v => v.category).sum ≤ 8) (hdg : decode cc pc = .ok (.invokevirtual index, 3)) (k : Xs C (wW g) Q σ' (pc + 3) lv (rest)) : Xs C (wW g) Q σ pc lv st :=
  x_callV (rv := none) h hg hM (gdV hml hbi) rfl hrc hrs hd hR hk he hc hn hst hcat hdg k
theorem x_callVl {σ' : St} {r : Int64} {y : MethodName} {bytes : ByteArray} {maxL n index ci c : Nat} {ret : Option FieldType} {rm : Room} {CN : String} {T : u_T} {N : Nat} {fs As st : List Value} (h : XOk C cc own tG R0) (hg : XG C g) (hM : Met C.2.1 y (wT y bytes maxL ret) rm (va_Pc (.ref (gA g c) :: As) (XPre g σ)) (XQ g (some (.long r)) σ') 0 0 (cA g)) (hml : Cond.methodLink own index y ∈ tG) (hbi : biV CN y bytes maxL ret) (hrc : rm.cells = 0) (hrs : rm.slots = 0) (hd : y.cls = CN ∧ y.cls ≠ "java/lang/invoke/MethodHandle" ∧ y.cls ≠ "java/lang/invoke/VarHandle" ∧ (parseMethodDescriptor y.desc).map (fun d => d.parameters.length) = some n) (hR : rm.frames + 1 ≤ R0.frames ∧ 8 + (maxL + 11) + rm.locals ≤ R0.locals) (hk : c < 87) (he : cE g c (σ c) = .inr (ci, fs)) (hc : vwCl[ci]? = some (CN, T, N)) (hn : As.length = n) (hst : st = As.reverse ++ .ref (gA g c) :: rest) (hcat : (rest.map fun v => v.category).sum ≤ 8) (hdg : decode cc pc = .ok (.invokevirtual index, 3)) (k : Xs C (wW g) Q σ' (pc + 3) lv (.long r :: rest)) : Xs C (wW g) Q σ pc lv st :=
  x_callV (rv := some (.long r)) h hg hM (gdV hml hbi) rfl hrc hrs hd hR hk he hc hn hst hcat hdg k
theorem x_callVq {σ' : St} {r : Option Nat} {y : MethodName} {bytes : ByteArray} {maxL n index ci c : Nat} {ret : Option FieldType} {rm : Room} {CN : String} {T : u_T} {N : Nat} {fs As st : List Value} (h : XOk C cc own tG R0) (hg : XG C g) (hM : Met C.2.1 y (wT y bytes maxL ret) rm (va_Pc (.ref (gA g c) :: As) (XPre g σ)) (XQ g (some (rfV g r)) σ') 0 0 (cA g)) (hml : Cond.methodLink own index y ∈ tG) (hbi : biV CN y bytes maxL ret) (hrc : rm.cells = 0) (hrs : rm.slots = 0) (hd : y.cls = CN ∧ y.cls ≠ "java/lang/invoke/MethodHandle" ∧ y.cls ≠ "java/lang/invoke/VarHandle" ∧ (parseMethodDescriptor y.desc).map (fun d => d.parameters.length) = some n) (hR : rm.frames + 1 ≤ R0.frames ∧ 8 + (maxL + 11) + rm.locals ≤ R0.locals) (hk : c < 87) (he : cE g c (σ c) = .inr (ci, fs)) (hc : vwCl[ci]? = some (CN, T, N)) (hn : As.length = n) (hst : st = As.reverse ++ .ref (gA g c) :: rest) (hcat : (rest.map fun v => v.category).sum ≤ 8) (hdg : decode cc pc = .ok (.invokevirtual index, 3)) (k : Xs C (wW g) Q σ' (pc + 3) lv (rfV g r :: rest)) : Xs C (wW g) Q σ pc lv st :=
  x_callV (rv := some (rfV g r)) h hg hM (gdV hml hbi) rfl hrc hrs hd hR hk he hc hn hst hcat hdg k
theorem x_callSi {σ' : St} {r : Int32} {y : MethodName} {bytes : ByteArray} {maxL n index : Nat} {ret : Option FieldType} {rm : Room} {As st : List Value} (h : XOk C cc own tG R0) (hg : XG C g) (hM : Met C.2.1 y (wT y bytes maxL ret) rm (va_Pc As (XPre g σ)) (XQ g (some (.int r)) σ') 0 0 (cA g)) (hml : Cond.methodLink own index y ∈ tG) (hbi : biS y bytes maxL ret) (hrc : rm.cells = 0) (hrs : rm.slots = 0) (hd : y.cls ≠ "java/lang/invoke/MethodHandle" ∧ y.cls ≠ "java/lang/invoke/VarHandle" ∧ (parseMethodDescriptor y.desc).map (fun d => d.parameters.length) = some n) (hR : rm.frames + 1 ≤ R0.frames ∧ 8 + (maxL + 11) + rm.locals ≤ R0.locals) (hn : As.length = n) (hst : st = As.reverse ++ rest) (hcat : (rest.map fun v => v.category).sum ≤ 8) (hdg : decode cc pc = .ok (.invokestatic index, 3)) (k : Xs C (wW g) Q σ' (pc + 3) lv (.int r :: rest)) : Xs C (wW g) Q σ pc lv st :=
  x_callS (rv := some (.int r)) h hg hM (gdS hml hbi) rfl hrc hrs hd hR hn hst hcat hdg k
theorem x_callSv {σ' : St} {y : MethodName} {bytes : ByteArray} {maxL n index : Nat} {ret : Option FieldType} {rm : Room} {As st : List Value} (h : XOk C cc own tG R0) (hg : XG C g) (hM : Met C.2.1 y (wT y bytes maxL ret) rm (va_Pc As (XPre g σ)) (XQ g (none) σ') 0 0 (cA g)) (hml : Cond.methodLink own index y ∈ tG) (hbi : biS y bytes maxL ret) (hrc : rm.cells = 0) (hrs : rm.slots = 0) (hd : y.cls ≠ "java/lang/invoke/MethodHandle" ∧ y.cls ≠ "java/lang/invoke/VarHandle" ∧ (parseMethodDescriptor y.desc).map (fun d => d.parameters.length) = some n) (hR : rm.frames + 1 ≤ R0.frames ∧ 8 + (maxL + 11) + rm.locals ≤ R0.locals) (hn : As.length = n) (hst : st = As.reverse ++ rest) (hcat : (rest.map fun v => v.category).sum ≤ 8) (hdg : decode cc pc = .ok (.invokestatic index, 3)) (k : Xs C (wW g) Q σ' (pc + 3) lv (rest)) : Xs C (wW g) Q σ pc lv st :=
  x_callS (rv := none) h hg hM (gdS hml hbi) rfl hrc hrs hd hR hn hst hcat hdg k
theorem x_callPi {r : Int32} {y : MethodName} {bytes : ByteArray} {maxL n index : Nat} {ret : Option FieldType} {rm : Room} {As st : List Value} (h : XOk C cc own tG R0) (hM : Met C.2.1 y (wT y bytes maxL ret) rm (va_Pc As (fun _ => True)) (XQp (some (.int r))) 0 0 (fun _ => False)) (hml : Cond.methodLink own index y ∈ tG) (hbi : biS y bytes maxL ret) (hrc : rm.cells = 0) (hrs : rm.slots = 0) (hd : y.cls ≠ "java/lang/invoke/MethodHandle" ∧ y.cls ≠ "java/lang/invoke/VarHandle" ∧ (parseMethodDescriptor y.desc).map (fun d => d.parameters.length) = some n) (hR : rm.frames + 1 ≤ R0.frames ∧ 8 + (maxL + 11) + rm.locals ≤ R0.locals) (hn : As.length = n) (hst : st = As.reverse ++ rest) (hcat : (rest.map fun v => v.category).sum ≤ 8) (hdg : decode cc pc = .ok (.invokestatic index, 3)) (k : Xs C Wd Q σ (pc + 3) lv (.int r :: rest)) : Xs C Wd Q σ pc lv st :=
  x_callP (rv := some (.int r)) h hM (gdS hml hbi) rfl hrc hrs hd hR hn hst hcat hdg k
theorem x_callPv {y : MethodName} {bytes : ByteArray} {maxL n index : Nat} {ret : Option FieldType} {rm : Room} {As st : List Value} (h : XOk C cc own tG R0) (hM : Met C.2.1 y (wT y bytes maxL ret) rm (va_Pc As (fun _ => True)) (XQp (none)) 0 0 (fun _ => False)) (hml : Cond.methodLink own index y ∈ tG) (hbi : biS y bytes maxL ret) (hrc : rm.cells = 0) (hrs : rm.slots = 0) (hd : y.cls ≠ "java/lang/invoke/MethodHandle" ∧ y.cls ≠ "java/lang/invoke/VarHandle" ∧ (parseMethodDescriptor y.desc).map (fun d => d.parameters.length) = some n) (hR : rm.frames + 1 ≤ R0.frames ∧ 8 + (maxL + 11) + rm.locals ≤ R0.locals) (hn : As.length = n) (hst : st = As.reverse ++ rest) (hcat : (rest.map fun v => v.category).sum ≤ 8) (hdg : decode cc pc = .ok (.invokestatic index, 3)) (k : Xs C Wd Q σ (pc + 3) lv (rest)) : Xs C Wd Q σ pc lv st :=
  x_callP (rv := none) h hM (gdS hml hbi) rfl hrc hrs hd hR hn hst hcat hdg k
end XR
/-- a method's contract out of its walk -/
theorem X_met {l : Launch} {y : MethodName} {rm : Room} {cc : ByteArray} {maxL : Nat} {ret : Option FieldType} {g : cG} {σ σ' : St} {rv : Option Value} {av : List Value} {lv : List (Nat × Value)} (own : String) (hi : gInj g) (hy : plainName y.cls = true) (ho : y.cls = own) (hn : (lg_sl av).length ≤ maxL) (hlv : lv_args 0 av = lv)
    (body : ∀ (C : XC) (Q : State → Prop), C.2.1 = l → XOk C cc own tG rm → XG C g → C.2.2.2.2.2.2.2.2.2.2.2.2.1 = maxL → XEnd C ret Q (XQ g rv σ') (cA g) → Xs C (wW g) Q σ 0 lv []) : Met l y (wT y cc maxL ret) rm (va_Pc av (XPre g σ)) (XQ g rv σ') 0 0 (cA g) := by
  refine Met.ofW (cc := cc) (maxL := maxL) (ret := ret) hy rfl ?_
  intro p e s m args below meth c s₁ B hml hv
  obtain ⟨rfl, hP, hK⟩ := hv
  have hts : ∀ w ∈ tG, w.before av.toArray s = true := fun w hw => atoms_spec (ws := wT y cc maxL ret) B.pre w (List.mem_cons_of_mem _ hw)
  have hown : s.vm.findClass own = some m.cls := by rw [← ho]; exact findClass_of_methodNamed B.named
  have hl := lv_entry av (n := maxL) hn
  rw [lg_entry_eq]
  rw [hlv] at hl
  exact body (p, l, e, rm, s, m, av.toArray, below, meth, c, 0, 0, maxL, cA g) _ rfl ⟨B.exec, B.bytes, hml, hown, hts, rfl, Nat.zero_le _, Nat.zero_le _⟩ ⟨hK, hi, rfl⟩ rfl ⟨B.returns, B.notSynchronized, rfl, rfl⟩ s.heap [] _ hP va_S.rf hl
theorem X_metP {l : Launch} {y : MethodName} {rm : Room} {cc : ByteArray} {maxL : Nat} {ret : Option FieldType} {rv : Option Value} {av : List Value} {lv : List (Nat × Value)} (own : String) (hy : plainName y.cls = true) (ho : y.cls = own) (hn : (lg_sl av).length ≤ maxL) (hlv : lv_args 0 av = lv)
    (body : ∀ (C : XC) (Q : State → Prop) (H0 : Heap) (σ : St), C.2.1 = l → XOk C cc own tG rm → H0 = C.2.2.2.2.1.heap → C.2.2.2.2.2.2.2.2.2.2.2.2.1 = maxL → XEnd C ret Q (XQp rv) (fun _ => False) → Xs C (fun _ H => H = H0) Q σ 0 lv []) : Met l y (wT y cc maxL ret) rm (va_Pc av (fun _ => True)) (XQp rv) 0 0 (fun _ => False) := by
  refine Met.ofW (cc := cc) (maxL := maxL) (ret := ret) hy rfl ?_
  intro p e s m args below meth c s₁ B hml hv
  obtain ⟨rfl, -⟩ := hv
  have hts : ∀ w ∈ tG, w.before av.toArray s = true := fun w hw => atoms_spec (ws := wT y cc maxL ret) B.pre w (List.mem_cons_of_mem _ hw)
  have hown : s.vm.findClass own = some m.cls := by rw [← ho]; exact findClass_of_methodNamed B.named
  have hl := lv_entry av (n := maxL) hn
  rw [lg_entry_eq]
  rw [hlv] at hl
  exact body (p, l, e, rm, s, m, av.toArray, below, meth, c, 0, 0, maxL, fun _ => False) _ s.heap (fun _ _ => 0) rfl ⟨B.exec, B.bytes, hml, hown, hts, rfl, Nat.zero_le _, Nat.zero_le _⟩ rfl rfl ⟨B.returns, B.notSynchronized, rfl, rfl⟩ s.heap [] _ rfl va_S.rf hl
theorem plX0 : plainName RX0 = true := by decide +kernel
theorem plX1 : plainName RX1 = true := by decide +kernel
theorem plX2 : plainName RX2 = true := by decide +kernel
theorem plX3 : plainName RX3 = true := by decide +kernel
theorem plX4 : plainName RX4 = true := by decide +kernel
theorem plX5 : plainName RX5 = true := by decide +kernel
theorem plX6 : plainName RX6 = true := by decide +kernel
theorem plX7 : plainName RX7 = true := by decide +kernel
theorem plX8 : plainName RX8 = true := by decide +kernel
theorem plX9 : plainName RX9 = true := by decide +kernel
theorem plJ6 : plainName RJ6 = true := by decide +kernel
theorem plL : plainName RL = true := by decide +kernel
theorem c_row {l : Launch} {g : cG} {σ : St} : True := trivial
/-! Rows.at, put, copy -/
def rAt (n : Nat) (f : Nat → Int32) (i : Int32) : Int32 := if i < 0 then 0 else if Int32.ofNat n ≤ i then 0 else f i.toNatClampNeg
def rPut (σ : St) (k n : Nat) (i v : Int32) : St := if i < 0 then σ else if Int32.ofNat n ≤ i then σ else up σ k i.toNatClampNeg v
def rCopy (σ : St) (k n d j : Nat) : St := if Int32.ofNat n = Int32.ofNat j then va_up σ d (va_cpy (σ k) (σ d) 0 0 n) else σ
theorem vp_in_ge {i : Int32} {n : Nat} (hn : n < 2 ^ 31) (h1 : ¬ i < 0) (h2 : ¬ Int32.ofNat n ≤ i) : vp_in i n := by
  rcases pk_ix i hn with h | h | ⟨j, hj, rfl⟩
  · exact absurd h h1
  · exact absurd h h2
  · exact vp_in_nI hj hn
abbrev rmX5_at : Room := { frames := 0, cells := 0, slots := 0, locals := 0 }
abbrev rmX5_put : Room := { frames := 0, cells := 0, slots := 0, locals := 0 }
abbrev rmX5_copy : Room := { frames := 1, cells := 0, slots := 0, locals := 40 }
set_option maxHeartbeats 4000000 in
theorem c_X5_at (l : Launch) {g : cG} (hi : gInj g) (σ : St) {k n : Nat} (ha : isA k n) (i : Int32) : Met l yX5_at (wT yX5_at cX5_at 2 (some .int)) rmX5_at (va_Pc [.ref (gA g k), .int i] (XPre g σ)) (XQ g (some (.int (rAt n (σ k) i))) σ) 0 0 (cA g) := by
  refine X_met RX5 hi plX5 rfl (Nat.le_of_ble_eq_true rfl) rfl (fun C Q _ h hg hL hr => ?_)
  refine x_aload_n h dX5_at_0 rfl 0 rfl (q := 1) rfl ?_
  refine x_ifnull h dX5_at_1 (q := 4) rfl ?_
  refine x_iload_n h dX5_at_4 rfl 1 rfl (q := 5) rfl ?_
  refine x_if_lt (tgt := 20) h dX5_at_5 (by decide) (q := 8) rfl (rfl : rAt n (σ k) i = _) (fun hc hf => ?_) (fun hc hf => ?_)
  · refine x_iconst (v := 0) h dX5_at_20 (by decide) (q := 21) rfl ?_
    rw [← hf] at hr
    exact x_iret h hg hr dX5_at_21
  · refine x_iload_n h dX5_at_8 rfl 1 rfl (q := 9) rfl ?_
    refine x_aload_n h dX5_at_9 rfl 0 rfl (q := 10) rfl ?_
    refine x_alen h hg ha rfl dX5_at_10 (q := 11) rfl ?_
    refine x_icmp_ge (tgt := 20) h dX5_at_11 (by decide) (q := 14) rfl hf (fun hc2 hf => ?_) (fun hc2 hf => ?_)
    · refine x_iconst (v := 0) h dX5_at_20 (by decide) (q := 21) rfl ?_
      rw [← hf] at hr
      exact x_iret h hg hr dX5_at_21
    · refine x_aload_n h dX5_at_14 rfl 0 rfl (q := 15) rfl ?_
      refine x_iload_n h dX5_at_15 rfl 1 rfl (q := 16) rfl ?_
      refine x_iald h hg ha (vp_in_ge ha.2.1 hc hc2) rfl dX5_at_16 (q := 17) rfl ?_
      refine x_goto (q := 21) h dX5_at_17 (by decide) ?_
      rw [← hf] at hr
      exact x_iret h hg hr dX5_at_21
set_option maxHeartbeats 4000000 in
theorem c_X5_put (l : Launch) {g : cG} (hi : gInj g) (σ : St) {k n : Nat} (ha : isA k n) (i v : Int32) : Met l yX5_put (wT yX5_put cX5_put 3 none) rmX5_put (va_Pc [.ref (gA g k), .int i, .int v] (XPre g σ)) (XQ g none (rPut σ k n i v)) 0 0 (cA g) := by
  refine X_met RX5 hi plX5 rfl (Nat.le_of_ble_eq_true rfl) rfl (fun C Q _ h hg hL hr => ?_)
  refine x_aload_n h dX5_put_0 rfl 0 rfl (q := 1) rfl ?_
  refine x_ifnull h dX5_put_1 (q := 4) rfl ?_
  refine x_iload_n h dX5_put_4 rfl 1 rfl (q := 5) rfl ?_
  refine x_if_lt (tgt := 18) h dX5_put_5 (by decide) (q := 8) rfl (rfl : rPut σ k n i v = _) (fun hc hf => ?_) (fun hc hf => ?_)
  · rw [← hf] at hr
    exact x_vret h hg hr dX5_put_18
  · refine x_iload_n h dX5_put_8 rfl 1 rfl (q := 9) rfl ?_
    refine x_aload_n h dX5_put_9 rfl 0 rfl (q := 10) rfl ?_
    refine x_alen h hg ha rfl dX5_put_10 (q := 11) rfl ?_
    refine x_icmp_ge (tgt := 18) h dX5_put_11 (by decide) (q := 14) rfl hf (fun hc2 hf => ?_) (fun hc2 hf => ?_)
    · rw [← hf] at hr
      exact x_vret h hg hr dX5_put_18
    · refine x_aload_n h dX5_put_14 rfl 0 rfl (q := 15) rfl ?_
      refine x_iload_n h dX5_put_15 rfl 1 rfl (q := 16) rfl ?_
      refine x_iload_n h dX5_put_16 rfl 2 rfl (q := 17) rfl ?_
      refine x_iast h hg ha (vp_in_ge ha.2.1 hc hc2) rfl dX5_put_17 (q := 18) rfl ?_
      rw [← hf] at hr
      exact x_vret h hg hr dX5_put_18
set_option maxHeartbeats 4000000 in
theorem c_X5_copy (l : Launch) {g : cG} (hi : gInj g) (σ : St) {k n d j : Nat} (ha : isA k n) (hb : isA d j) : Met l yX5_copy (wT yX5_copy cX5_copy 2 none) rmX5_copy (va_Pc [.ref (gA g k), .ref (gA g d)] (XPre g σ)) (XQ g none (rCopy σ k n d j)) 0 0 (cA g) := by
  refine X_met RX5 hi plX5 rfl (Nat.le_of_ble_eq_true rfl) rfl (fun C Q _ h hg hL hr => ?_)
  refine x_aload_n h dX5_copy_0 rfl 0 rfl (q := 1) rfl ?_
  refine x_ifnull h dX5_copy_1 (q := 4) rfl ?_
  refine x_aload_n h dX5_copy_4 rfl 1 rfl (q := 5) rfl ?_
  refine x_ifnull h dX5_copy_5 (q := 8) rfl ?_
  refine x_aload_n h dX5_copy_8 rfl 0 rfl (q := 9) rfl ?_
  refine x_alen h hg ha rfl dX5_copy_9 (q := 10) rfl ?_
  refine x_aload_n h dX5_copy_10 rfl 1 rfl (q := 11) rfl ?_
  refine x_alen h hg hb rfl dX5_copy_11 (q := 12) rfl ?_
  refine x_icmp_ne (tgt := 24) h dX5_copy_12 (by decide) (q := 15) rfl (rfl : rCopy σ k n d j = _) (fun hc hf => ?_) (fun hc hf => ?_)
  · rw [← hf] at hr
    exact x_vret h hg hr dX5_copy_24
  · have hnj : n = j := (nI_eq ha.2.1 hb.2.1).mp hc
    subst hnj
    refine x_aload_n h dX5_copy_15 rfl 0 rfl (q := 16) rfl ?_
    refine x_iconst (v := 0) h dX5_copy_16 (by decide) (q := 17) rfl ?_
    refine x_aload_n h dX5_copy_17 rfl 1 rfl (q := 18) rfl ?_
    refine x_iconst (v := 0) h dX5_copy_18 (by decide) (q := 19) rfl ?_
    refine x_aload_n h dX5_copy_19 rfl 0 rfl (q := 20) rfl ?_
    refine x_alen h hg ha rfl dX5_copy_20 (q := 21) rfl ?_
    refine x_copy h hg ml_X5_7 na_arr st_arr ki_System ⟨Nat.le_of_ble_eq_true rfl, Nat.le_of_ble_eq_true rfl⟩ ha hb dX5_copy_21 ?_
    rw [← hf] at hr
    exact x_vret h hg hr dX5_copy_24

theorem a_1 : isA 1 12 := ⟨by decide, by decide, fun g f => cE_1 g f⟩
theorem a_2 : isA 2 48 := ⟨by decide, by decide, fun g f => cE_2 g f⟩
theorem a_3 : isA 3 48 := ⟨by decide, by decide, fun g f => cE_3 g f⟩
theorem a_4 : isA 4 972 := ⟨by decide, by decide, fun g f => cE_4 g f⟩
theorem a_70 : isA 70 1296 := ⟨by decide, by decide, fun g f => cE_70 g f⟩
theorem a_71 : isA 71 12 := ⟨by decide, by decide, fun g f => cE_71 g f⟩
theorem a_72 : isA 72 81 := ⟨by decide, by decide, fun g f => cE_72 g f⟩
theorem a_74 : isA 74 60 := ⟨by decide, by decide, fun g f => cE_74 g f⟩
theorem a_75 : isA 75 60 := ⟨by decide, by decide, fun g f => cE_75 g f⟩
theorem a_76 : isA 76 60 := ⟨by decide, by decide, fun g f => cE_76 g f⟩
theorem a_77 : isA 77 60 := ⟨by decide, by decide, fun g f => cE_77 g f⟩
theorem a_79 : isA 79 60 := ⟨by decide, by decide, fun g f => cE_79 g f⟩
theorem a_80 : isA 80 12 := ⟨by decide, by decide, fun g f => cE_80 g f⟩
theorem a_83 : isA 83 12 := ⟨by decide, by decide, fun g f => cE_83 g f⟩
theorem a_84 : isA 84 12 := ⟨by decide, by decide, fun g f => cE_84 g f⟩
theorem a_85 : isA 85 81 := ⟨by decide, by decide, fun g f => cE_85 g f⟩
theorem a_86 : isA 86 81 := ⟨by decide, by decide, fun g f => cE_86 g f⟩
theorem x_get_X9_65_0 {C : XC} {cc : ByteArray} {own : String} {Ts : List Cond} {R0 : Room} {g : cG} {Q : State → Prop} {σ : St} {lv : List (Nat × Value)} {rest : List Value} {pc index : Nat} (h : XOk C cc own Ts R0) (hg : XG C g) (hl : Cond.fieldLink own index "CoalitionChecker" "structure" "LCoalitionChecker$Structure;" ∈ Ts) (hin : ∀ w ∈ wsX90, w ∈ Ts) (hdg : decode cc pc = .ok (.getfield index, 3)) (k : Xs C (wW g) Q σ (pc + 3) lv (.ref (gA g 0) :: rest)) : Xs C (wW g) Q σ pc lv (.ref (gA g 65) :: rest) := x_get h hg (by decide) (cE_65 g _) (ci := 8) (CN := RX9) (T := TX9) (N := 9) rfl hin 0 (by decide) hl rfl rfl hdg k
theorem x_get_X9_65_1 {C : XC} {cc : ByteArray} {own : String} {Ts : List Cond} {R0 : Room} {g : cG} {Q : State → Prop} {σ : St} {lv : List (Nat × Value)} {rest : List Value} {pc index : Nat} (h : XOk C cc own Ts R0) (hg : XG C g) (hl : Cond.fieldLink own index "CoalitionChecker" "history" "LCoalitionChecker$History;" ∈ Ts) (hin : ∀ w ∈ wsX90, w ∈ Ts) (hdg : decode cc pc = .ok (.getfield index, 3)) (k : Xs C (wW g) Q σ (pc + 3) lv (.ref (gA g 67) :: rest)) : Xs C (wW g) Q σ pc lv (.ref (gA g 65) :: rest) := x_get h hg (by decide) (cE_65 g _) (ci := 8) (CN := RX9) (T := TX9) (N := 9) rfl hin 1 (by decide) hl rfl rfl hdg k
theorem x_get_X9_65_2 {C : XC} {cc : ByteArray} {own : String} {Ts : List Cond} {R0 : Room} {g : cG} {Q : State → Prop} {σ : St} {lv : List (Nat × Value)} {rest : List Value} {pc index : Nat} (h : XOk C cc own Ts R0) (hg : XG C g) (hl : Cond.fieldLink own index "CoalitionChecker" "steps" "LCoalitionChecker$Steps;" ∈ Ts) (hin : ∀ w ∈ wsX90, w ∈ Ts) (hdg : decode cc pc = .ok (.getfield index, 3)) (k : Xs C (wW g) Q σ (pc + 3) lv (.ref (gA g 69) :: rest)) : Xs C (wW g) Q σ pc lv (.ref (gA g 65) :: rest) := x_get h hg (by decide) (cE_65 g _) (ci := 8) (CN := RX9) (T := TX9) (N := 9) rfl hin 2 (by decide) hl rfl rfl hdg k
theorem x_get_X9_65_3 {C : XC} {cc : ByteArray} {own : String} {Ts : List Cond} {R0 : Room} {g : cG} {Q : State → Prop} {σ : St} {lv : List (Nat × Value)} {rest : List Value} {pc index : Nat} (h : XOk C cc own Ts R0) (hg : XG C g) (hl : Cond.fieldLink own index "CoalitionChecker" "reader" "LCoalitionChecker$Reader;" ∈ Ts) (hin : ∀ w ∈ wsX90, w ∈ Ts) (hdg : decode cc pc = .ok (.getfield index, 3)) (k : Xs C (wW g) Q σ (pc + 3) lv (.ref (gA g 73) :: rest)) : Xs C (wW g) Q σ pc lv (.ref (gA g 65) :: rest) := x_get h hg (by decide) (cE_65 g _) (ci := 8) (CN := RX9) (T := TX9) (N := 9) rfl hin 3 (by decide) hl rfl rfl hdg k
theorem x_get_X9_65_4 {C : XC} {cc : ByteArray} {own : String} {Ts : List Cond} {R0 : Room} {g : cG} {Q : State → Prop} {σ : St} {lv : List (Nat × Value)} {rest : List Value} {pc index : Nat} (h : XOk C cc own Ts R0) (hg : XG C g) (hl : Cond.fieldLink own index "CoalitionChecker" "meaning" "LCoalitionChecker$Meaning;" ∈ Ts) (hin : ∀ w ∈ wsX90, w ∈ Ts) (hdg : decode cc pc = .ok (.getfield index, 3)) (k : Xs C (wW g) Q σ (pc + 3) lv (.ref (gA g 78) :: rest)) : Xs C (wW g) Q σ pc lv (.ref (gA g 65) :: rest) := x_get h hg (by decide) (cE_65 g _) (ci := 8) (CN := RX9) (T := TX9) (N := 9) rfl hin 4 (by decide) hl rfl rfl hdg k
theorem x_get_X9_65_5 {C : XC} {cc : ByteArray} {own : String} {Ts : List Cond} {R0 : Room} {g : cG} {Q : State → Prop} {σ : St} {lv : List (Nat × Value)} {rest : List Value} {pc index : Nat} (h : XOk C cc own Ts R0) (hg : XG C g) (hl : Cond.fieldLink own index "CoalitionChecker" "tactics" "LCoalitionChecker$Tactics;" ∈ Ts) (hin : ∀ w ∈ wsX90, w ∈ Ts) (hdg : decode cc pc = .ok (.getfield index, 3)) (k : Xs C (wW g) Q σ (pc + 3) lv (.ref (gA g 81) :: rest)) : Xs C (wW g) Q σ pc lv (.ref (gA g 65) :: rest) := x_get h hg (by decide) (cE_65 g _) (ci := 8) (CN := RX9) (T := TX9) (N := 9) rfl hin 5 (by decide) hl rfl rfl hdg k
theorem x_get_X9_65_6 {C : XC} {cc : ByteArray} {own : String} {Ts : List Cond} {R0 : Room} {g : cG} {Q : State → Prop} {σ : St} {lv : List (Nat × Value)} {rest : List Value} {pc index : Nat} (h : XOk C cc own Ts R0) (hg : XG C g) (hl : Cond.fieldLink own index "CoalitionChecker" "likeness" "LCoalitionChecker$Likeness;" ∈ Ts) (hin : ∀ w ∈ wsX90, w ∈ Ts) (hdg : decode cc pc = .ok (.getfield index, 3)) (k : Xs C (wW g) Q σ (pc + 3) lv (.ref (gA g 82) :: rest)) : Xs C (wW g) Q σ pc lv (.ref (gA g 65) :: rest) := x_get h hg (by decide) (cE_65 g _) (ci := 8) (CN := RX9) (T := TX9) (N := 9) rfl hin 6 (by decide) hl rfl rfl hdg k
theorem x_get_X9_65_7 {C : XC} {cc : ByteArray} {own : String} {Ts : List Cond} {R0 : Room} {g : cG} {Q : State → Prop} {σ : St} {lv : List (Nat × Value)} {rest : List Value} {pc index : Nat} (h : XOk C cc own Ts R0) (hg : XG C g) (hl : Cond.fieldLink own index "CoalitionChecker" "kept" "[LCoalitionChecker$Formula;" ∈ Ts) (hin : ∀ w ∈ wsX90, w ∈ Ts) (hdg : decode cc pc = .ok (.getfield index, 3)) (k : Xs C (wW g) Q σ (pc + 3) lv (.ref (gA g 66) :: rest)) : Xs C (wW g) Q σ pc lv (.ref (gA g 65) :: rest) := x_get h hg (by decide) (cE_65 g _) (ci := 8) (CN := RX9) (T := TX9) (N := 9) rfl hin 7 (by decide) hl rfl rfl hdg k
theorem x_get_X9_65_8 {C : XC} {cc : ByteArray} {own : String} {Ts : List Cond} {R0 : Room} {g : cG} {Q : State → Prop} {σ : St} {lv : List (Nat × Value)} {rest : List Value} {pc index : Nat} (h : XOk C cc own Ts R0) (hg : XG C g) (hl : Cond.fieldLink own index "CoalitionChecker" "keptCount" "I" ∈ Ts) (hin : ∀ w ∈ wsX90, w ∈ Ts) (hdg : decode cc pc = .ok (.getfield index, 3)) (k : Xs C (wW g) Q σ (pc + 3) lv (.int (σ 65 8) :: rest)) : Xs C (wW g) Q σ pc lv (.ref (gA g 65) :: rest) := x_get h hg (by decide) (cE_65 g _) (ci := 8) (CN := RX9) (T := TX9) (N := 9) rfl hin 8 (by decide) hl rfl rfl hdg k
theorem x_put_X9_65_8 {C : XC} {cc : ByteArray} {own : String} {Ts : List Cond} {R0 : Room} {g : cG} {Q : State → Prop} {σ : St} {lv : List (Nat × Value)} {rest : List Value} {pc index : Nat} {v : Int32} (h : XOk C cc own Ts R0) (hg : XG C g) (hl : Cond.fieldLink own index "CoalitionChecker" "keptCount" "I" ∈ Ts) (hin : ∀ w ∈ wsX90, w ∈ Ts) (hdg : decode cc pc = .ok (.putfield index, 3)) (k : Xs C (wW g) Q (up σ 65 8 v) (pc + 3) lv rest) : Xs C (wW g) Q σ pc lv (.int v :: .ref (gA g 65) :: rest) := x_put h hg (by decide) (cE_65 g _) (ci := 8) (CN := RX9) (T := TX9) (N := 9) rfl hin tyX9 tyX9_ok nmX9 8 (by decide) hl rfl rfl (ty := .int) rfl rfl rfl (Nat.le_of_ble_eq_true rfl) (cE_65 g _) hdg k
theorem x_get_X1_67_0 {C : XC} {cc : ByteArray} {own : String} {Ts : List Cond} {R0 : Room} {g : cG} {Q : State → Prop} {σ : St} {lv : List (Nat × Value)} {rest : List Value} {pc index : Nat} (h : XOk C cc own Ts R0) (hg : XG C g) (hl : Cond.fieldLink own index "CoalitionChecker$History" "ring" "[LCoalitionChecker$Structure;" ∈ Ts) (hin : ∀ w ∈ wsX10, w ∈ Ts) (hdg : decode cc pc = .ok (.getfield index, 3)) (k : Xs C (wW g) Q σ (pc + 3) lv (.ref (gA g 68) :: rest)) : Xs C (wW g) Q σ pc lv (.ref (gA g 67) :: rest) := x_get h hg (by decide) (cE_67 g _) (ci := 1) (CN := RX1) (T := TX1) (N := 3) rfl hin 0 (by decide) hl rfl rfl hdg k
theorem x_get_X1_67_1 {C : XC} {cc : ByteArray} {own : String} {Ts : List Cond} {R0 : Room} {g : cG} {Q : State → Prop} {σ : St} {lv : List (Nat × Value)} {rest : List Value} {pc index : Nat} (h : XOk C cc own Ts R0) (hg : XG C g) (hl : Cond.fieldLink own index "CoalitionChecker$History" "oldest" "I" ∈ Ts) (hin : ∀ w ∈ wsX10, w ∈ Ts) (hdg : decode cc pc = .ok (.getfield index, 3)) (k : Xs C (wW g) Q σ (pc + 3) lv (.int (σ 67 1) :: rest)) : Xs C (wW g) Q σ pc lv (.ref (gA g 67) :: rest) := x_get h hg (by decide) (cE_67 g _) (ci := 1) (CN := RX1) (T := TX1) (N := 3) rfl hin 1 (by decide) hl rfl rfl hdg k
theorem x_put_X1_67_1 {C : XC} {cc : ByteArray} {own : String} {Ts : List Cond} {R0 : Room} {g : cG} {Q : State → Prop} {σ : St} {lv : List (Nat × Value)} {rest : List Value} {pc index : Nat} {v : Int32} (h : XOk C cc own Ts R0) (hg : XG C g) (hl : Cond.fieldLink own index "CoalitionChecker$History" "oldest" "I" ∈ Ts) (hin : ∀ w ∈ wsX10, w ∈ Ts) (hdg : decode cc pc = .ok (.putfield index, 3)) (k : Xs C (wW g) Q (up σ 67 1 v) (pc + 3) lv rest) : Xs C (wW g) Q σ pc lv (.int v :: .ref (gA g 67) :: rest) := x_put h hg (by decide) (cE_67 g _) (ci := 1) (CN := RX1) (T := TX1) (N := 3) rfl hin tyX1 tyX1_ok nmX1 1 (by decide) hl rfl rfl (ty := .int) rfl rfl rfl (Nat.le_of_ble_eq_true rfl) (cE_67 g _) hdg k
theorem x_get_X1_67_2 {C : XC} {cc : ByteArray} {own : String} {Ts : List Cond} {R0 : Room} {g : cG} {Q : State → Prop} {σ : St} {lv : List (Nat × Value)} {rest : List Value} {pc index : Nat} (h : XOk C cc own Ts R0) (hg : XG C g) (hl : Cond.fieldLink own index "CoalitionChecker$History" "count" "I" ∈ Ts) (hin : ∀ w ∈ wsX10, w ∈ Ts) (hdg : decode cc pc = .ok (.getfield index, 3)) (k : Xs C (wW g) Q σ (pc + 3) lv (.int (σ 67 2) :: rest)) : Xs C (wW g) Q σ pc lv (.ref (gA g 67) :: rest) := x_get h hg (by decide) (cE_67 g _) (ci := 1) (CN := RX1) (T := TX1) (N := 3) rfl hin 2 (by decide) hl rfl rfl hdg k
theorem x_put_X1_67_2 {C : XC} {cc : ByteArray} {own : String} {Ts : List Cond} {R0 : Room} {g : cG} {Q : State → Prop} {σ : St} {lv : List (Nat × Value)} {rest : List Value} {pc index : Nat} {v : Int32} (h : XOk C cc own Ts R0) (hg : XG C g) (hl : Cond.fieldLink own index "CoalitionChecker$History" "count" "I" ∈ Ts) (hin : ∀ w ∈ wsX10, w ∈ Ts) (hdg : decode cc pc = .ok (.putfield index, 3)) (k : Xs C (wW g) Q (up σ 67 2 v) (pc + 3) lv rest) : Xs C (wW g) Q σ pc lv (.int v :: .ref (gA g 67) :: rest) := x_put h hg (by decide) (cE_67 g _) (ci := 1) (CN := RX1) (T := TX1) (N := 3) rfl hin tyX1 tyX1_ok nmX1 2 (by decide) hl rfl rfl (ty := .int) rfl rfl rfl (Nat.le_of_ble_eq_true rfl) (cE_67 g _) hdg k
theorem x_get_X6_69_0 {C : XC} {cc : ByteArray} {own : String} {Ts : List Cond} {R0 : Room} {g : cG} {Q : State → Prop} {σ : St} {lv : List (Nat × Value)} {rest : List Value} {pc index : Nat} (h : XOk C cc own Ts R0) (hg : XG C g) (hl : Cond.fieldLink own index "CoalitionChecker$Steps" "structure" "LCoalitionChecker$Structure;" ∈ Ts) (hin : ∀ w ∈ wsX60, w ∈ Ts) (hdg : decode cc pc = .ok (.getfield index, 3)) (k : Xs C (wW g) Q σ (pc + 3) lv (.ref (gA g 0) :: rest)) : Xs C (wW g) Q σ pc lv (.ref (gA g 69) :: rest) := x_get h hg (by decide) (cE_69 g _) (ci := 5) (CN := RX6) (T := TX6) (N := 4) rfl hin 0 (by decide) hl rfl rfl hdg k
theorem x_get_X6_69_1 {C : XC} {cc : ByteArray} {own : String} {Ts : List Cond} {R0 : Room} {g : cG} {Q : State → Prop} {σ : St} {lv : List (Nat × Value)} {rest : List Value} {pc index : Nat} (h : XOk C cc own Ts R0) (hg : XG C g) (hl : Cond.fieldLink own index "CoalitionChecker$Steps" "jointParts" "[I" ∈ Ts) (hin : ∀ w ∈ wsX60, w ∈ Ts) (hdg : decode cc pc = .ok (.getfield index, 3)) (k : Xs C (wW g) Q σ (pc + 3) lv (.ref (gA g 70) :: rest)) : Xs C (wW g) Q σ pc lv (.ref (gA g 69) :: rest) := x_get h hg (by decide) (cE_69 g _) (ci := 5) (CN := RX6) (T := TX6) (N := 4) rfl hin 1 (by decide) hl rfl rfl hdg k
theorem x_get_X6_69_2 {C : XC} {cc : ByteArray} {own : String} {Ts : List Cond} {R0 : Room} {g : cG} {Q : State → Prop} {σ : St} {lv : List (Nat × Value)} {rest : List Value} {pc index : Nat} (h : XOk C cc own Ts R0) (hg : XG C g) (hl : Cond.fieldLink own index "CoalitionChecker$Steps" "ownNames" "[I" ∈ Ts) (hin : ∀ w ∈ wsX60, w ∈ Ts) (hdg : decode cc pc = .ok (.getfield index, 3)) (k : Xs C (wW g) Q σ (pc + 3) lv (.ref (gA g 71) :: rest)) : Xs C (wW g) Q σ pc lv (.ref (gA g 69) :: rest) := x_get h hg (by decide) (cE_69 g _) (ci := 5) (CN := RX6) (T := TX6) (N := 4) rfl hin 2 (by decide) hl rfl rfl hdg k
theorem x_get_X6_69_3 {C : XC} {cc : ByteArray} {own : String} {Ts : List Cond} {R0 : Room} {g : cG} {Q : State → Prop} {σ : St} {lv : List (Nat × Value)} {rest : List Value} {pc index : Nat} (h : XOk C cc own Ts R0) (hg : XG C g) (hl : Cond.fieldLink own index "CoalitionChecker$Steps" "outcomes" "[I" ∈ Ts) (hin : ∀ w ∈ wsX60, w ∈ Ts) (hdg : decode cc pc = .ok (.getfield index, 3)) (k : Xs C (wW g) Q σ (pc + 3) lv (.ref (gA g 72) :: rest)) : Xs C (wW g) Q σ pc lv (.ref (gA g 69) :: rest) := x_get h hg (by decide) (cE_69 g _) (ci := 5) (CN := RX6) (T := TX6) (N := 4) rfl hin 3 (by decide) hl rfl rfl hdg k
theorem x_get_X4_73_0 {C : XC} {cc : ByteArray} {own : String} {Ts : List Cond} {R0 : Room} {g : cG} {Q : State → Prop} {σ : St} {lv : List (Nat × Value)} {rest : List Value} {pc index : Nat} (h : XOk C cc own Ts R0) (hg : XG C g) (hl : Cond.fieldLink own index "CoalitionChecker$Reader" "agentCount" "I" ∈ Ts) (hin : ∀ w ∈ wsX40, w ∈ Ts) (hdg : decode cc pc = .ok (.getfield index, 3)) (k : Xs C (wW g) Q σ (pc + 3) lv (.int (σ 73 0) :: rest)) : Xs C (wW g) Q σ pc lv (.ref (gA g 73) :: rest) := x_get h hg (by decide) (cE_73 g _) (ci := 4) (CN := RX4) (T := TX4) (N := 12) rfl hin 0 (by decide) hl rfl rfl hdg k
theorem x_get_X4_73_1 {C : XC} {cc : ByteArray} {own : String} {Ts : List Cond} {R0 : Room} {g : cG} {Q : State → Prop} {σ : St} {lv : List (Nat × Value)} {rest : List Value} {pc index : Nat} (h : XOk C cc own Ts R0) (hg : XG C g) (hl : Cond.fieldLink own index "CoalitionChecker$Reader" "text" "[I" ∈ Ts) (hin : ∀ w ∈ wsX40, w ∈ Ts) (hdg : decode cc pc = .ok (.getfield index, 3)) (k : Xs C (wW g) Q σ (pc + 3) lv (.ref (gA g 74) :: rest)) : Xs C (wW g) Q σ pc lv (.ref (gA g 73) :: rest) := x_get h hg (by decide) (cE_73 g _) (ci := 4) (CN := RX4) (T := TX4) (N := 12) rfl hin 1 (by decide) hl rfl rfl hdg k
theorem x_get_X4_73_2 {C : XC} {cc : ByteArray} {own : String} {Ts : List Cond} {R0 : Room} {g : cG} {Q : State → Prop} {σ : St} {lv : List (Nat × Value)} {rest : List Value} {pc index : Nat} (h : XOk C cc own Ts R0) (hg : XG C g) (hl : Cond.fieldLink own index "CoalitionChecker$Reader" "open" "[I" ∈ Ts) (hin : ∀ w ∈ wsX40, w ∈ Ts) (hdg : decode cc pc = .ok (.getfield index, 3)) (k : Xs C (wW g) Q σ (pc + 3) lv (.ref (gA g 75) :: rest)) : Xs C (wW g) Q σ pc lv (.ref (gA g 73) :: rest) := x_get h hg (by decide) (cE_73 g _) (ci := 4) (CN := RX4) (T := TX4) (N := 12) rfl hin 2 (by decide) hl rfl rfl hdg k
theorem x_get_X4_73_3 {C : XC} {cc : ByteArray} {own : String} {Ts : List Cond} {R0 : Room} {g : cG} {Q : State → Prop} {σ : St} {lv : List (Nat × Value)} {rest : List Value} {pc index : Nat} (h : XOk C cc own Ts R0) (hg : XG C g) (hl : Cond.fieldLink own index "CoalitionChecker$Reader" "openCoalitions" "[I" ∈ Ts) (hin : ∀ w ∈ wsX40, w ∈ Ts) (hdg : decode cc pc = .ok (.getfield index, 3)) (k : Xs C (wW g) Q σ (pc + 3) lv (.ref (gA g 76) :: rest)) : Xs C (wW g) Q σ pc lv (.ref (gA g 73) :: rest) := x_get h hg (by decide) (cE_73 g _) (ci := 4) (CN := RX4) (T := TX4) (N := 12) rfl hin 3 (by decide) hl rfl rfl hdg k
theorem x_get_X4_73_4 {C : XC} {cc : ByteArray} {own : String} {Ts : List Cond} {R0 : Room} {g : cG} {Q : State → Prop} {σ : St} {lv : List (Nat × Value)} {rest : List Value} {pc index : Nat} (h : XOk C cc own Ts R0) (hg : XG C g) (hl : Cond.fieldLink own index "CoalitionChecker$Reader" "operands" "[I" ∈ Ts) (hin : ∀ w ∈ wsX40, w ∈ Ts) (hdg : decode cc pc = .ok (.getfield index, 3)) (k : Xs C (wW g) Q σ (pc + 3) lv (.ref (gA g 77) :: rest)) : Xs C (wW g) Q σ pc lv (.ref (gA g 73) :: rest) := x_get h hg (by decide) (cE_73 g _) (ci := 4) (CN := RX4) (T := TX4) (N := 12) rfl hin 4 (by decide) hl rfl rfl hdg k
theorem x_get_X4_73_5 {C : XC} {cc : ByteArray} {own : String} {Ts : List Cond} {R0 : Room} {g : cG} {Q : State → Prop} {σ : St} {lv : List (Nat × Value)} {rest : List Value} {pc index : Nat} (h : XOk C cc own Ts R0) (hg : XG C g) (hl : Cond.fieldLink own index "CoalitionChecker$Reader" "length" "I" ∈ Ts) (hin : ∀ w ∈ wsX40, w ∈ Ts) (hdg : decode cc pc = .ok (.getfield index, 3)) (k : Xs C (wW g) Q σ (pc + 3) lv (.int (σ 73 5) :: rest)) : Xs C (wW g) Q σ pc lv (.ref (gA g 73) :: rest) := x_get h hg (by decide) (cE_73 g _) (ci := 4) (CN := RX4) (T := TX4) (N := 12) rfl hin 5 (by decide) hl rfl rfl hdg k
theorem x_put_X4_73_5 {C : XC} {cc : ByteArray} {own : String} {Ts : List Cond} {R0 : Room} {g : cG} {Q : State → Prop} {σ : St} {lv : List (Nat × Value)} {rest : List Value} {pc index : Nat} {v : Int32} (h : XOk C cc own Ts R0) (hg : XG C g) (hl : Cond.fieldLink own index "CoalitionChecker$Reader" "length" "I" ∈ Ts) (hin : ∀ w ∈ wsX40, w ∈ Ts) (hdg : decode cc pc = .ok (.putfield index, 3)) (k : Xs C (wW g) Q (up σ 73 5 v) (pc + 3) lv rest) : Xs C (wW g) Q σ pc lv (.int v :: .ref (gA g 73) :: rest) := x_put h hg (by decide) (cE_73 g _) (ci := 4) (CN := RX4) (T := TX4) (N := 12) rfl hin tyX4 tyX4_ok nmX4 5 (by decide) hl rfl rfl (ty := .int) rfl rfl rfl (Nat.le_of_ble_eq_true rfl) (cE_73 g _) hdg k
theorem x_get_X4_73_6 {C : XC} {cc : ByteArray} {own : String} {Ts : List Cond} {R0 : Room} {g : cG} {Q : State → Prop} {σ : St} {lv : List (Nat × Value)} {rest : List Value} {pc index : Nat} (h : XOk C cc own Ts R0) (hg : XG C g) (hl : Cond.fieldLink own index "CoalitionChecker$Reader" "openCount" "I" ∈ Ts) (hin : ∀ w ∈ wsX40, w ∈ Ts) (hdg : decode cc pc = .ok (.getfield index, 3)) (k : Xs C (wW g) Q σ (pc + 3) lv (.int (σ 73 6) :: rest)) : Xs C (wW g) Q σ pc lv (.ref (gA g 73) :: rest) := x_get h hg (by decide) (cE_73 g _) (ci := 4) (CN := RX4) (T := TX4) (N := 12) rfl hin 6 (by decide) hl rfl rfl hdg k
theorem x_put_X4_73_6 {C : XC} {cc : ByteArray} {own : String} {Ts : List Cond} {R0 : Room} {g : cG} {Q : State → Prop} {σ : St} {lv : List (Nat × Value)} {rest : List Value} {pc index : Nat} {v : Int32} (h : XOk C cc own Ts R0) (hg : XG C g) (hl : Cond.fieldLink own index "CoalitionChecker$Reader" "openCount" "I" ∈ Ts) (hin : ∀ w ∈ wsX40, w ∈ Ts) (hdg : decode cc pc = .ok (.putfield index, 3)) (k : Xs C (wW g) Q (up σ 73 6 v) (pc + 3) lv rest) : Xs C (wW g) Q σ pc lv (.int v :: .ref (gA g 73) :: rest) := x_put h hg (by decide) (cE_73 g _) (ci := 4) (CN := RX4) (T := TX4) (N := 12) rfl hin tyX4 tyX4_ok nmX4 6 (by decide) hl rfl rfl (ty := .int) rfl rfl rfl (Nat.le_of_ble_eq_true rfl) (cE_73 g _) hdg k
theorem x_get_X4_73_7 {C : XC} {cc : ByteArray} {own : String} {Ts : List Cond} {R0 : Room} {g : cG} {Q : State → Prop} {σ : St} {lv : List (Nat × Value)} {rest : List Value} {pc index : Nat} (h : XOk C cc own Ts R0) (hg : XG C g) (hl : Cond.fieldLink own index "CoalitionChecker$Reader" "operandCount" "I" ∈ Ts) (hin : ∀ w ∈ wsX40, w ∈ Ts) (hdg : decode cc pc = .ok (.getfield index, 3)) (k : Xs C (wW g) Q σ (pc + 3) lv (.int (σ 73 7) :: rest)) : Xs C (wW g) Q σ pc lv (.ref (gA g 73) :: rest) := x_get h hg (by decide) (cE_73 g _) (ci := 4) (CN := RX4) (T := TX4) (N := 12) rfl hin 7 (by decide) hl rfl rfl hdg k
theorem x_put_X4_73_7 {C : XC} {cc : ByteArray} {own : String} {Ts : List Cond} {R0 : Room} {g : cG} {Q : State → Prop} {σ : St} {lv : List (Nat × Value)} {rest : List Value} {pc index : Nat} {v : Int32} (h : XOk C cc own Ts R0) (hg : XG C g) (hl : Cond.fieldLink own index "CoalitionChecker$Reader" "operandCount" "I" ∈ Ts) (hin : ∀ w ∈ wsX40, w ∈ Ts) (hdg : decode cc pc = .ok (.putfield index, 3)) (k : Xs C (wW g) Q (up σ 73 7 v) (pc + 3) lv rest) : Xs C (wW g) Q σ pc lv (.int v :: .ref (gA g 73) :: rest) := x_put h hg (by decide) (cE_73 g _) (ci := 4) (CN := RX4) (T := TX4) (N := 12) rfl hin tyX4 tyX4_ok nmX4 7 (by decide) hl rfl rfl (ty := .int) rfl rfl rfl (Nat.le_of_ble_eq_true rfl) (cE_73 g _) hdg k
theorem x_get_X4_73_8 {C : XC} {cc : ByteArray} {own : String} {Ts : List Cond} {R0 : Room} {g : cG} {Q : State → Prop} {σ : St} {lv : List (Nat × Value)} {rest : List Value} {pc index : Nat} (h : XOk C cc own Ts R0) (hg : XG C g) (hl : Cond.fieldLink own index "CoalitionChecker$Reader" "mode" "I" ∈ Ts) (hin : ∀ w ∈ wsX40, w ∈ Ts) (hdg : decode cc pc = .ok (.getfield index, 3)) (k : Xs C (wW g) Q σ (pc + 3) lv (.int (σ 73 8) :: rest)) : Xs C (wW g) Q σ pc lv (.ref (gA g 73) :: rest) := x_get h hg (by decide) (cE_73 g _) (ci := 4) (CN := RX4) (T := TX4) (N := 12) rfl hin 8 (by decide) hl rfl rfl hdg k
theorem x_put_X4_73_8 {C : XC} {cc : ByteArray} {own : String} {Ts : List Cond} {R0 : Room} {g : cG} {Q : State → Prop} {σ : St} {lv : List (Nat × Value)} {rest : List Value} {pc index : Nat} {v : Int32} (h : XOk C cc own Ts R0) (hg : XG C g) (hl : Cond.fieldLink own index "CoalitionChecker$Reader" "mode" "I" ∈ Ts) (hin : ∀ w ∈ wsX40, w ∈ Ts) (hdg : decode cc pc = .ok (.putfield index, 3)) (k : Xs C (wW g) Q (up σ 73 8 v) (pc + 3) lv rest) : Xs C (wW g) Q σ pc lv (.int v :: .ref (gA g 73) :: rest) := x_put h hg (by decide) (cE_73 g _) (ci := 4) (CN := RX4) (T := TX4) (N := 12) rfl hin tyX4 tyX4_ok nmX4 8 (by decide) hl rfl rfl (ty := .int) rfl rfl rfl (Nat.le_of_ble_eq_true rfl) (cE_73 g _) hdg k
theorem x_get_X4_73_9 {C : XC} {cc : ByteArray} {own : String} {Ts : List Cond} {R0 : Room} {g : cG} {Q : State → Prop} {σ : St} {lv : List (Nat × Value)} {rest : List Value} {pc index : Nat} (h : XOk C cc own Ts R0) (hg : XG C g) (hl : Cond.fieldLink own index "CoalitionChecker$Reader" "coalition" "I" ∈ Ts) (hin : ∀ w ∈ wsX40, w ∈ Ts) (hdg : decode cc pc = .ok (.getfield index, 3)) (k : Xs C (wW g) Q σ (pc + 3) lv (.int (σ 73 9) :: rest)) : Xs C (wW g) Q σ pc lv (.ref (gA g 73) :: rest) := x_get h hg (by decide) (cE_73 g _) (ci := 4) (CN := RX4) (T := TX4) (N := 12) rfl hin 9 (by decide) hl rfl rfl hdg k
theorem x_put_X4_73_9 {C : XC} {cc : ByteArray} {own : String} {Ts : List Cond} {R0 : Room} {g : cG} {Q : State → Prop} {σ : St} {lv : List (Nat × Value)} {rest : List Value} {pc index : Nat} {v : Int32} (h : XOk C cc own Ts R0) (hg : XG C g) (hl : Cond.fieldLink own index "CoalitionChecker$Reader" "coalition" "I" ∈ Ts) (hin : ∀ w ∈ wsX40, w ∈ Ts) (hdg : decode cc pc = .ok (.putfield index, 3)) (k : Xs C (wW g) Q (up σ 73 9 v) (pc + 3) lv rest) : Xs C (wW g) Q σ pc lv (.int v :: .ref (gA g 73) :: rest) := x_put h hg (by decide) (cE_73 g _) (ci := 4) (CN := RX4) (T := TX4) (N := 12) rfl hin tyX4 tyX4_ok nmX4 9 (by decide) hl rfl rfl (ty := .int) rfl rfl rfl (Nat.le_of_ble_eq_true rfl) (cE_73 g _) hdg k
theorem x_get_X4_73_10 {C : XC} {cc : ByteArray} {own : String} {Ts : List Cond} {R0 : Room} {g : cG} {Q : State → Prop} {σ : St} {lv : List (Nat × Value)} {rest : List Value} {pc index : Nat} (h : XOk C cc own Ts R0) (hg : XG C g) (hl : Cond.fieldLink own index "CoalitionChecker$Reader" "box" "I" ∈ Ts) (hin : ∀ w ∈ wsX40, w ∈ Ts) (hdg : decode cc pc = .ok (.getfield index, 3)) (k : Xs C (wW g) Q σ (pc + 3) lv (.int (σ 73 10) :: rest)) : Xs C (wW g) Q σ pc lv (.ref (gA g 73) :: rest) := x_get h hg (by decide) (cE_73 g _) (ci := 4) (CN := RX4) (T := TX4) (N := 12) rfl hin 10 (by decide) hl rfl rfl hdg k
theorem x_put_X4_73_10 {C : XC} {cc : ByteArray} {own : String} {Ts : List Cond} {R0 : Room} {g : cG} {Q : State → Prop} {σ : St} {lv : List (Nat × Value)} {rest : List Value} {pc index : Nat} {v : Int32} (h : XOk C cc own Ts R0) (hg : XG C g) (hl : Cond.fieldLink own index "CoalitionChecker$Reader" "box" "I" ∈ Ts) (hin : ∀ w ∈ wsX40, w ∈ Ts) (hdg : decode cc pc = .ok (.putfield index, 3)) (k : Xs C (wW g) Q (up σ 73 10 v) (pc + 3) lv rest) : Xs C (wW g) Q σ pc lv (.int v :: .ref (gA g 73) :: rest) := x_put h hg (by decide) (cE_73 g _) (ci := 4) (CN := RX4) (T := TX4) (N := 12) rfl hin tyX4 tyX4_ok nmX4 10 (by decide) hl rfl rfl (ty := .int) rfl rfl rfl (Nat.le_of_ble_eq_true rfl) (cE_73 g _) hdg k
theorem x_get_X4_73_11 {C : XC} {cc : ByteArray} {own : String} {Ts : List Cond} {R0 : Room} {g : cG} {Q : State → Prop} {σ : St} {lv : List (Nat × Value)} {rest : List Value} {pc index : Nat} (h : XOk C cc own Ts R0) (hg : XG C g) (hl : Cond.fieldLink own index "CoalitionChecker$Reader" "formula" "LCoalitionChecker$Formula;" ∈ Ts) (hin : ∀ w ∈ wsX40, w ∈ Ts) (hdg : decode cc pc = .ok (.getfield index, 3)) (k : Xs C (wW g) Q σ (pc + 3) lv (rfF g (σ 73 11) :: rest)) : Xs C (wW g) Q σ pc lv (.ref (gA g 73) :: rest) := x_get h hg (by decide) (cE_73 g _) (ci := 4) (CN := RX4) (T := TX4) (N := 12) rfl hin 11 (by decide) hl rfl rfl hdg k
theorem x_get_X3_78_0 {C : XC} {cc : ByteArray} {own : String} {Ts : List Cond} {R0 : Room} {g : cG} {Q : State → Prop} {σ : St} {lv : List (Nat × Value)} {rest : List Value} {pc index : Nat} (h : XOk C cc own Ts R0) (hg : XG C g) (hl : Cond.fieldLink own index "CoalitionChecker$Meaning" "structure" "LCoalitionChecker$Structure;" ∈ Ts) (hin : ∀ w ∈ wsX30, w ∈ Ts) (hdg : decode cc pc = .ok (.getfield index, 3)) (k : Xs C (wW g) Q σ (pc + 3) lv (.ref (gA g 0) :: rest)) : Xs C (wW g) Q σ pc lv (.ref (gA g 78) :: rest) := x_get h hg (by decide) (cE_78 g _) (ci := 3) (CN := RX3) (T := TX3) (N := 4) rfl hin 0 (by decide) hl rfl rfl hdg k
theorem x_get_X3_78_1 {C : XC} {cc : ByteArray} {own : String} {Ts : List Cond} {R0 : Room} {g : cG} {Q : State → Prop} {σ : St} {lv : List (Nat × Value)} {rest : List Value} {pc index : Nat} (h : XOk C cc own Ts R0) (hg : XG C g) (hl : Cond.fieldLink own index "CoalitionChecker$Meaning" "steps" "LCoalitionChecker$Steps;" ∈ Ts) (hin : ∀ w ∈ wsX30, w ∈ Ts) (hdg : decode cc pc = .ok (.getfield index, 3)) (k : Xs C (wW g) Q σ (pc + 3) lv (.ref (gA g 69) :: rest)) : Xs C (wW g) Q σ pc lv (.ref (gA g 78) :: rest) := x_get h hg (by decide) (cE_78 g _) (ci := 3) (CN := RX3) (T := TX3) (N := 4) rfl hin 1 (by decide) hl rfl rfl hdg k
theorem x_get_X3_78_2 {C : XC} {cc : ByteArray} {own : String} {Ts : List Cond} {R0 : Room} {g : cG} {Q : State → Prop} {σ : St} {lv : List (Nat × Value)} {rest : List Value} {pc index : Nat} (h : XOk C cc own Ts R0) (hg : XG C g) (hl : Cond.fieldLink own index "CoalitionChecker$Meaning" "sets" "[I" ∈ Ts) (hin : ∀ w ∈ wsX30, w ∈ Ts) (hdg : decode cc pc = .ok (.getfield index, 3)) (k : Xs C (wW g) Q σ (pc + 3) lv (.ref (gA g 79) :: rest)) : Xs C (wW g) Q σ pc lv (.ref (gA g 78) :: rest) := x_get h hg (by decide) (cE_78 g _) (ci := 3) (CN := RX3) (T := TX3) (N := 4) rfl hin 2 (by decide) hl rfl rfl hdg k
theorem x_get_X3_78_3 {C : XC} {cc : ByteArray} {own : String} {Ts : List Cond} {R0 : Room} {g : cG} {Q : State → Prop} {σ : St} {lv : List (Nat × Value)} {rest : List Value} {pc index : Nat} (h : XOk C cc own Ts R0) (hg : XG C g) (hl : Cond.fieldLink own index "CoalitionChecker$Meaning" "ranks" "[I" ∈ Ts) (hin : ∀ w ∈ wsX30, w ∈ Ts) (hdg : decode cc pc = .ok (.getfield index, 3)) (k : Xs C (wW g) Q σ (pc + 3) lv (.ref (gA g 80) :: rest)) : Xs C (wW g) Q σ pc lv (.ref (gA g 78) :: rest) := x_get h hg (by decide) (cE_78 g _) (ci := 3) (CN := RX3) (T := TX3) (N := 4) rfl hin 3 (by decide) hl rfl rfl hdg k
theorem x_get_X8_81_0 {C : XC} {cc : ByteArray} {own : String} {Ts : List Cond} {R0 : Room} {g : cG} {Q : State → Prop} {σ : St} {lv : List (Nat × Value)} {rest : List Value} {pc index : Nat} (h : XOk C cc own Ts R0) (hg : XG C g) (hl : Cond.fieldLink own index "CoalitionChecker$Tactics" "structure" "LCoalitionChecker$Structure;" ∈ Ts) (hin : ∀ w ∈ wsX80, w ∈ Ts) (hdg : decode cc pc = .ok (.getfield index, 3)) (k : Xs C (wW g) Q σ (pc + 3) lv (.ref (gA g 0) :: rest)) : Xs C (wW g) Q σ pc lv (.ref (gA g 81) :: rest) := x_get h hg (by decide) (cE_81 g _) (ci := 7) (CN := RX8) (T := TX8) (N := 4) rfl hin 0 (by decide) hl rfl rfl hdg k
theorem x_get_X8_81_1 {C : XC} {cc : ByteArray} {own : String} {Ts : List Cond} {R0 : Room} {g : cG} {Q : State → Prop} {σ : St} {lv : List (Nat × Value)} {rest : List Value} {pc index : Nat} (h : XOk C cc own Ts R0) (hg : XG C g) (hl : Cond.fieldLink own index "CoalitionChecker$Tactics" "steps" "LCoalitionChecker$Steps;" ∈ Ts) (hin : ∀ w ∈ wsX80, w ∈ Ts) (hdg : decode cc pc = .ok (.getfield index, 3)) (k : Xs C (wW g) Q σ (pc + 3) lv (.ref (gA g 69) :: rest)) : Xs C (wW g) Q σ pc lv (.ref (gA g 81) :: rest) := x_get h hg (by decide) (cE_81 g _) (ci := 7) (CN := RX8) (T := TX8) (N := 4) rfl hin 1 (by decide) hl rfl rfl hdg k
theorem x_get_X8_81_2 {C : XC} {cc : ByteArray} {own : String} {Ts : List Cond} {R0 : Room} {g : cG} {Q : State → Prop} {σ : St} {lv : List (Nat × Value)} {rest : List Value} {pc index : Nat} (h : XOk C cc own Ts R0) (hg : XG C g) (hl : Cond.fieldLink own index "CoalitionChecker$Tactics" "meaning" "LCoalitionChecker$Meaning;" ∈ Ts) (hin : ∀ w ∈ wsX80, w ∈ Ts) (hdg : decode cc pc = .ok (.getfield index, 3)) (k : Xs C (wW g) Q σ (pc + 3) lv (.ref (gA g 78) :: rest)) : Xs C (wW g) Q σ pc lv (.ref (gA g 81) :: rest) := x_get h hg (by decide) (cE_81 g _) (ci := 7) (CN := RX8) (T := TX8) (N := 4) rfl hin 2 (by decide) hl rfl rfl hdg k
theorem x_get_X8_81_3 {C : XC} {cc : ByteArray} {own : String} {Ts : List Cond} {R0 : Room} {g : cG} {Q : State → Prop} {σ : St} {lv : List (Nat × Value)} {rest : List Value} {pc index : Nat} (h : XOk C cc own Ts R0) (hg : XG C g) (hl : Cond.fieldLink own index "CoalitionChecker$Tactics" "held" "I" ∈ Ts) (hin : ∀ w ∈ wsX80, w ∈ Ts) (hdg : decode cc pc = .ok (.getfield index, 3)) (k : Xs C (wW g) Q σ (pc + 3) lv (.int (σ 81 3) :: rest)) : Xs C (wW g) Q σ pc lv (.ref (gA g 81) :: rest) := x_get h hg (by decide) (cE_81 g _) (ci := 7) (CN := RX8) (T := TX8) (N := 4) rfl hin 3 (by decide) hl rfl rfl hdg k
theorem x_put_X8_81_3 {C : XC} {cc : ByteArray} {own : String} {Ts : List Cond} {R0 : Room} {g : cG} {Q : State → Prop} {σ : St} {lv : List (Nat × Value)} {rest : List Value} {pc index : Nat} {v : Int32} (h : XOk C cc own Ts R0) (hg : XG C g) (hl : Cond.fieldLink own index "CoalitionChecker$Tactics" "held" "I" ∈ Ts) (hin : ∀ w ∈ wsX80, w ∈ Ts) (hdg : decode cc pc = .ok (.putfield index, 3)) (k : Xs C (wW g) Q (up σ 81 3 v) (pc + 3) lv rest) : Xs C (wW g) Q σ pc lv (.int v :: .ref (gA g 81) :: rest) := x_put h hg (by decide) (cE_81 g _) (ci := 7) (CN := RX8) (T := TX8) (N := 4) rfl hin tyX8 tyX8_ok nmX8 3 (by decide) hl rfl rfl (ty := .int) rfl rfl rfl (Nat.le_of_ble_eq_true rfl) (cE_81 g _) hdg k
theorem x_get_X2_82_0 {C : XC} {cc : ByteArray} {own : String} {Ts : List Cond} {R0 : Room} {g : cG} {Q : State → Prop} {σ : St} {lv : List (Nat × Value)} {rest : List Value} {pc index : Nat} (h : XOk C cc own Ts R0) (hg : XG C g) (hl : Cond.fieldLink own index "CoalitionChecker$Likeness" "structure" "LCoalitionChecker$Structure;" ∈ Ts) (hin : ∀ w ∈ wsX20, w ∈ Ts) (hdg : decode cc pc = .ok (.getfield index, 3)) (k : Xs C (wW g) Q σ (pc + 3) lv (.ref (gA g 0) :: rest)) : Xs C (wW g) Q σ pc lv (.ref (gA g 82) :: rest) := x_get h hg (by decide) (cE_82 g _) (ci := 2) (CN := RX2) (T := TX2) (N := 6) rfl hin 0 (by decide) hl rfl rfl hdg k
theorem x_get_X2_82_1 {C : XC} {cc : ByteArray} {own : String} {Ts : List Cond} {R0 : Room} {g : cG} {Q : State → Prop} {σ : St} {lv : List (Nat × Value)} {rest : List Value} {pc index : Nat} (h : XOk C cc own Ts R0) (hg : XG C g) (hl : Cond.fieldLink own index "CoalitionChecker$Likeness" "steps" "LCoalitionChecker$Steps;" ∈ Ts) (hin : ∀ w ∈ wsX20, w ∈ Ts) (hdg : decode cc pc = .ok (.getfield index, 3)) (k : Xs C (wW g) Q σ (pc + 3) lv (.ref (gA g 69) :: rest)) : Xs C (wW g) Q σ pc lv (.ref (gA g 82) :: rest) := x_get h hg (by decide) (cE_82 g _) (ci := 2) (CN := RX2) (T := TX2) (N := 6) rfl hin 1 (by decide) hl rfl rfl hdg k
theorem x_get_X2_82_2 {C : XC} {cc : ByteArray} {own : String} {Ts : List Cond} {R0 : Room} {g : cG} {Q : State → Prop} {σ : St} {lv : List (Nat × Value)} {rest : List Value} {pc index : Nat} (h : XOk C cc own Ts R0) (hg : XG C g) (hl : Cond.fieldLink own index "CoalitionChecker$Likeness" "classNumbers" "[I" ∈ Ts) (hin : ∀ w ∈ wsX20, w ∈ Ts) (hdg : decode cc pc = .ok (.getfield index, 3)) (k : Xs C (wW g) Q σ (pc + 3) lv (.ref (gA g 83) :: rest)) : Xs C (wW g) Q σ pc lv (.ref (gA g 82) :: rest) := x_get h hg (by decide) (cE_82 g _) (ci := 2) (CN := RX2) (T := TX2) (N := 6) rfl hin 2 (by decide) hl rfl rfl hdg k
theorem x_get_X2_82_3 {C : XC} {cc : ByteArray} {own : String} {Ts : List Cond} {R0 : Room} {g : cG} {Q : State → Prop} {σ : St} {lv : List (Nat × Value)} {rest : List Value} {pc index : Nat} (h : XOk C cc own Ts R0) (hg : XG C g) (hl : Cond.fieldLink own index "CoalitionChecker$Likeness" "finer" "[I" ∈ Ts) (hin : ∀ w ∈ wsX20, w ∈ Ts) (hdg : decode cc pc = .ok (.getfield index, 3)) (k : Xs C (wW g) Q σ (pc + 3) lv (.ref (gA g 84) :: rest)) : Xs C (wW g) Q σ pc lv (.ref (gA g 82) :: rest) := x_get h hg (by decide) (cE_82 g _) (ci := 2) (CN := RX2) (T := TX2) (N := 6) rfl hin 3 (by decide) hl rfl rfl hdg k
theorem x_get_X2_82_4 {C : XC} {cc : ByteArray} {own : String} {Ts : List Cond} {R0 : Room} {g : cG} {Q : State → Prop} {σ : St} {lv : List (Nat × Value)} {rest : List Value} {pc index : Nat} (h : XOk C cc own Ts R0) (hg : XG C g) (hl : Cond.fieldLink own index "CoalitionChecker$Likeness" "oneSpread" "[I" ∈ Ts) (hin : ∀ w ∈ wsX20, w ∈ Ts) (hdg : decode cc pc = .ok (.getfield index, 3)) (k : Xs C (wW g) Q σ (pc + 3) lv (.ref (gA g 85) :: rest)) : Xs C (wW g) Q σ pc lv (.ref (gA g 82) :: rest) := x_get h hg (by decide) (cE_82 g _) (ci := 2) (CN := RX2) (T := TX2) (N := 6) rfl hin 4 (by decide) hl rfl rfl hdg k
theorem x_get_X2_82_5 {C : XC} {cc : ByteArray} {own : String} {Ts : List Cond} {R0 : Room} {g : cG} {Q : State → Prop} {σ : St} {lv : List (Nat × Value)} {rest : List Value} {pc index : Nat} (h : XOk C cc own Ts R0) (hg : XG C g) (hl : Cond.fieldLink own index "CoalitionChecker$Likeness" "otherSpread" "[I" ∈ Ts) (hin : ∀ w ∈ wsX20, w ∈ Ts) (hdg : decode cc pc = .ok (.getfield index, 3)) (k : Xs C (wW g) Q σ (pc + 3) lv (.ref (gA g 86) :: rest)) : Xs C (wW g) Q σ pc lv (.ref (gA g 82) :: rest) := x_get h hg (by decide) (cE_82 g _) (ci := 2) (CN := RX2) (T := TX2) (N := 6) rfl hin 5 (by decide) hl rfl rfl hdg k
theorem x_get_X7_0_0 {C : XC} {cc : ByteArray} {own : String} {Ts : List Cond} {R0 : Room} {g : cG} {Q : State → Prop} {σ : St} {lv : List (Nat × Value)} {rest : List Value} {pc index : Nat} (h : XOk C cc own Ts R0) (hg : XG C g) (hl : Cond.fieldLink own index "CoalitionChecker$Structure" "agentCount" "I" ∈ Ts) (hin : ∀ w ∈ wsX70, w ∈ Ts) (hdg : decode cc pc = .ok (.getfield index, 3)) (k : Xs C (wW g) Q σ (pc + 3) lv (.int (σ 0 0) :: rest)) : Xs C (wW g) Q σ pc lv (.ref (gA g 0) :: rest) := x_get h hg (by decide) (cE_0 g _) (ci := 6) (CN := RX7) (T := TX7) (N := 8) rfl hin 0 (by decide) hl rfl rfl hdg k
theorem x_get_X7_0_1 {C : XC} {cc : ByteArray} {own : String} {Ts : List Cond} {R0 : Room} {g : cG} {Q : State → Prop} {σ : St} {lv : List (Nat × Value)} {rest : List Value} {pc index : Nat} (h : XOk C cc own Ts R0) (hg : XG C g) (hl : Cond.fieldLink own index "CoalitionChecker$Structure" "coalitionLimit" "I" ∈ Ts) (hin : ∀ w ∈ wsX70, w ∈ Ts) (hdg : decode cc pc = .ok (.getfield index, 3)) (k : Xs C (wW g) Q σ (pc + 3) lv (.int (σ 0 1) :: rest)) : Xs C (wW g) Q σ pc lv (.ref (gA g 0) :: rest) := x_get h hg (by decide) (cE_0 g _) (ci := 6) (CN := RX7) (T := TX7) (N := 8) rfl hin 1 (by decide) hl rfl rfl hdg k
theorem x_get_X7_0_2 {C : XC} {cc : ByteArray} {own : String} {Ts : List Cond} {R0 : Room} {g : cG} {Q : State → Prop} {σ : St} {lv : List (Nat × Value)} {rest : List Value} {pc index : Nat} (h : XOk C cc own Ts R0) (hg : XG C g) (hl : Cond.fieldLink own index "CoalitionChecker$Structure" "moveLimit" "I" ∈ Ts) (hin : ∀ w ∈ wsX70, w ∈ Ts) (hdg : decode cc pc = .ok (.getfield index, 3)) (k : Xs C (wW g) Q σ (pc + 3) lv (.int (σ 0 2) :: rest)) : Xs C (wW g) Q σ pc lv (.ref (gA g 0) :: rest) := x_get h hg (by decide) (cE_0 g _) (ci := 6) (CN := RX7) (T := TX7) (N := 8) rfl hin 2 (by decide) hl rfl rfl hdg k
theorem x_get_X7_0_3 {C : XC} {cc : ByteArray} {own : String} {Ts : List Cond} {R0 : Room} {g : cG} {Q : State → Prop} {σ : St} {lv : List (Nat × Value)} {rest : List Value} {pc index : Nat} (h : XOk C cc own Ts R0) (hg : XG C g) (hl : Cond.fieldLink own index "CoalitionChecker$Structure" "labelSets" "[I" ∈ Ts) (hin : ∀ w ∈ wsX70, w ∈ Ts) (hdg : decode cc pc = .ok (.getfield index, 3)) (k : Xs C (wW g) Q σ (pc + 3) lv (.ref (gA g 1) :: rest)) : Xs C (wW g) Q σ pc lv (.ref (gA g 0) :: rest) := x_get h hg (by decide) (cE_0 g _) (ci := 6) (CN := RX7) (T := TX7) (N := 8) rfl hin 3 (by decide) hl rfl rfl hdg k
theorem x_get_X7_0_4 {C : XC} {cc : ByteArray} {own : String} {Ts : List Cond} {R0 : Room} {g : cG} {Q : State → Prop} {σ : St} {lv : List (Nat × Value)} {rest : List Value} {pc index : Nat} (h : XOk C cc own Ts R0) (hg : XG C g) (hl : Cond.fieldLink own index "CoalitionChecker$Structure" "actionCounts" "[I" ∈ Ts) (hin : ∀ w ∈ wsX70, w ∈ Ts) (hdg : decode cc pc = .ok (.getfield index, 3)) (k : Xs C (wW g) Q σ (pc + 3) lv (.ref (gA g 2) :: rest)) : Xs C (wW g) Q σ pc lv (.ref (gA g 0) :: rest) := x_get h hg (by decide) (cE_0 g _) (ci := 6) (CN := RX7) (T := TX7) (N := 8) rfl hin 4 (by decide) hl rfl rfl hdg k
theorem x_get_X7_0_5 {C : XC} {cc : ByteArray} {own : String} {Ts : List Cond} {R0 : Room} {g : cG} {Q : State → Prop} {σ : St} {lv : List (Nat × Value)} {rest : List Value} {pc index : Nat} (h : XOk C cc own Ts R0) (hg : XG C g) (hl : Cond.fieldLink own index "CoalitionChecker$Structure" "plannedActions" "[I" ∈ Ts) (hin : ∀ w ∈ wsX70, w ∈ Ts) (hdg : decode cc pc = .ok (.getfield index, 3)) (k : Xs C (wW g) Q σ (pc + 3) lv (.ref (gA g 3) :: rest)) : Xs C (wW g) Q σ pc lv (.ref (gA g 0) :: rest) := x_get h hg (by decide) (cE_0 g _) (ci := 6) (CN := RX7) (T := TX7) (N := 8) rfl hin 5 (by decide) hl rfl rfl hdg k
theorem x_get_X7_0_6 {C : XC} {cc : ByteArray} {own : String} {Ts : List Cond} {R0 : Room} {g : cG} {Q : State → Prop} {σ : St} {lv : List (Nat × Value)} {rest : List Value} {pc index : Nat} (h : XOk C cc own Ts R0) (hg : XG C g) (hl : Cond.fieldLink own index "CoalitionChecker$Structure" "targets" "[I" ∈ Ts) (hin : ∀ w ∈ wsX70, w ∈ Ts) (hdg : decode cc pc = .ok (.getfield index, 3)) (k : Xs C (wW g) Q σ (pc + 3) lv (.ref (gA g 4) :: rest)) : Xs C (wW g) Q σ pc lv (.ref (gA g 0) :: rest) := x_get h hg (by decide) (cE_0 g _) (ci := 6) (CN := RX7) (T := TX7) (N := 8) rfl hin 6 (by decide) hl rfl rfl hdg k
theorem x_get_X7_0_7 {C : XC} {cc : ByteArray} {own : String} {Ts : List Cond} {R0 : Room} {g : cG} {Q : State → Prop} {σ : St} {lv : List (Nat × Value)} {rest : List Value} {pc index : Nat} (h : XOk C cc own Ts R0) (hg : XG C g) (hl : Cond.fieldLink own index "CoalitionChecker$Structure" "stateCount" "I" ∈ Ts) (hin : ∀ w ∈ wsX70, w ∈ Ts) (hdg : decode cc pc = .ok (.getfield index, 3)) (k : Xs C (wW g) Q σ (pc + 3) lv (.int (σ 0 7) :: rest)) : Xs C (wW g) Q σ pc lv (.ref (gA g 0) :: rest) := x_get h hg (by decide) (cE_0 g _) (ci := 6) (CN := RX7) (T := TX7) (N := 8) rfl hin 7 (by decide) hl rfl rfl hdg k
theorem x_put_X7_0_7 {C : XC} {cc : ByteArray} {own : String} {Ts : List Cond} {R0 : Room} {g : cG} {Q : State → Prop} {σ : St} {lv : List (Nat × Value)} {rest : List Value} {pc index : Nat} {v : Int32} (h : XOk C cc own Ts R0) (hg : XG C g) (hl : Cond.fieldLink own index "CoalitionChecker$Structure" "stateCount" "I" ∈ Ts) (hin : ∀ w ∈ wsX70, w ∈ Ts) (hdg : decode cc pc = .ok (.putfield index, 3)) (k : Xs C (wW g) Q (up σ 0 7 v) (pc + 3) lv rest) : Xs C (wW g) Q σ pc lv (.int v :: .ref (gA g 0) :: rest) := x_put h hg (by decide) (cE_0 g _) (ci := 6) (CN := RX7) (T := TX7) (N := 8) rfl hin tyX7 tyX7_ok nmX7 7 (by decide) hl rfl rfl (ty := .int) rfl rfl rfl (Nat.le_of_ble_eq_true rfl) (cE_0 g _) hdg k
theorem x_get_X7_t_0 {C : XC} {cc : ByteArray} {own : String} {Ts : List Cond} {R0 : Room} {g : cG} {Q : State → Prop} {σ : St} {lv : List (Nat × Value)} {rest : List Value} {pc index : Nat} {t : Nat} (ht : isS t = true) (h : XOk C cc own Ts R0) (hg : XG C g) (hl : Cond.fieldLink own index "CoalitionChecker$Structure" "agentCount" "I" ∈ Ts) (hin : ∀ w ∈ wsX70, w ∈ Ts) (hdg : decode cc pc = .ok (.getfield index, 3)) (k : Xs C (wW g) Q σ (pc + 3) lv (.int (σ t 0) :: rest)) : Xs C (wW g) Q σ pc lv (.ref (gA g t) :: rest) := x_get h hg (isS_lt ht) (cE_S ht g _) (ci := 6) (CN := RX7) (T := TX7) (N := 8) rfl hin 0 (by decide) hl rfl rfl hdg k
theorem x_get_X7_t_1 {C : XC} {cc : ByteArray} {own : String} {Ts : List Cond} {R0 : Room} {g : cG} {Q : State → Prop} {σ : St} {lv : List (Nat × Value)} {rest : List Value} {pc index : Nat} {t : Nat} (ht : isS t = true) (h : XOk C cc own Ts R0) (hg : XG C g) (hl : Cond.fieldLink own index "CoalitionChecker$Structure" "coalitionLimit" "I" ∈ Ts) (hin : ∀ w ∈ wsX70, w ∈ Ts) (hdg : decode cc pc = .ok (.getfield index, 3)) (k : Xs C (wW g) Q σ (pc + 3) lv (.int (σ t 1) :: rest)) : Xs C (wW g) Q σ pc lv (.ref (gA g t) :: rest) := x_get h hg (isS_lt ht) (cE_S ht g _) (ci := 6) (CN := RX7) (T := TX7) (N := 8) rfl hin 1 (by decide) hl rfl rfl hdg k
theorem x_get_X7_t_2 {C : XC} {cc : ByteArray} {own : String} {Ts : List Cond} {R0 : Room} {g : cG} {Q : State → Prop} {σ : St} {lv : List (Nat × Value)} {rest : List Value} {pc index : Nat} {t : Nat} (ht : isS t = true) (h : XOk C cc own Ts R0) (hg : XG C g) (hl : Cond.fieldLink own index "CoalitionChecker$Structure" "moveLimit" "I" ∈ Ts) (hin : ∀ w ∈ wsX70, w ∈ Ts) (hdg : decode cc pc = .ok (.getfield index, 3)) (k : Xs C (wW g) Q σ (pc + 3) lv (.int (σ t 2) :: rest)) : Xs C (wW g) Q σ pc lv (.ref (gA g t) :: rest) := x_get h hg (isS_lt ht) (cE_S ht g _) (ci := 6) (CN := RX7) (T := TX7) (N := 8) rfl hin 2 (by decide) hl rfl rfl hdg k
theorem x_get_X7_t_3 {C : XC} {cc : ByteArray} {own : String} {Ts : List Cond} {R0 : Room} {g : cG} {Q : State → Prop} {σ : St} {lv : List (Nat × Value)} {rest : List Value} {pc index : Nat} {t : Nat} (ht : isS t = true) (h : XOk C cc own Ts R0) (hg : XG C g) (hl : Cond.fieldLink own index "CoalitionChecker$Structure" "labelSets" "[I" ∈ Ts) (hin : ∀ w ∈ wsX70, w ∈ Ts) (hdg : decode cc pc = .ok (.getfield index, 3)) (k : Xs C (wW g) Q σ (pc + 3) lv (.ref (gA g (t + 1)) :: rest)) : Xs C (wW g) Q σ pc lv (.ref (gA g t) :: rest) := x_get h hg (isS_lt ht) (cE_S ht g _) (ci := 6) (CN := RX7) (T := TX7) (N := 8) rfl hin 3 (by decide) hl rfl rfl hdg k
theorem x_get_X7_t_4 {C : XC} {cc : ByteArray} {own : String} {Ts : List Cond} {R0 : Room} {g : cG} {Q : State → Prop} {σ : St} {lv : List (Nat × Value)} {rest : List Value} {pc index : Nat} {t : Nat} (ht : isS t = true) (h : XOk C cc own Ts R0) (hg : XG C g) (hl : Cond.fieldLink own index "CoalitionChecker$Structure" "actionCounts" "[I" ∈ Ts) (hin : ∀ w ∈ wsX70, w ∈ Ts) (hdg : decode cc pc = .ok (.getfield index, 3)) (k : Xs C (wW g) Q σ (pc + 3) lv (.ref (gA g (t + 2)) :: rest)) : Xs C (wW g) Q σ pc lv (.ref (gA g t) :: rest) := x_get h hg (isS_lt ht) (cE_S ht g _) (ci := 6) (CN := RX7) (T := TX7) (N := 8) rfl hin 4 (by decide) hl rfl rfl hdg k
theorem x_get_X7_t_5 {C : XC} {cc : ByteArray} {own : String} {Ts : List Cond} {R0 : Room} {g : cG} {Q : State → Prop} {σ : St} {lv : List (Nat × Value)} {rest : List Value} {pc index : Nat} {t : Nat} (ht : isS t = true) (h : XOk C cc own Ts R0) (hg : XG C g) (hl : Cond.fieldLink own index "CoalitionChecker$Structure" "plannedActions" "[I" ∈ Ts) (hin : ∀ w ∈ wsX70, w ∈ Ts) (hdg : decode cc pc = .ok (.getfield index, 3)) (k : Xs C (wW g) Q σ (pc + 3) lv (.ref (gA g (t + 3)) :: rest)) : Xs C (wW g) Q σ pc lv (.ref (gA g t) :: rest) := x_get h hg (isS_lt ht) (cE_S ht g _) (ci := 6) (CN := RX7) (T := TX7) (N := 8) rfl hin 5 (by decide) hl rfl rfl hdg k
theorem x_get_X7_t_6 {C : XC} {cc : ByteArray} {own : String} {Ts : List Cond} {R0 : Room} {g : cG} {Q : State → Prop} {σ : St} {lv : List (Nat × Value)} {rest : List Value} {pc index : Nat} {t : Nat} (ht : isS t = true) (h : XOk C cc own Ts R0) (hg : XG C g) (hl : Cond.fieldLink own index "CoalitionChecker$Structure" "targets" "[I" ∈ Ts) (hin : ∀ w ∈ wsX70, w ∈ Ts) (hdg : decode cc pc = .ok (.getfield index, 3)) (k : Xs C (wW g) Q σ (pc + 3) lv (.ref (gA g (t + 4)) :: rest)) : Xs C (wW g) Q σ pc lv (.ref (gA g t) :: rest) := x_get h hg (isS_lt ht) (cE_S ht g _) (ci := 6) (CN := RX7) (T := TX7) (N := 8) rfl hin 6 (by decide) hl rfl rfl hdg k
theorem x_get_X7_t_7 {C : XC} {cc : ByteArray} {own : String} {Ts : List Cond} {R0 : Room} {g : cG} {Q : State → Prop} {σ : St} {lv : List (Nat × Value)} {rest : List Value} {pc index : Nat} {t : Nat} (ht : isS t = true) (h : XOk C cc own Ts R0) (hg : XG C g) (hl : Cond.fieldLink own index "CoalitionChecker$Structure" "stateCount" "I" ∈ Ts) (hin : ∀ w ∈ wsX70, w ∈ Ts) (hdg : decode cc pc = .ok (.getfield index, 3)) (k : Xs C (wW g) Q σ (pc + 3) lv (.int (σ t 7) :: rest)) : Xs C (wW g) Q σ pc lv (.ref (gA g t) :: rest) := x_get h hg (isS_lt ht) (cE_S ht g _) (ci := 6) (CN := RX7) (T := TX7) (N := 8) rfl hin 7 (by decide) hl rfl rfl hdg k
theorem x_put_X7_t_7 {C : XC} {cc : ByteArray} {own : String} {Ts : List Cond} {R0 : Room} {g : cG} {Q : State → Prop} {σ : St} {lv : List (Nat × Value)} {rest : List Value} {pc index : Nat} {v : Int32} {t : Nat} (ht : isS t = true) (h : XOk C cc own Ts R0) (hg : XG C g) (hl : Cond.fieldLink own index "CoalitionChecker$Structure" "stateCount" "I" ∈ Ts) (hin : ∀ w ∈ wsX70, w ∈ Ts) (hdg : decode cc pc = .ok (.putfield index, 3)) (k : Xs C (wW g) Q (up σ t 7 v) (pc + 3) lv rest) : Xs C (wW g) Q σ pc lv (.int v :: .ref (gA g t) :: rest) := x_put h hg (isS_lt ht) (cE_S ht g _) (ci := 6) (CN := RX7) (T := TX7) (N := 8) rfl hin tyX7 tyX7_ok nmX7 7 (by decide) hl rfl rfl (ty := .int) rfl rfl rfl (Nat.le_of_ble_eq_true rfl) (cE_S ht g _) hdg k
theorem x_get_X0_t_0 {C : XC} {cc : ByteArray} {own : String} {Ts : List Cond} {R0 : Room} {g : cG} {Q : State → Prop} {σ : St} {lv : List (Nat × Value)} {rest : List Value} {pc index : Nat} {t : Nat} (ht : isF t = true) (h : XOk C cc own Ts R0) (hg : XG C g) (hl : Cond.fieldLink own index "CoalitionChecker$Formula" "kinds" "[I" ∈ Ts) (hin : ∀ w ∈ wsX00, w ∈ Ts) (hdg : decode cc pc = .ok (.getfield index, 3)) (k : Xs C (wW g) Q σ (pc + 3) lv (.ref (gA g (t + 1)) :: rest)) : Xs C (wW g) Q σ pc lv (.ref (gA g t) :: rest) := x_get h hg (isF_lt ht) (cE_F ht g _) (ci := 0) (CN := RX0) (T := TX0) (N := 5) rfl hin 0 (by decide) hl rfl rfl hdg k
theorem x_get_X0_t_1 {C : XC} {cc : ByteArray} {own : String} {Ts : List Cond} {R0 : Room} {g : cG} {Q : State → Prop} {σ : St} {lv : List (Nat × Value)} {rest : List Value} {pc index : Nat} {t : Nat} (ht : isF t = true) (h : XOk C cc own Ts R0) (hg : XG C g) (hl : Cond.fieldLink own index "CoalitionChecker$Formula" "firsts" "[I" ∈ Ts) (hin : ∀ w ∈ wsX00, w ∈ Ts) (hdg : decode cc pc = .ok (.getfield index, 3)) (k : Xs C (wW g) Q σ (pc + 3) lv (.ref (gA g (t + 2)) :: rest)) : Xs C (wW g) Q σ pc lv (.ref (gA g t) :: rest) := x_get h hg (isF_lt ht) (cE_F ht g _) (ci := 0) (CN := RX0) (T := TX0) (N := 5) rfl hin 1 (by decide) hl rfl rfl hdg k
theorem x_get_X0_t_2 {C : XC} {cc : ByteArray} {own : String} {Ts : List Cond} {R0 : Room} {g : cG} {Q : State → Prop} {σ : St} {lv : List (Nat × Value)} {rest : List Value} {pc index : Nat} {t : Nat} (ht : isF t = true) (h : XOk C cc own Ts R0) (hg : XG C g) (hl : Cond.fieldLink own index "CoalitionChecker$Formula" "seconds" "[I" ∈ Ts) (hin : ∀ w ∈ wsX00, w ∈ Ts) (hdg : decode cc pc = .ok (.getfield index, 3)) (k : Xs C (wW g) Q σ (pc + 3) lv (.ref (gA g (t + 3)) :: rest)) : Xs C (wW g) Q σ pc lv (.ref (gA g t) :: rest) := x_get h hg (isF_lt ht) (cE_F ht g _) (ci := 0) (CN := RX0) (T := TX0) (N := 5) rfl hin 2 (by decide) hl rfl rfl hdg k
theorem x_get_X0_t_3 {C : XC} {cc : ByteArray} {own : String} {Ts : List Cond} {R0 : Room} {g : cG} {Q : State → Prop} {σ : St} {lv : List (Nat × Value)} {rest : List Value} {pc index : Nat} {t : Nat} (ht : isF t = true) (h : XOk C cc own Ts R0) (hg : XG C g) (hl : Cond.fieldLink own index "CoalitionChecker$Formula" "details" "[I" ∈ Ts) (hin : ∀ w ∈ wsX00, w ∈ Ts) (hdg : decode cc pc = .ok (.getfield index, 3)) (k : Xs C (wW g) Q σ (pc + 3) lv (.ref (gA g (t + 4)) :: rest)) : Xs C (wW g) Q σ pc lv (.ref (gA g t) :: rest) := x_get h hg (isF_lt ht) (cE_F ht g _) (ci := 0) (CN := RX0) (T := TX0) (N := 5) rfl hin 3 (by decide) hl rfl rfl hdg k
theorem x_get_X0_t_4 {C : XC} {cc : ByteArray} {own : String} {Ts : List Cond} {R0 : Room} {g : cG} {Q : State → Prop} {σ : St} {lv : List (Nat × Value)} {rest : List Value} {pc index : Nat} {t : Nat} (ht : isF t = true) (h : XOk C cc own Ts R0) (hg : XG C g) (hl : Cond.fieldLink own index "CoalitionChecker$Formula" "count" "I" ∈ Ts) (hin : ∀ w ∈ wsX00, w ∈ Ts) (hdg : decode cc pc = .ok (.getfield index, 3)) (k : Xs C (wW g) Q σ (pc + 3) lv (.int (σ t 4) :: rest)) : Xs C (wW g) Q σ pc lv (.ref (gA g t) :: rest) := x_get h hg (isF_lt ht) (cE_F ht g _) (ci := 0) (CN := RX0) (T := TX0) (N := 5) rfl hin 4 (by decide) hl rfl rfl hdg k
theorem x_put_X0_t_4 {C : XC} {cc : ByteArray} {own : String} {Ts : List Cond} {R0 : Room} {g : cG} {Q : State → Prop} {σ : St} {lv : List (Nat × Value)} {rest : List Value} {pc index : Nat} {v : Int32} {t : Nat} (ht : isF t = true) (h : XOk C cc own Ts R0) (hg : XG C g) (hl : Cond.fieldLink own index "CoalitionChecker$Formula" "count" "I" ∈ Ts) (hin : ∀ w ∈ wsX00, w ∈ Ts) (hdg : decode cc pc = .ok (.putfield index, 3)) (k : Xs C (wW g) Q (up σ t 4 v) (pc + 3) lv rest) : Xs C (wW g) Q σ pc lv (.int v :: .ref (gA g t) :: rest) := x_put h hg (isF_lt ht) (cE_F ht g _) (ci := 0) (CN := RX0) (T := TX0) (N := 5) rfl hin tyX0 tyX0_ok nmX0 4 (by decide) hl rfl rfl (ty := .int) rfl rfl rfl (Nat.le_of_ble_eq_true rfl) (cE_F ht g _) hdg k
end
